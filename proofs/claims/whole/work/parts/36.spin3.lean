/-! ===== the spin yard's own methods ===== -/
def scrS (S S' : hyB) : Prop := (∀ k, k ≠ 4 → k ≠ 5 → S'.1 k = S.1 k) ∧ ∀ k, k ≠ 8 → k ≠ 9 → S'.2 k = S.2 k
theorem scrS_refl (S : hyB) : scrS S S := ⟨fun _ _ _ => rfl, fun _ _ _ => rfl⟩
theorem scrS_mk (S : hyB) (B : Nat) (v : Int32) (r bf : Nat → Int32) : scrS S (SB (ss S 9 v) B r bf) := by
  refine ⟨fun k h1 h2 => ?_, fun k h1 h2 => ?_⟩
  · show sv (sv S.1 4 r) 5 bf k = S.1 k
    rw [sv_ne h2, sv_ne h1]
  · show sv (sv S.2 9 v) 8 (nI B) k = S.2 k
    rw [sv_ne h1, sv_ne h2]
theorem iSd_scr {S S' : hyB} {so ho du wo : Nat → Nat} {ch c : Nat} (h : iSd S so ho du wo ch c) (hs : scrS S S') : iSd S' so ho du wo ch c := by
  obtain ⟨d0, d1, d2, d3, d4⟩ := h
  refine ⟨?_, (hs.2 7 (by decide) (by decide)).trans d1, d2, (hs.2 6 (by decide) (by decide)).trans d3, d4⟩
  rw [hs.1 0 (by decide) (by decide), hs.1 1 (by decide) (by decide), hs.1 2 (by decide) (by decide), hs.1 3 (by decide) (by decide)]
  exact d0
def iS (S : hyB) (so ho du wo : Nat → Nat) (ch c : Nat) : Prop := iSd S so ho du wo ch c ∧ (S.2 9 = 0 ∨ (S.2 9 = 1 ∧ ∃ B b, S.2 8 = nI B ∧ B < 1000000 ∧ bestR (tot so ho du wo ch) c B b ∧ rowIs (S.1 5) b))
theorem tot_bd {S : hyB} {so ho du wo : Nat → Nat} {ch c : Nat} (h : iSd S so ho du wo ch c) {p : List Nat} (hp : p.length ≤ 7) : tot so ho du wo ch p < 1000000 := by
  have := rn_bd so ho du wo ch (fun o => (h.1 o).2.2.2.2.2.1) (fun o => (h.1 o).2.2.2.2.2.2.2) h.2.2.1 p 0 0 0 0 (by omega) (by omega) (by omega)
  have h2 := rn_lf so ho du wo ch p 0 0 0
  unfold tot
  omega
section
variable (N F S T C : hyB) (R : hyW) (so ho du wo : Nat → Nat) (ch c : Nat)
theorem r_s_plan (hS : iS S so ho du wo ch c) : hy_R 22 mX4_plan 0 0 [hy_r 13] (wW N F S T C R) (fun o w1 => o = none ∧ ∃ S' B b, scrS S S' ∧ S'.2 9 = 1 ∧ S'.2 8 = nI B ∧ B < 1000000 ∧ bestR (tot so ho du wo ch) c B b ∧ rowIs (S'.1 5) b ∧ w1 = wW N F S' T C R) := by
  refine hy_Rv (L := [some (hy_r 13)]) rfl (by decide) (hy_ple rfl) rfl ?_
  refine hy_go hy_pfA oX4_plan [] 60 0 0 _ ?_
  refine And.intro (fun q => ?_) (fun q => ?_)
  · refine And.intro (Or.inr rfl) ?_
    have hd : iSd (ss S 9 1) so ho du wo ch c := hS.1
    have hTP := TP_of N F (ss S 9 1) T C R so ho du wo ch c hd c [] (List.range c) 0 1000000 [] (S.1 4) (S.1 5) (by simp) (by simp) (by omega) (fun x => by simp) (fun i x hx => by simp at hx) (fun i x hx => by simp at hx) (by show 0 < 1000000; omega) (by omega)
    refine hy_cl hTP (Nat.ble_eq.mpr (by have := hd.2.2.2.2; omega)) ?_
    rintro v w1 ⟨rfl, B', b', r', bf', h1, h2, h3, rfl⟩
    have hE : ∀ p, eS c [] p ↔ p.Perm (List.range c) := fun p => ⟨fun h => h.1, fun h => ⟨h, p, by simp⟩⟩
    rcases h1 with ⟨a1, a2, a3⟩ | ⟨a1, a2, a3, a4⟩
    · have := a3 (List.range c) ((hE _).mpr (List.Perm.refl _))
      have h5 := tot_bd hd (p := List.range c) (by rw [List.length_range]; exact hd.2.2.2.2)
      omega
    · exact And.intro rfl ⟨_, B', b', scrS_mk S B' 1 r' bf', rfl, rfl, a1, ⟨(hE _).mp a2, a3, fun p hp => a4 p ((hE p).mpr hp)⟩, h2, rfl⟩
  · rcases hS.2 with h | ⟨h, B, b, h1, h2, h3, h4⟩
    · exact absurd h q
    · exact And.intro rfl ⟨S, B, b, scrS_refl S, h, h1, h2, h3, h4, rfl⟩
theorem r_s_late (hS : iS S so ho du wo ch c) : hy_R 23 mX4_leastLate 0 0 [hy_r 13] (wW N F S T C R) (fun o w1 => ∃ x, o = some x ∧ ∃ S' B b, x = nI B ∧ scrS S S' ∧ bestR (tot so ho du wo ch) c B b ∧ iS S' so ho du wo ch c ∧ w1 = wW N F S' T C R) := by
  refine hy_Ri (L := [some (hy_r 13)]) rfl (by decide) (hy_ple rfl) rfl ?_
  refine hy_go hy_pfA oX4_leastLate [] 60 0 0 _ ?_
  refine hy_cl (r_s_plan N F S T C R so ho du wo ch c hS) rfl ?_
  rintro v w1 ⟨rfl, S', B, b, s1, s2, s3, s4, s5, s6, rfl⟩
  exact hy_fin ⟨S', B, b, s3, s1, s5, ⟨iSd_scr hS.1 s1, Or.inr ⟨s2, B, b, s3, s4, s5, s6⟩⟩, rfl⟩
theorem r_s_orderAt (a : Int32) (hS : iS S so ho du wo ch c) : hy_R 23 mX4_orderAt 0 0 [hy_r 13, .inl a] (wW N F S T C R) (fun o w1 => ∃ x, o = some x ∧ ∃ S', scrS S S' ∧ iS S' so ho du wo ch c ∧ ((∃ k B b y, k < c ∧ a = nI k ∧ bestR (tot so ho du wo ch) c B b ∧ b[k]? = some y ∧ x = nI y) ∨ ((¬ ∃ k, k < c ∧ a = nI k) ∧ x = -1)) ∧ w1 = wW N F S' T C R) := by
  have d3 := hS.1.2.2.2.1
  have d4 := hS.1.2.2.2.2
  refine hy_Ri (L := [some (hy_r 13), some (.inl a)]) rfl (by decide) (hy_ple rfl) rfl ?_
  refine hy_go hy_pfA oX4_orderAt [] 60 0 0 _ ?_
  refine And.intro (fun q => ?_) (fun q => ?_)
  · rw [d3] at q
    exact hy_fin ⟨S, scrS_refl S, hS, Or.inr ⟨net_out (by omega) q, rfl⟩, rfl⟩
  · rw [d3] at q
    obtain ⟨k, hk, rfl⟩ := net_in (by omega) q
    have hcl : (nI k).toNatClampNeg = k := cl_nI (by omega)
    refine hy_cl (r_s_plan N F S T C R so ho du wo ch c hS) rfl ?_
    rintro v w1 ⟨rfl, S', B, b, s1, s2, s3, s4, s5, s6, rfl⟩
    refine And.intro (vn_in (by omega) (by decide)) ?_
    have hlen : b.length = c := by rw [s5.1.length_eq]; simp
    have hb : b[k]? = some b[k] := List.getElem?_eq_getElem (by omega)
    refine hy_fin ⟨S', s1, ⟨iSd_scr hS.1 s1, Or.inr ⟨s2, B, b, s3, s4, s5, s6⟩⟩, Or.inl ⟨k, B, b, b[k], hk, rfl, s5, hb, ?_⟩, rfl⟩
    show S'.1 5 (nI k).toNatClampNeg = _
    rw [hcl]; exact s6 k _ hb
theorem take_s {b : List Nat} {i y : Nat} (h : b[i]? = some y) : b.take (i + 1) = b.take i ++ [y] := by
  rw [List.take_succ, h]; rfl
theorem l_s_endAt (Q : hyQ) (k : Nat) (b : List Nat) (hd : iSd S so ho du wo ch c) (hk : k < c) (hb : b.Perm (List.range c)) (hr : rowIs (S.1 5) b)
    (K : Q (some (nI (rn so ho du wo ch (b.take (k + 1)) (0, 0, 0)).1)) (wW N F S T C R)) :
    ∀ (j i : Nat), k + 1 - i = j → i ≤ k + 1 → hy_X none 23 mX4_endAt Q 0 0 (27, [some (hy_r 13), some (.inl (nI k)), some (.inl (nI (rn so ho du wo ch (b.take i) (0, 0, 0)).1)), some (.inl (nI (rn so ho du wo ch (b.take i) (0, 0, 0)).2.1)), some (.inl (nI i))], [], wW N F S T C R) := by
  obtain ⟨d0, d1, d2, d3, d4⟩ := id hd
  have hlen : b.length = c := by rw [hb.length_eq]; simp
  intro j
  induction j with
  | zero =>
    intro i hj hi
    have : i = k + 1 := by omega
    subst this
    refine hy_go hy_pfA oX4_endAt [27] 60 0 0 _ ?_
    exact And.intro (fun q => K) (fun q => absurd (nI_lt (by omega) (by omega)) q)
  | succ j ih =>
    intro i hj hi
    have hcl : (nI i).toNatClampNeg = i := cl_nI (by omega)
    have hin : vp_in (nI i) 7 := vn_in (by omega) (by decide)
    have hbi : b[i]? = some b[i] := List.getElem?_eq_getElem (by omega)
    obtain ⟨y, hy⟩ : ∃ y, y = b[i] := ⟨_, rfl⟩
    rw [← hy] at hbi
    have hyc : y < c := List.mem_range.mp (hb.mem_iff.mp (List.mem_of_getElem? hbi))
    have nx := ih (i + 1) (by omega) (by omega)
    have bd := rn_bd so ho du wo ch (fun o => (d0 o).2.2.2.2.2.1) (fun o => (d0 o).2.2.2.2.2.2.2) d2 (b.take i) 0 0 0 0 (by omega) (by omega) (by rw [List.length_take]; omega)
    have bs := rn_sort so ho du wo ch (fun o => (d0 o).2.2.2.2.1) (b.take i) 0 0 0 (by omega)
    rw [List.length_take] at bd
    rw [take_s hbi, rn_app] at nx
    generalize rn so ho du wo ch (b.take i) (0, 0, 0) = st at *
    obtain ⟨h, s, l⟩ := st
    dsimp only [rn] at *
    have e0 : S.1 5 (nI i).toNatClampNeg = nI y := by rw [hcl]; exact hr i y hbi
    have hycl : (nI y).toNatClampNeg = y := cl_nI (by omega)
    refine hy_go hy_pfA oX4_endAt [27] 60 0 0 _ ?_
    refine And.intro (fun q => ?_) (fun q => ?_)
    · have q := zi_lt.mp q
      rw [zi_nI (by omega), zi_nI (by omega)] at q; omega
    · refine And.intro hin ?_
      have hw : hy_R 3 mX4_endOf 0 0 [hy_r 13, .inl (S.1 5 (nI i).toNatClampNeg), .inl (nI h), .inl (nI s)] (wW N F S T C R) (fun v w1 => ∃ x, v = some x ∧ x = nI (en so ho ch h s y) ∧ w1 = wW N F S T C R) := by
        rw [e0]
        exact r_s_endOf N F S T C R so ho du wo ch c y h s hd (by omega) (by omega) (by omega)
      refine hy_cl hw rfl ?_
      rintro v w1 ⟨x, rfl, rfl, rfl⟩
      refine And.intro hin (And.intro ?_ ?_)
      · rw [e0]; exact vn_in (by omega) (by decide)
      · have e1 : S.1 0 (S.1 5 (nI i).toNatClampNeg).toNatClampNeg = nI (so y) := by rw [e0, hycl]; exact (d0 y).1
        rw [← nI_s, ← e1] at nx
        exact nx
theorem r_s_endAt (a : Int32) (hS : iS S so ho du wo ch c) : hy_R 23 mX4_endAt 0 0 [hy_r 13, .inl a] (wW N F S T C R) (fun o w1 => ∃ x, o = some x ∧ ∃ S', scrS S S' ∧ iS S' so ho du wo ch c ∧ ((∃ k B b, k < c ∧ a = nI k ∧ bestR (tot so ho du wo ch) c B b ∧ x = nI (rn so ho du wo ch (b.take (k + 1)) (0, 0, 0)).1) ∨ ((¬ ∃ k, k < c ∧ a = nI k) ∧ x = -1)) ∧ w1 = wW N F S' T C R) := by
  have d3 := hS.1.2.2.2.1
  have d4 := hS.1.2.2.2.2
  refine hy_Ri (L := [some (hy_r 13), some (.inl a), none, none, none]) rfl (by decide) (hy_ple rfl) rfl ?_
  refine hy_go hy_pfA oX4_endAt [27] 60 0 0 _ ?_
  refine And.intro (fun q => ?_) (fun q => ?_)
  · rw [d3] at q
    exact hy_fin ⟨S, scrS_refl S, hS, Or.inr ⟨net_out (by omega) q, rfl⟩, rfl⟩
  · rw [d3] at q
    obtain ⟨k, hk, rfl⟩ := net_in (by omega) q
    refine hy_cl (r_s_plan N F S T C R so ho du wo ch c hS) rfl ?_
    rintro v w1 ⟨rfl, S', B, b, s1, s2, s3, s4, s5, s6, rfl⟩
    have hd' := iSd_scr hS.1 s1
    exact l_s_endAt N F S' T C R so ho du wo ch c _ k b hd' hk s5.1 s6 ⟨_, rfl, S', s1, ⟨hd', Or.inr ⟨s2, B, b, s3, s4, s5, s6⟩⟩, Or.inl ⟨k, B, b, hk, rfl, s5, rfl⟩, rfl⟩ (k + 1) 0 (by omega) (by omega)
/-- when an order may come -/
def c_order (a h d w : Int32) (c : Nat) : Prop := (0 ≤ a ∧ a ≤ 3) ∧ (1 ≤ h ∧ h ≤ 100) ∧ (0 ≤ d ∧ d ≤ 1000) ∧ (1 ≤ w ∧ w ≤ 9) ∧ c < 7
def tkS (S : hyB) (j : Nat) (a h d w v : Int32) : hyB := ss (ss (sa (sa (sa (sa S 0 (upd (S.1 0) j a)) 1 (upd (S.1 1) j h)) 2 (upd (S.1 2) j d)) 3 (upd (S.1 3) j w)) 6 v) 9 0
set_option maxRecDepth 100000 in
theorem r_s_take (a h d w : Int32) (h6 : S.2 6 = nI c) (h7 : c ≤ 7) : hy_R 4 mX4_take 0 0 [hy_r 13, .inl a, .inl h, .inl d, .inl w] (wW N F S T C R) (fun o w1 => ∃ x, o = some x ∧ (c_order a h d w c ∧ x = nI c ∧ w1 = wW N F (tkS S c a h d w (nI (c + 1))) T C R ∨ ¬ c_order a h d w c ∧ x = -1 ∧ w1 = wW N F S T C R)) := by
  refine hy_Ri (L := [some (hy_r 13), some (.inl a), some (.inl h), some (.inl d), some (.inl w)]) rfl (by decide) (hy_ple rfl) rfl ?_
  refine hy_go hy_pfA oX4_take [] 80 0 0 _ ?_
  have hi : c < 7 → vp_in (S.2 6) 7 := fun h => by rw [h6]; exact vn_in h (by decide)
  have l7 : (7 : Int32).toInt = 7 := rfl
  refine And.intro (fun q => ?_) (fun q => And.intro (fun q2 => ?_) (fun q2 => And.intro (fun q3 => ?_) (fun q3 => And.intro (fun q4 => ?_) (fun q4 => And.intro (fun q5 => ?_) (fun q5 => ?_)))))
  · exact hy_fin (Or.inr ⟨fun h => g_within_0 q h.1, rfl, rfl⟩)
  · exact hy_fin (Or.inr ⟨fun h => g_within_0 q2 h.2.1, rfl, rfl⟩)
  · exact hy_fin (Or.inr ⟨fun h => g_within_0 q3 h.2.2.1, rfl, rfl⟩)
  · exact hy_fin (Or.inr ⟨fun h => g_within_0 q4 h.2.2.2.1, rfl, rfl⟩)
  · have hn : c < 7 := by
      have q5 := zi_lt.mp q5
      rw [h6, zi_nI (by omega)] at q5; omega
    refine And.intro (hi hn) (And.intro (hi hn) (And.intro (hi hn) (And.intro (hi hn) (And.intro (Or.inl rfl) ?_))))
    have hcl : (S.2 6).toNatClampNeg = c := by rw [h6]; exact cl_nI (by omega)
    have e1 : S.2 6 + 1 = nI (c + 1) := by rw [h6, nI_s]
    have e2 : S.2 6 + 1 - 1 = nI c := by rw [e1]; exact nI_pred c
    have key : ∃ x, some (S.2 6 + 1 - 1) = some x ∧ (c_order a h d w c ∧ x = nI c ∧ wW N F (tkS S (S.2 6).toNatClampNeg a h d w (S.2 6 + 1)) T C R = wW N F (tkS S c a h d w (nI (c + 1))) T C R ∨ ¬ c_order a h d w c ∧ x = -1 ∧ wW N F (tkS S (S.2 6).toNatClampNeg a h d w (S.2 6 + 1)) T C R = wW N F S T C R) := ⟨_, rfl, Or.inl ⟨⟨g_within_n0 q, g_within_n0 q2, g_within_n0 q3, g_within_n0 q4, hn⟩, e2, by rw [hcl, e1]⟩⟩
    exact key
  · refine hy_fin (Or.inr ⟨fun h => q5 (zi_lt.mpr ?_), rfl, rfl⟩)
    have := h.2.2.2.2
    rw [h6, zi_nI (by omega)]; omega
theorem r_s_change (v : Int32) : hy_R 4 mX4_setChange 0 0 [hy_r 13, .inl v] (wW N F S T C R) (fun o w1 => ∃ x, o = some x ∧ ((0 ≤ v ∧ v ≤ 50) ∧ x = 1 ∧ w1 = wW N F (ss (ss S 7 v) 9 0) T C R ∨ ¬ (0 ≤ v ∧ v ≤ 50) ∧ x = 0 ∧ w1 = wW N F S T C R)) := by
  refine hy_Rz (L := [some (hy_r 13), some (.inl v)]) rfl (by decide) (fun x w h => ?_) (hy_ple rfl) rfl ?_
  · rcases h with ⟨-, h, -⟩ | ⟨-, h, -⟩
    · exact Or.inr h
    · exact Or.inl h
  refine hy_go hy_pfA oX4_setChange [] 60 0 0 _ ?_
  refine And.intro (fun q => ?_) (fun q => ?_)
  · exact hy_fin (Or.inr ⟨g_within_0 q, rfl, rfl⟩)
  · refine And.intro (Or.inl rfl) ?_
    exact hy_fin (Or.inl ⟨g_within_n0 q, rfl, rfl⟩)
theorem r_s_drop : hy_R 3 mX4_dropOrders 0 0 [hy_r 13] (wW N F S T C R) (fun o w1 => ∃ x, o = some x ∧ x = S.2 6 ∧ w1 = wW N F (ss (ss S 6 0) 9 0) T C R) := by
  refine hy_Ri (L := [some (hy_r 13), none]) rfl (by decide) (hy_ple rfl) rfl ?_
  refine hy_go hy_pfA oX4_dropOrders [] 60 0 0 _ ?_
  refine And.intro (Or.inl rfl) ?_
  exact hy_fin ⟨rfl, rfl⟩
end
