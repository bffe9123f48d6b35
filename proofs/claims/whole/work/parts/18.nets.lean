/-! ===== the nets of the class ===== -/
theorem vi_of {x : Int32} {n : Nat} (h1 : 0 ≤ x.toInt) (h2 : x.toInt < n) : vp_in x n := vp_in_iff.mpr ⟨h1, h2⟩
theorem cl_nI {n : Nat} (h : n < 2147483648) : (nI n).toNatClampNeg = n := nI_clamp h
theorem vn_in {k N : Nat} (h : k < N) (h2 : N ≤ 256) : vp_in (nI k) N := vp_in_nI h (by omega)
theorem nI_s (k : Nat) : nI k + 1 = nI (k + 1) := nI_1 k
theorem nI_le24 {a b : Nat} (ha : a < 2147483648) (hb : b < 2147483648) : nI a ≤ nI b ↔ a ≤ b := nI_leI ha hb
/-- a net's rate -/
def rtf (rates salts pits : Nat → Int32) (k : Nat) : Int32 := rates (salts (pits k).toNatClampNeg).toNatClampNeg
def iN (N : hyB) (n : Nat) : Prop := N.2 8 = nI n ∧ n ≤ 24 ∧ (∀ i, 0 ≤ (N.1 0 i).toInt ∧ (N.1 0 i).toInt ≤ 9) ∧ (∀ i, 0 ≤ (N.1 2 i).toInt ∧ (N.1 2 i).toInt ≤ 7)
def ptf (z : Nat → Prop) [DecidablePred z] (p r : Nat → Int32) (n : Int32) (i : Nat) : Nat → Int32 := fun k => if k < i ∧ z k then p k + n * r k else p k
theorem ptf_y {z : Nat → Prop} [DecidablePred z] {p r : Nat → Int32} {n : Int32} {i : Nat} (h : z i) : ptf z p r n (i + 1) = upd (ptf z p r n i) i (ptf z p r n i i + n * r i) := by
  funext k
  unfold upd ptf
  by_cases e : k = i
  · subst e
    rw [if_pos rfl, if_pos ⟨by omega, h⟩, if_neg (by omega)]
  · rw [if_neg e]
    by_cases q : k < i ∧ z k
    · rw [if_pos q, if_pos ⟨by omega, q.2⟩]
    · rw [if_neg q, if_neg (fun p => q ⟨by omega, p.2⟩)]
theorem ptf_n {z : Nat → Prop} [DecidablePred z] {p r : Nat → Int32} {n : Int32} {i : Nat} (h : ¬ z i) : ptf z p r n (i + 1) = ptf z p r n i := by
  funext k
  unfold ptf
  by_cases q : k < i ∧ z k
  · rw [if_pos q, if_pos ⟨by omega, q.2⟩]
  · rw [if_neg q, if_neg (fun p => q ⟨by have : k ≠ i := (fun e => h (e ▸ p.2)); omega, p.2⟩)]
section
variable (N F S T C : hyB) (R : hyW)
theorem r_n_count : hy_R 3 mX2_count 0 0 [hy_r 1] (wW N F S T C R) (fun o w1 => ∃ x, o = some x ∧ x = N.2 8 ∧ w1 = wW N F S T C R) := by
  refine hy_Ri (L := [some (hy_r 1)]) rfl (by decide) (hy_ple rfl) rfl ?_
  refine hy_go hy_pfA oX2_count [] 60 0 0 _ ?_
  exact hy_fin ⟨rfl, rfl⟩
theorem r_n_clock : hy_R 3 mX2_clock 0 0 [hy_r 1] (wW N F S T C R) (fun o w1 => ∃ x, o = some x ∧ x = N.2 9 ∧ w1 = wW N F S T C R) := by
  refine hy_Ri (L := [some (hy_r 1)]) rfl (by decide) (hy_ple rfl) rfl ?_
  refine hy_go hy_pfA oX2_clock [] 60 0 0 _ ?_
  exact hy_fin ⟨rfl, rfl⟩
theorem r_n_husk : hy_R 3 mX2_huskTotal 0 0 [hy_r 1] (wW N F S T C R) (fun o w1 => ∃ x, o = some x ∧ x = N.2 10 ∧ w1 = wW N F S T C R) := by
  refine hy_Ri (L := [some (hy_r 1)]) rfl (by decide) (hy_ple rfl) rfl ?_
  refine hy_go hy_pfA oX2_huskTotal [] 60 0 0 _ ?_
  exact hy_fin ⟨rfl, rfl⟩
theorem r_n_setSalt (a v : Int32) : hy_R 4 mX2_setSalt 0 0 [hy_r 1, .inl a, .inl v] (wW N F S T C R) (fun o w1 => ∃ x, o = some x ∧ (((0 ≤ a ∧ a ≤ 7) ∧ (0 ≤ v ∧ v ≤ 9)) ∧ x = 1 ∧ w1 = wW (sa N 0 (upd (N.1 0) a.toNatClampNeg v)) F S T C R ∨ ¬ ((0 ≤ a ∧ a ≤ 7) ∧ (0 ≤ v ∧ v ≤ 9)) ∧ x = 0 ∧ w1 = wW N F S T C R)) := by
  refine hy_Rz (L := [some (hy_r 1), some (.inl a), some (.inl v)]) rfl (by decide) (fun x w h => ?_) (hy_ple rfl) rfl ?_
  · rcases h with ⟨-, h, -⟩ | ⟨-, h, -⟩
    · exact Or.inr h
    · exact Or.inl h
  refine hy_go hy_pfA oX2_setSalt [] 60 0 0 _ ?_
  refine And.intro (fun q => ?_) (fun q => And.intro (fun q2 => ?_) (fun q2 => ?_))
  · exact hy_fin (Or.inr ⟨fun h => g_within_0 q h.1, rfl, rfl⟩)
  · exact hy_fin (Or.inr ⟨fun h => g_within_0 q2 h.2, rfl, rfl⟩)
  · have h1 := g_within_n0 q
    have h2 : 0 ≤ a.toInt := zi_le.mp h1.1
    have h3 : a.toInt ≤ 7 := zi_le.mp h1.2
    refine And.intro (vi_of h2 (by omega)) ?_
    exact hy_fin (Or.inl ⟨⟨h1, g_within_n0 q2⟩, rfl, rfl⟩)
theorem r_n_setRipens (a v : Int32) : hy_R 4 mX2_setRipens 0 0 [hy_r 1, .inl a, .inl v] (wW N F S T C R) (fun o w1 => ∃ x, o = some x ∧ (((0 ≤ a ∧ a ≤ 9) ∧ (0 ≤ v ∧ v ≤ 50)) ∧ x = 1 ∧ w1 = wW (sa N 1 (upd (N.1 1) a.toNatClampNeg v)) F S T C R ∨ ¬ ((0 ≤ a ∧ a ≤ 9) ∧ (0 ≤ v ∧ v ≤ 50)) ∧ x = 0 ∧ w1 = wW N F S T C R)) := by
  refine hy_Rz (L := [some (hy_r 1), some (.inl a), some (.inl v)]) rfl (by decide) (fun x w h => ?_) (hy_ple rfl) rfl ?_
  · rcases h with ⟨-, h, -⟩ | ⟨-, h, -⟩
    · exact Or.inr h
    · exact Or.inl h
  refine hy_go hy_pfA oX2_setRipens [] 60 0 0 _ ?_
  refine And.intro (fun q => ?_) (fun q => And.intro (fun q2 => ?_) (fun q2 => ?_))
  · exact hy_fin (Or.inr ⟨fun h => g_within_0 q h.1, rfl, rfl⟩)
  · exact hy_fin (Or.inr ⟨fun h => g_within_0 q2 h.2, rfl, rfl⟩)
  · have h1 := g_within_n0 q
    have h2 : 0 ≤ a.toInt := zi_le.mp h1.1
    have h3 : a.toInt ≤ 9 := zi_le.mp h1.2
    refine And.intro (vi_of h2 (by omega)) ?_
    exact hy_fin (Or.inl ⟨⟨h1, g_within_n0 q2⟩, rfl, rfl⟩)
/-- when a net may come -/
def c_net (a b h g : Int32) (n : Nat) : Prop := (0 ≤ a ∧ a ≤ 7) ∧ (0 ≤ b ∧ b ≤ 255) ∧ (1 ≤ h ∧ h ≤ 1000) ∧ (1 ≤ g ∧ g ≤ 2000) ∧ n < 24
set_option maxRecDepth 100000 in
theorem r_n_putIn (a b h g : Int32) (n : Nat) (hN : iN N n) : hy_R 4 mX2_putIn 0 0 [hy_r 1, .inl a, .inl b, .inl h, .inl g] (wW N F S T C R) (fun o w1 => ∃ x, o = some x ∧ (c_net a b h g n ∧ x = nI n ∧ w1 = wW (ss (sa (sa (sa (sa (sa (sa N 2 (upd (N.1 2) n a)) 3 (upd (N.1 3) n b)) 4 (upd (N.1 4) n h)) 5 (upd (N.1 5) n g)) 6 (upd (N.1 6) n 0)) 7 (upd (N.1 7) n 0)) 8 (nI (n + 1))) F S T C R ∨ ¬ c_net a b h g n ∧ x = -1 ∧ w1 = wW N F S T C R)) := by
  obtain ⟨c1, c2, -, -⟩ := hN
  refine hy_Ri (L := [some (hy_r 1), some (.inl a), some (.inl b), some (.inl h), some (.inl g)]) rfl (by decide) (hy_ple rfl) rfl ?_
  refine hy_go hy_pfA oX2_putIn [] 80 0 0 _ ?_
  have hi : n < 24 → vp_in (N.2 8) 24 := fun h => by rw [c1]; exact vn_in h (by omega)
  refine And.intro (fun q => ?_) (fun q => And.intro (fun q2 => ?_) (fun q2 => And.intro (fun q3 => ?_) (fun q3 => And.intro (fun q4 => ?_) (fun q4 => And.intro (fun q5 => ?_) (fun q5 => ?_)))))
  · exact hy_fin (Or.inr ⟨fun h => g_within_0 q h.1, rfl, rfl⟩)
  · exact hy_fin (Or.inr ⟨fun h => g_within_0 q2 h.2.1, rfl, rfl⟩)
  · exact hy_fin (Or.inr ⟨fun h => g_within_0 q3 h.2.2.1, rfl, rfl⟩)
  · exact hy_fin (Or.inr ⟨fun h => g_within_0 q4 h.2.2.2.1, rfl, rfl⟩)
  · have hn : n < 24 := by
      have q5 := zi_lt.mp q5
      rw [c1, zi_nI (by omega)] at q5
      have : (24 : Int32).toInt = 24 := rfl
      omega
    refine And.intro (hi hn) (And.intro (hi hn) (And.intro (hi hn) (And.intro (hi hn) (And.intro (hi hn) (And.intro (hi hn) ?_)))))
    have hcl : (N.2 8).toNatClampNeg = n := by rw [c1, cl_nI (by omega)]
    have e1 : N.2 8 + 1 = nI (n + 1) := by rw [c1, nI_s]
    have e2 : N.2 8 + 1 - 1 = nI n := by rw [e1]; exact nI_pred n
    have key : ∃ x, some (N.2 8 + 1 - 1) = some x ∧ (c_net a b h g n ∧ x = nI n ∧ wW (ss (sa (sa (sa (sa (sa (sa N 2 (upd (N.1 2) (N.2 8).toNatClampNeg a)) 3 (upd (N.1 3) (N.2 8).toNatClampNeg b)) 4 (upd (N.1 4) (N.2 8).toNatClampNeg h)) 5 (upd (N.1 5) (N.2 8).toNatClampNeg g)) 6 (upd (N.1 6) (N.2 8).toNatClampNeg 0)) 7 (upd (N.1 7) (N.2 8).toNatClampNeg 0)) 8 (N.2 8 + 1)) F S T C R = wW (ss (sa (sa (sa (sa (sa (sa N 2 (upd (N.1 2) n a)) 3 (upd (N.1 3) n b)) 4 (upd (N.1 4) n h)) 5 (upd (N.1 5) n g)) 6 (upd (N.1 6) n 0)) 7 (upd (N.1 7) n 0)) 8 (nI (n + 1))) F S T C R ∨ ¬ c_net a b h g n ∧ x = -1 ∧ wW (ss (sa (sa (sa (sa (sa (sa N 2 (upd (N.1 2) (N.2 8).toNatClampNeg a)) 3 (upd (N.1 3) (N.2 8).toNatClampNeg b)) 4 (upd (N.1 4) (N.2 8).toNatClampNeg h)) 5 (upd (N.1 5) (N.2 8).toNatClampNeg g)) 6 (upd (N.1 6) (N.2 8).toNatClampNeg 0)) 7 (upd (N.1 7) (N.2 8).toNatClampNeg 0)) 8 (N.2 8 + 1)) F S T C R = wW N F S T C R) := ⟨_, rfl, Or.inl ⟨⟨g_within_n0 q, g_within_n0 q2, g_within_n0 q3, g_within_n0 q4, hn⟩, e2, by rw [hcl, e1]⟩⟩
    exact key
  · refine hy_fin (Or.inr ⟨fun h => q5 (zi_lt.mpr ?_), rfl, rfl⟩)
    have := h.2.2.2.2
    rw [c1, zi_nI (by omega)]
    have : (24 : Int32).toInt = 24 := rfl
    omega
theorem r_n_rateAt (k n : Nat) (hN : iN N n) (hk : k < 24) : hy_R 3 mX2_rateAt 0 0 [hy_r 1, .inl (nI k)] (wW N F S T C R) (fun o w1 => ∃ x, o = some x ∧ x = rtf (N.1 1) (N.1 0) (N.1 2) k ∧ w1 = wW N F S T C R) := by
  obtain ⟨-, -, c3, c4⟩ := hN
  have hcl : (nI k).toNatClampNeg = k := cl_nI (by omega)
  refine hy_Ri (L := [some (hy_r 1), some (.inl (nI k))]) rfl (by decide) (hy_ple rfl) rfl ?_
  refine hy_go hy_pfA oX2_rateAt [] 60 0 0 _ ?_
  refine And.intro (vn_in hk (by omega)) (And.intro ?_ (And.intro ?_ ?_))
  · have := c4 (nI k).toNatClampNeg
    exact vi_of this.1 (by omega)
  · have := c3 (N.1 2 (nI k).toNatClampNeg).toNatClampNeg
    exact vi_of this.1 (by omega)
  · refine hy_fin ⟨?_, rfl⟩
    show N.1 1 (N.1 0 (N.1 2 (nI k).toNatClampNeg).toNatClampNeg).toNatClampNeg = _
    rw [hcl]; rfl
theorem r_n_isRipe (k : Nat) (hk : k < 24) : hy_R 3 mX2_isRipe 0 0 [hy_r 1, .inl (nI k)] (wW N F S T C R) (fun o w1 => ∃ x, o = some x ∧ x = (if N.1 6 k < N.1 5 k then 0 else 1) ∧ w1 = wW N F S T C R) := by
  have hcl : (nI k).toNatClampNeg = k := cl_nI (by omega)
  refine hy_Rz (L := [some (hy_r 1), some (.inl (nI k))]) rfl (by decide) (fun x w h => ?_) (hy_ple rfl) rfl ?_
  · rw [h.1]; split
    · exact Or.inl rfl
    · exact Or.inr rfl
  refine hy_go hy_pfA oX2_isRipe [] 60 0 0 _ ?_
  refine And.intro (vn_in hk (by omega)) (And.intro (vn_in hk (by omega)) (And.intro (fun q => ?_) (fun q => ?_)))
  · rw [hcl] at q
    exact hy_fin ⟨(if_pos q).symm, rfl⟩
  · rw [hcl] at q
    exact hy_fin ⟨(if_neg q).symm, rfl⟩
theorem r_n_isNet (a : Int32) : hy_R 4 mX2_isNet 0 0 [hy_r 1, .inl a] (wW N F S T C R) (fun o w1 => ∃ x, o = some x ∧ x = g_within [a, 0, N.2 8 - 1] ∧ w1 = wW N F S T C R) := by
  refine hy_Rz (L := [some (hy_r 1), some (.inl a)]) rfl (by decide) (fun x w h => h.1 ▸ g_within_01 _) (hy_ple rfl) rfl ?_
  refine hy_go hy_pfA oX2_isNet [] 60 0 0 _ ?_
  exact hy_fin ⟨rfl, rfl⟩
/-- a number of a net -/
theorem net_in {a : Int32} {n : Nat} (hn : n ≤ 256) (h : ¬ g_within [a, 0, nI n - 1] = 0) : ∃ k, k < n ∧ a = nI k := by
  obtain ⟨h1, h2⟩ := g_within_n0 h
  have h3 : 0 ≤ a.toInt := zi_le.mp h1
  have h4 := zi_le.mp h2
  have h5 : (nI n - 1).toInt = (n : Int) - 1 := by
    have e := zi_nI (n := n) (by omega)
    rw [zi_sub]
    · rw [e]; rfl
    · rw [e]; show -2147483648 ≤ (n : Int) - 1; omega
    · rw [e]; show (n : Int) - 1 < 2147483648; omega
  exact ⟨a.toInt.toNat, by omega, zi_of h3⟩
theorem net_out {a : Int32} {n : Nat} (hn : n ≤ 256) (h : g_within [a, 0, nI n - 1] = 0) : ¬ ∃ k, k < n ∧ a = nI k := by
  rintro ⟨k, hk, rfl⟩
  apply g_within_0 h
  have h5 : (nI n - 1).toInt = (n : Int) - 1 := by
    have e := zi_nI (n := n) (by omega)
    rw [zi_sub]
    · rw [e]; rfl
    · rw [e]; show -2147483648 ≤ (n : Int) - 1; omega
    · rw [e]; show (n : Int) - 1 < 2147483648; omega
  refine ⟨zi_le.mpr ?_, zi_le.mpr ?_⟩
  · rw [zi_nI (by omega)]; show (0 : Int) ≤ k; omega
  · rw [zi_nI (by omega), h5]; omega
theorem l_n_goBy (Q : hyQ) (v : Int32) (n : Nat) (hN : iN N n)
    (K : hy_X none 4 mX2_goBy Q 0 0 (65, [some (hy_r 1), some (.inl v), some (.inl (nI n))], [], wW (sa N 6 (ptf (fun k => N.1 7 k = 0) (N.1 6) (rtf (N.1 1) (N.1 0) (N.1 2)) v n)) F S T C R)) :
    ∀ (j i : Nat), n - i = j → i ≤ n → hy_X none 4 mX2_goBy Q 0 0 (26, [some (hy_r 1), some (.inl v), some (.inl (nI i))], [], wW (sa N 6 (ptf (fun k => N.1 7 k = 0) (N.1 6) (rtf (N.1 1) (N.1 0) (N.1 2)) v i)) F S T C R) := by
  obtain ⟨c1, c2, c3, c4⟩ := id hN
  intro j
  induction j with
  | zero =>
    intro i hj hi
    have : i = n := by omega
    subst this
    refine hy_go hy_pfA oX2_goBy [26, 65] 60 0 0 _ ?_
    refine And.intro (fun q => K) (fun q => absurd ?_ q)
    show N.2 8 ≤ nI i
    rw [c1]; exact Int32.le_refl _
  | succ j ih =>
    intro i hj hi
    have hcl : (nI i).toNatClampNeg = i := cl_nI (by omega)
    have nx := ih (i + 1) (by omega) (by omega)
    rw [← nI_s] at nx
    refine hy_go hy_pfA oX2_goBy [26, 65] 60 0 0 _ ?_
    refine And.intro (fun q => ?_) (fun q => ?_)
    · have q : N.2 8 ≤ nI i := q
      rw [c1, nI_le24 (by omega) (by omega)] at q
      omega
    · refine And.intro (vn_in (by omega) (by omega)) ?_
      refine And.intro (fun q2 => ?_) (fun q2 => ?_)
      · have q2 : N.1 7 (nI i).toNatClampNeg = 0 := q2
        rw [hcl] at q2
        refine And.intro (vn_in (by omega) (by omega)) ?_
        refine hy_cl (r_n_rateAt (sa N 6 (ptf (fun k => N.1 7 k = 0) (N.1 6) (rtf (N.1 1) (N.1 0) (N.1 2)) v i)) F S T C R i n hN (by omega)) rfl ?_
        rintro o w1 ⟨x, rfl, rfl, rfl⟩
        refine And.intro (vn_in (by omega) (by omega)) ?_
        rw [ptf_y (z := fun k => N.1 7 k = 0) q2] at nx
        have e : upd (ptf (fun k => N.1 7 k = 0) (N.1 6) (rtf (N.1 1) (N.1 0) (N.1 2)) v i) (nI i).toNatClampNeg (ptf (fun k => N.1 7 k = 0) (N.1 6) (rtf (N.1 1) (N.1 0) (N.1 2)) v i (nI i).toNatClampNeg + v * rtf (N.1 1) (N.1 0) (N.1 2) i) = upd (ptf (fun k => N.1 7 k = 0) (N.1 6) (rtf (N.1 1) (N.1 0) (N.1 2)) v i) i (ptf (fun k => N.1 7 k = 0) (N.1 6) (rtf (N.1 1) (N.1 0) (N.1 2)) v i i + v * rtf (N.1 1) (N.1 0) (N.1 2) i) := by rw [hcl]
        rw [← e] at nx
        exact nx
      · have q2 : ¬ N.1 7 (nI i).toNatClampNeg = 0 := q2
        rw [hcl] at q2
        rw [ptf_n (z := fun k => N.1 7 k = 0) q2] at nx
        exact nx
/-- when weeks may go by -/
def c_weeks (v wk : Int32) : Prop := (1 ≤ v ∧ v ≤ 100) ∧ wk + v ≤ 500
theorem ptf_0 {z : Nat → Prop} [DecidablePred z] {p r : Nat → Int32} {n : Int32} : ptf z p r n 0 = p := by
  funext k
  unfold ptf
  rw [if_neg (by omega)]
set_option maxRecDepth 100000 in
theorem r_n_goBy (v : Int32) (n : Nat) (hN : iN N n) : hy_R 4 mX2_goBy 0 0 [hy_r 1, .inl v] (wW N F S T C R) (fun o w1 => ∃ x, o = some x ∧ (c_weeks v (N.2 9) ∧ x = N.2 9 + v ∧ w1 = wW (ss (sa N 6 (ptf (fun k => N.1 7 k = 0) (N.1 6) (rtf (N.1 1) (N.1 0) (N.1 2)) v n)) 9 (N.2 9 + v)) F S T C R ∨ ¬ c_weeks v (N.2 9) ∧ x = -1 ∧ w1 = wW N F S T C R)) := by
  refine hy_Ri (L := [some (hy_r 1), some (.inl v), none]) rfl (by decide) (hy_ple rfl) rfl ?_
  refine hy_go hy_pfA oX2_goBy [26] 60 0 0 _ ?_
  refine And.intro (fun q => ?_) (fun q => And.intro (fun q2 => ?_) (fun q2 => ?_))
  · exact hy_fin (Or.inr ⟨fun h => g_within_0 q h.1, rfl, rfl⟩)
  · have := l_n_goBy N F S T C R (fun o w1 => ∃ x, o = some x ∧ (c_weeks v (N.2 9) ∧ x = N.2 9 + v ∧ w1 = wW (ss (sa N 6 (ptf (fun k => N.1 7 k = 0) (N.1 6) (rtf (N.1 1) (N.1 0) (N.1 2)) v n)) 9 (N.2 9 + v)) F S T C R ∨ ¬ c_weeks v (N.2 9) ∧ x = -1 ∧ w1 = wW N F S T C R)) v n hN (by
      refine hy_go hy_pfA oX2_goBy [] 60 0 0 _ ?_
      exact hy_fin (Or.inl ⟨⟨g_within_n0 q, q2⟩, rfl, rfl⟩)) n 0 (by omega) (by omega)
    rw [ptf_0] at this
    exact this
  · exact hy_fin (Or.inr ⟨fun h => q2 h.2, rfl, rfl⟩)
end
