/-! ===== the search of the spin yard ===== -/
section
variable (N F S T C : hyB) (R : hyW) (so ho du wo : Nat → Nat) (ch c : Nat)
def tpQ (π : List Nat) (B : Nat) (b : List Nat) (r : Nat → Int32) (k : Nat) : hyQ := fun o w1 => o = none ∧ ∃ B' b' r' bf', usp (tot so ho du wo ch) (eS c π) B b B' b' ∧ rowIs bf' b' ∧ (∀ i, i < k → r' i = r i) ∧ w1 = wW N F (SB S B' r' bf') T C R
def TP (m : Nat) : Prop := ∀ (π q : List Nat) (u B : Nat) (b : List Nat) (r bf : Nat → Int32), (π ++ q).Perm (List.range c) → q.length = m → u < 256 → (∀ x, u.testBit x = true ↔ x ∈ π) → rowIs r π → rowIs bf b → (rn so ho du wo ch π (0, 0, 0)).2.2 < B → B ≤ 1000000 → hy_R (2 * m + 6) mX4_tryPlace 0 0 [hy_r 13, .inl (nI π.length), .inl (nI u), .inl (nI (rn so ho du wo ch π (0, 0, 0)).1), .inl (nI (rn so ho du wo ch π (0, 0, 0)).2.1), .inl (nI (rn so ho du wo ch π (0, 0, 0)).2.2)] (wW N F (SB S B r bf) T C R) (tpQ N F S T C R so ho du wo ch c π B b r π.length)
def TR (m : Nat) : Prop := ∀ (π q : List Nat) (o u B : Nat) (b : List Nat) (r bf : Nat → Int32), ((π ++ [o]) ++ q).Perm (List.range c) → q.length = m → u < 256 → (∀ x, u.testBit x = true ↔ x ∈ π ++ [o]) → rowIs r (π ++ [o]) → rowIs bf b → B ≤ 1000000 → hy_R (2 * m + 7) mX4_tryRest 0 0 [hy_r 13, .inl (nI π.length), .inl (nI u), .inl (nI (rn so ho du wo ch π (0, 0, 0)).1), .inl (nI (rn so ho du wo ch π (0, 0, 0)).2.1), .inl (nI (rn so ho du wo ch π (0, 0, 0)).2.2)] (wW N F (SB S B r bf) T C R) (tpQ N F S T C R so ho du wo ch c (π ++ [o]) B b r (π.length + 1))
theorem rn_sort (hso : ∀ o, so o ≤ 3) : ∀ (p : List Nat) (h s l : Nat), s ≤ 3 → (rn so ho du wo ch p (h, s, l)).2.1 ≤ 3
  | [], _, _, _, hs => hs
  | o :: p, _, _, _, _ => rn_sort hso p _ _ _ (hso o)
theorem TR_of (hS : iSd S so ho du wo ch c) (m : Nat) (ih : TP N F S T C R so ho du wo ch c m) : TR N F S T C R so ho du wo ch c m := by
  intro π q o u B b r bf hp hq hu hub hr hb hB
  obtain ⟨d0, d1, d2, d3, d4⟩ := id hS
  have hlen : π.length + 1 + m = c := by
    have := hp.length_eq
    simp at this; omega
  have hoc : o < c := List.mem_range.mp (hp.mem_iff.mp (by simp))
  obtain ⟨o1, o2, o3, o4, o5, o6, o7, o8⟩ := d0 o
  have bd := rn_bd so ho du wo ch (fun o => (d0 o).2.2.2.2.2.1) (fun o => (d0 o).2.2.2.2.2.2.2) d2 π 0 0 0 0 (by omega) (by omega) (by omega)
  have bd2 := rn_bd so ho du wo ch (fun o => (d0 o).2.2.2.2.2.1) (fun o => (d0 o).2.2.2.2.2.2.2) d2 (π ++ [o]) 0 0 0 0 (by omega) (by omega) (by simp; omega)
  have bs := rn_sort so ho du wo ch (fun o => (d0 o).2.2.2.2.1) π 0 0 0 (by omega)
  have hro : r π.length = nI o := hr π.length o (by simp)
  have e2 : rn so ho du wo ch (π ++ [o]) (0, 0, 0) = (en so ho ch (rn so ho du wo ch π (0, 0, 0)).1 (rn so ho du wo ch π (0, 0, 0)).2.1 o, so o, la so ho du wo ch (rn so ho du wo ch π (0, 0, 0)).1 (rn so ho du wo ch π (0, 0, 0)).2.1 (rn so ho du wo ch π (0, 0, 0)).2.2 o) := by
    rw [rn_app]; rfl
  rw [e2] at bd2
  have next := ih (π ++ [o]) q u B b r bf hp hq hu hub hr hb
  rw [e2] at next
  have hlow : ∀ p, eS c (π ++ [o]) p → la so ho du wo ch (rn so ho du wo ch π (0, 0, 0)).1 (rn so ho du wo ch π (0, 0, 0)).2.1 (rn so ho du wo ch π (0, 0, 0)).2.2 o ≤ tot so ho du wo ch p := by
    rintro p ⟨-, q2, rfl⟩
    rw [tot_app, e2]
    exact lf_ge so ho du wo ch q2 _ _ _
  generalize rn so ho du wo ch π (0, 0, 0) = st at *
  obtain ⟨h, s, l⟩ := st
  dsimp only at *
  have hpl : (π.length) < 7 := by omega
  have hcl : (nI π.length).toNatClampNeg = π.length := cl_nI (by omega)
  have hin : vp_in (nI π.length) 7 := vn_in hpl (by decide)
  have ho7 : o < 7 := by omega
  have hoin : vp_in (nI o) 7 := vn_in ho7 (by decide)
  have hocl : (nI o).toNatClampNeg = o := cl_nI (by omega)
  simp only [List.length_append, List.length_singleton] at bd2 next
  have hla : la so ho du wo ch h s l o = l + (en so ho ch h s o - du o) * wo o := rfl
  refine hy_Rv (L := [some (hy_r 13), some (.inl (nI π.length)), some (.inl (nI u)), some (.inl (nI h)), some (.inl (nI s)), some (.inl (nI l)), none, none, none]) rfl (by decide) (hy_ple rfl) rfl ?_
  refine hy_go hy_pfA oX4_tryRest [8] 80 0 0 _ ?_
  refine And.intro hin ?_
  have e0 : r (nI π.length).toNatClampNeg = nI o := by rw [hcl]; exact hro
  suffices g : hy_X none (2 * m + 7) mX4_tryRest (tpQ N F S T C R so ho du wo ch c (π ++ [o]) B b r (π.length + 1)) 0 0 (8, [some (hy_r 13), some (.inl (nI π.length)), some (.inl (nI u)), some (.inl (nI h)), some (.inl (nI s)), some (.inl (nI l)), some (.inl (nI o)), none, none], [], wW N F (SB S B r bf) T C R) by
    rw [← e0] at g
    exact g
  refine hy_go hy_pfA oX4_tryRest [] 80 0 0 _ ?_
  refine hy_cl (r_s_endOf N F (SB S B r bf) T C R so ho du wo ch c o h s hS ho7 (by omega) (by omega)) (Nat.ble_eq.mpr (by omega)) ?_
  rintro v w1 ⟨x, rfl, rfl, rfl⟩
  refine And.intro hoin (And.intro hoin ?_)
  have f1 : S.1 2 (nI o).toNatClampNeg = nI (du o) := by rw [hocl]; exact o3
  have f2 : S.1 3 (nI o).toNatClampNeg = nI (wo o) := by rw [hocl]; exact o4
  have f3 : S.1 0 (nI o).toNatClampNeg = nI (so o) := by rw [hocl]; exact o1
  have key : nI l + (if (0 : Int32) < nI (en so ho ch h s o) - S.1 2 (nI o).toNatClampNeg then nI (en so ho ch h s o) - S.1 2 (nI o).toNatClampNeg else 0) * S.1 3 (nI o).toNatClampNeg = nI (la so ho du wo ch h s l o) := by
    rw [f1, f2, max_I (by omega) (by omega), pk_mul, nI_add, hla]
  refine And.intro (fun q1 => ?_) (fun q1 => ?_)
  · have q1 : nI B ≤ nI l + (if (0 : Int32) < nI (en so ho ch h s o) - S.1 2 (nI o).toNatClampNeg then nI (en so ho ch h s o) - S.1 2 (nI o).toNatClampNeg else 0) * S.1 3 (nI o).toNatClampNeg := q1
    rw [key, nI_le24 (by omega) (by omega)] at q1
    exact And.intro rfl ⟨B, b, r, bf, usp_none (fun p hp => Nat.le_trans q1 (hlow p hp)), hb, fun i _ => rfl, rfl⟩
  · have q1 : ¬ nI B ≤ nI l + (if (0 : Int32) < nI (en so ho ch h s o) - S.1 2 (nI o).toNatClampNeg then nI (en so ho ch h s o) - S.1 2 (nI o).toNatClampNeg else 0) * S.1 3 (nI o).toNatClampNeg := q1
    rw [key, nI_le24 (by omega) (by omega)] at q1
    refine And.intro hoin ?_
    have nx := next (by omega) hB
    rw [← nI_s, ← key, ← f3] at nx
    refine hy_cl nx (Nat.ble_eq.mpr (by omega)) ?_
    rintro v w1 ⟨rfl, B', b', r', bf', h1, h2, h3, rfl⟩
    exact And.intro rfl ⟨B', b', r', bf', h1, h2, h3, rfl⟩
theorem l_s_try (hS : iSd S so ho du wo ch c) (m : Nat) (ih : TR N F S T C R so ho du wo ch c m) (π q : List Nat) (u B0 : Nat) (b0 : List Nat) (r0 : Nat → Int32) (hp : (π ++ q).Perm (List.range c)) (hq : q.length = m + 1) (hu : u < 256) (hub : ∀ x, u.testBit x = true ↔ x ∈ π) (h s l : Nat) (hst : rn so ho du wo ch π (0, 0, 0) = (h, s, l)) :
    ∀ (j i B : Nat) (b : List Nat) (r bf : Nat → Int32), c - i = j → i ≤ c → B ≤ 1000000 → usp (tot so ho du wo ch) (eJ c i π) B0 b0 B b → rowIs bf b → rowIs r π → (∀ k, k < π.length → r k = r0 k) → hy_X none (2 * (m + 1) + 6) mX4_tryPlace (tpQ N F S T C R so ho du wo ch c π B0 b0 r0 π.length) 0 0 (18, [some (hy_r 13), some (.inl (nI π.length)), some (.inl (nI u)), some (.inl (nI h)), some (.inl (nI s)), some (.inl (nI l)), some (.inl (nI i))], [], wW N F (SB S B r bf) T C R) := by
  obtain ⟨d0, d1, d2, d3, d4⟩ := id hS
  have hlen : π.length + (m + 1) = c := by
    have := hp.length_eq
    simp at this; omega
  have hcl : (nI π.length).toNatClampNeg = π.length := cl_nI (by omega)
  have hin : vp_in (nI π.length) 7 := vn_in (by omega) (by decide)
  intro j
  induction j with
  | zero =>
    intro i B b r bf hj hi hB hu2 hb hr hr0
    have hic : i = c := by omega
    refine hy_go hy_pfA oX4_tryPlace [18] 60 0 0 _ ?_
    refine And.intro (fun q1 => ?_) (fun q1 => absurd ?_ q1)
    · exact And.intro rfl ⟨B, b, r, bf, usp_iff hu2 (fun p => by rw [hic]; exact (eS_split (by omega)).symm), hb, hr0, rfl⟩
    · show S.2 6 ≤ nI i
      rw [d3, hic]; exact Int32.le_refl _
  | succ j ihj =>
    intro i B b r bf hj hi hB hu2 hb hr hr0
    have a1 : c - (i + 1) = j := by omega
    have a2 : i + 1 ≤ c := by omega
    refine hy_go hy_pfA oX4_tryPlace [18] 60 0 0 _ ?_
    refine And.intro (fun q1 => ?_) (fun q1 => ?_)
    · have q1 : S.2 6 ≤ nI i := q1
      rw [d3, nI_le24 (by omega) (by omega)] at q1
      omega
    · refine And.intro (fun q2 => ?_) (fun q2 => ?_)
      · have q2 := (bit_0 (by omega) (by omega)).mp q2
        have hn : i ∉ π := fun hm => by
          have := (hub i).mpr hm
          rw [q2] at this; cases this
        refine And.intro hin ?_
        obtain ⟨q', hq'⟩ := ext_more hp (by omega : i < c) hn
        have hu3 : u ||| 2 ^ i < 256 := by
          have : 2 ^ i < 2 ^ 8 := Nat.pow_lt_pow_right (by omega) (by omega)
          exact Nat.or_lt_two_pow (n := 8) hu this
        have hub3 : ∀ x, (u ||| 2 ^ i).testBit x = true ↔ x ∈ π ++ [i] := fun x => by
          rw [Nat.testBit_or, Nat.testBit_two_pow, Bool.or_eq_true, hub x, List.mem_append, List.mem_singleton, decide_eq_true_eq]
          constructor
          · rintro (h | h)
            · exact Or.inl h
            · exact Or.inr h.symm
          · rintro (h | h)
            · exact Or.inl h
            · exact Or.inr h.symm
        have hr3 : rowIs (upd r (nI π.length).toNatClampNeg (nI i)) (π ++ [i]) := fun k x hx => by
          rw [hcl]
          unfold upd
          rw [List.getElem?_append] at hx
          by_cases e : k < π.length
          · rw [if_pos e] at hx
            rw [if_neg (by omega)]
            exact hr k x hx
          · rw [if_neg e, List.getElem?_singleton] at hx
            split at hx
            · have : k = π.length := by omega
              rw [if_pos this]
              cases hx; rfl
            · cases hx
        have hlq : q'.length = m := by
          have := hq'.length_eq
          simp at this; omega
        have call := ih π q' i (u ||| 2 ^ i) B b _ bf hq' hlq hu3 hub3 hr3 hb hB
        rw [hst] at call
        dsimp only at call
        rw [← nI_or, ← shl_1 (by omega)] at call
        refine hy_cl call (Nat.ble_eq.mpr (by omega)) ?_
        rintro v w1 ⟨rfl, B', b', r', bf', h1, h2, h3, rfl⟩
        have hB' : B' ≤ B := by
          rcases h1 with ⟨e, -⟩ | ⟨e, -⟩ <;> omega
        have hr' : ∀ k, k < π.length → r' k = r k := fun k hk => by
          rw [h3 k (by omega), hcl]
          unfold upd
          rw [if_neg (by omega)]
        have nx := ihj (i + 1) B' b' r' bf' a1 a2 (by omega) (usp_cat hu2 h1 (fun p => by
          rw [eJ_s]
          constructor
          · rintro (g | g)
            · exact Or.inl g
            · exact Or.inr g.2
          · rintro (g | g)
            · exact Or.inl g
            · exact Or.inr ⟨hn, g⟩) (fun p q g1 g2 => eJ_rv (by omega) g1 g2)) h2 (fun k x hx => by
              have hk := (List.getElem?_eq_some_iff.mp hx).1
              rw [hr' k hk]; exact hr k x hx) (fun k hk => (hr' k hk).trans (hr0 k hk))
        rw [← nI_s] at nx
        exact nx
      · have hn : i ∈ π := (hub i).mp (by
          cases hx : u.testBit i with
          | true => rfl
          | false => exact absurd ((bit_0 (by omega) (by omega)).mpr hx) q2)
        have nx := ihj (i + 1) B b r bf a1 a2 hB (usp_iff hu2 (fun p => by
          rw [eJ_s]
          constructor
          · exact Or.inl
          · rintro (g | g)
            · exact g
            · exact absurd hn g.1)) hb hr hr0
        rw [← nI_s] at nx
        exact nx
theorem TP_of (hS : iSd S so ho du wo ch c) : ∀ m, TP N F S T C R so ho du wo ch c m := by
  obtain ⟨d0, d1, d2, d3, d4⟩ := id hS
  intro m
  induction m with
  | zero =>
    intro π q u B b r bf hp hq hu hub hr hb hl hB
    have hq0 : q = [] := List.length_eq_zero_iff.mp hq
    subst hq0
    rw [List.append_nil] at hp
    have hlen : π.length = c := by rw [hp.length_eq]; simp
    have ht : tot so ho du wo ch π = (rn so ho du wo ch π (0, 0, 0)).2.2 := (rn_lf so ho du wo ch π 0 0 0).symm
    refine hy_Rv (L := [some (hy_r 13), some (.inl (nI π.length)), some (.inl (nI u)), some (.inl (nI (rn so ho du wo ch π (0, 0, 0)).1)), some (.inl (nI (rn so ho du wo ch π (0, 0, 0)).2.1)), some (.inl (nI (rn so ho du wo ch π (0, 0, 0)).2.2)), none]) rfl (by decide) (hy_ple rfl) rfl ?_
    refine hy_go hy_pfA oX4_tryPlace [] 60 0 0 _ ?_
    refine And.intro (fun q1 => ?_) (fun q1 => ?_)
    · have q1 : nI π.length < S.2 6 := q1
      rw [d3, hlen] at q1
      exact (Int32.lt_irrefl q1).elim
    · refine hy_cl (r_s_keep N F (SB S B r bf) T C R c (rn so ho du wo ch π (0, 0, 0)).2.2 d3 d4) rfl ?_
      rintro v w1 ⟨rfl, rfl⟩
      refine And.intro rfl ⟨(rn so ho du wo ch π (0, 0, 0)).2.2, π, r, cpf r bf c, Or.inr ⟨hl, ⟨hp, [], by simp⟩, ht, ?_⟩, ?_, fun i _ => rfl, rfl⟩
      · rintro p ⟨p1, q2, rfl⟩
        have : q2 = [] := by
          have := p1.length_eq
          simp at this
          exact List.length_eq_zero_iff.mp (by omega)
        subst this
        rw [List.append_nil, ht]
        exact ⟨Nat.le_refl _, fun _ => Nat.le_refl _⟩
      · intro i x hx
        have hi := (List.getElem?_eq_some_iff.mp hx).1
        unfold cpf
        rw [if_pos (by omega)]
        exact hr i x hx
  | succ m ih =>
    intro π q u B b r bf hp hq hu hub hr hb hl hB
    have hlen : π.length + (m + 1) = c := by
      have := hp.length_eq
      simp at this; omega
    have hTR := TR_of N F S T C R so ho du wo ch c hS m ih
    obtain ⟨h, s, l, hst⟩ : ∃ h s l, rn so ho du wo ch π (0, 0, 0) = (h, s, l) := ⟨_, _, _, rfl⟩
    have lp := l_s_try N F S T C R so ho du wo ch c hS m hTR π q u B b r hp hq hu hub h s l hst c 0 B b r bf (by omega) (by omega) hB (usp_none (fun p hp => by
      obtain ⟨o, h1, -⟩ := hp
      omega)) hb hr (fun k _ => rfl)
    rw [hst]
    refine hy_Rv (L := [some (hy_r 13), some (.inl (nI π.length)), some (.inl (nI u)), some (.inl (nI h)), some (.inl (nI s)), some (.inl (nI l)), none]) rfl (by decide) (hy_ple rfl) rfl ?_
    refine hy_go hy_pfA oX4_tryPlace [18] 60 0 0 _ ?_
    refine And.intro (fun q1 => lp) (fun q1 => absurd ?_ q1)
    show nI π.length < S.2 6
    rw [d3]
    exact nI_lt (by omega) (by omega)
end
