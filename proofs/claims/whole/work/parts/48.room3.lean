/-! ===== packing a lot, the cuts of mats ===== -/
theorem nI_subI {a b : Nat} (h : b ≤ a) (ha : a < 1073741824) : nI a - nI b = nI (a - b) := by
  rw [zi_eq, pk_sub_toInt (by omega) (by omega), zi_nI (by omega)]
  omega
section
variable (N F S T C : hyB) (W : hyW) (l m L lo : Nat → Nat) (R c : Nat)
theorem l_t_pl0 (Q : hyQ) (n : Nat) (x1 x2 x5 x6 : Option hyV) (hn : n ≤ 8) (K : ∀ pk x4, (∀ s, s < 2 ^ n → pk s = if s = 0 then 0 else nI 1000000) → hy_X none 5 mX1_packLot Q 0 0 (45, [some (hy_r 20), x1, x2, some (.inl (nI (2 ^ n - 1))), some (.inl x4), x5, x6], [], wW N F S (sa T 6 pk) C W) ∨ ¬ x4 = 0) :
    ∀ (j i : Nat) (pk : Nat → Int32), 2 ^ n - i = j → 1 ≤ i → i ≤ 2 ^ n → (∀ s, 1 ≤ s → s < i → pk s = nI 1000000) → hy_X none 5 mX1_packLot Q 0 0 (14, [some (hy_r 20), x1, x2, some (.inl (nI (2 ^ n - 1))), some (.inl (nI i)), x5, x6], [], wW N F S (sa T 6 pk) C W) := by
  have hp := Nat.two_pow_pos n
  have hpw : 2 ^ n ≤ 256 := (Nat.pow_le_pow_right (n := 2) (by omega) hn : 2 ^ n ≤ 2 ^ 8)
  intro j
  induction j with
  | zero =>
    intro i pk hj h1 hi hk
    have : i = 2 ^ n := by omega
    refine hy_go hy_pfA oX1_packLot [14, 45] 60 0 0 _ ?_
    refine And.intro (fun q => ?_) (fun q => absurd ?_ q)
    · refine And.intro (vn_in (k := 0) (by omega) (by decide)) ?_
      have k := K (upd pk 0 0) 0 (fun s hs => by
        unfold upd
        by_cases e : s = 0
        · rw [if_pos e, if_pos e]
        · rw [if_neg e, if_neg e]; exact hk s (by omega) (by omega))
      rcases k with k | k
      · exact k
      · exact absurd rfl k
    · rw [zi_lt, zi_nI (by omega), zi_nI (by omega)]; omega
  | succ j ih =>
    intro i pk hj h1 hi hk
    have hcl : (nI i).toNatClampNeg = i := cl_nI (by omega)
    have hin : vp_in (nI i) 256 := vn_in (by omega) (by decide)
    refine hy_go hy_pfA oX1_packLot [14, 45] 60 0 0 _ ?_
    refine And.intro (fun q => ?_) (fun q => ?_)
    · rw [zi_lt, zi_nI (by omega), zi_nI (by omega)] at q; omega
    · refine And.intro hin ?_
      have nx := ih (i + 1) (upd pk (nI i).toNatClampNeg (nI 1000000)) (by omega) (by omega) (by omega) (fun s h3 h4 => by
        rw [hcl]; unfold upd
        by_cases e : s = i
        · rw [if_pos e]
        · rw [if_neg e]; exact hk s h3 (by omega))
      rw [← nI_s] at nx
      exact nx
theorem l_t_pl (Q : hyQ) (π : List Nat) (t : Nat) (hT : iTc T l m L lo R c) (hln : ∀ s, s < 2 ^ c → T.1 5 s = nI (lnS l c s)) (hr : rowIs (T.1 4) π) (hπ : π.length ≤ c) (h1 : ∀ i, i < π.length → π.getD i 9 < R) (h2 : ∀ r, r < R → uL l π r ≤ L r) (ht : t < 3)
    (K : ∀ pk, pkI l L lo c pk π t R → Q none (wW N F S (sa T 6 pk) C W)) :
    ∀ (j k : Nat) (pk : Nat → Int32) (x5 x6 : Option hyV), R - k = j → k ≤ R → pkI l L lo c pk π t k → hy_X none 5 mX1_packLot Q 0 0 (45, [some (hy_r 20), some (.inl (nI t)), some (.inl (nI π.length)), some (.inl (nI (2 ^ (c - π.length) - 1))), some (.inl (nI k)), x5, x6], [], wW N F S (sa T 6 pk) C W) := by
  obtain ⟨⟨t0, t1, t2, t3, t4, t5⟩, d1, d2⟩ := id hT
  intro j
  induction j with
  | zero =>
    intro k pk x5 x6 hj hk hp
    have : k = R := by omega
    subst this
    refine hy_go hy_pfA oX1_packLot [45] 60 0 0 _ ?_
    refine And.intro (fun q => K pk hp) (fun q => absurd ?_ q)
    show T.2 8 ≤ nI k
    rw [d1]; exact Int32.le_refl _
  | succ j ih =>
    intro k pk x5 x6 hj hk hp
    have hcl : (nI k).toNatClampNeg = k := cl_nI (by omega)
    have hin : vp_in (nI k) 6 := vn_in (by omega) (by decide)
    have e1 : T.1 1 (nI k).toNatClampNeg = nI (lo k) := by rw [hcl]; exact (t0 k).2.1
    have e0 : T.1 0 (nI k).toNatClampNeg = nI (L k) := by rw [hcl]; exact (t0 k).1
    have hlk := (t0 k).2.2.2
    have hLk := (t0 k).2.2.1
    have huk := h2 k (by omega)
    refine hy_go hy_pfA oX1_packLot [45, 92] 60 0 0 _ ?_
    refine And.intro (fun q => ?_) (fun q => ?_)
    · have q : T.2 8 ≤ nI k := q
      rw [d1, nI_le24 (by omega) (by omega)] at q; omega
    · refine And.intro hin ?_
      refine And.intro (fun q2 => ?_) (fun q2 => ?_)
      · have q2 : T.1 1 (nI k).toNatClampNeg = nI t := q2
        rw [e1, nI_eqI (by omega) (by omega)] at q2
        refine hy_cl (r_t_used N F S (sa T 6 pk) C W l m L lo R c π k hT hr (by omega) (fun i hi => by have := h1 i hi; omega) (by omega)) rfl ?_
        rintro o w1 ⟨x, rfl, rfl, rfl⟩
        have fin : hy_X none 5 mX1_packLot Q 0 0 (92, [some (hy_r 20), some (.inl (nI t)), some (.inl (nI π.length)), some (.inl (nI (2 ^ (c - π.length) - 1))), some (.inl (nI k)), some (.inl (nI (uL l π k))), some (.inl (nI (fpr l L π k)))], [], wW N F S (sa T 6 pk) C W) := by
          refine hy_go hy_pfA oX1_packLot [45] 60 0 0 _ ?_
          refine And.intro hin ?_
          have e3 : T.1 0 (nI k).toNatClampNeg - nI (uL l π k) = nI (frs l L π k) := by
            rw [e0, nI_subI huk (by omega)]; rfl
          have cl := r_t_pr N F S T C W l m L lo R c pk π t k hT hln hπ (by omega) q2 hp
          rw [← e3] at cl
          refine hy_cl cl rfl ?_
          rintro o w1 ⟨rfl, pk', hp', rfl⟩
          have nx := ih (k + 1) pk' (some (.inl (nI (uL l π k)))) (some (.inl (nI (fpr l L π k)))) (by omega) (by omega) hp'
          rw [← nI_s] at nx
          exact nx
        have e4 : fpr l L π k = if 0 < uL l π k then 0 else L k := rfl
        refine And.intro (fun q3 => ?_) (fun q3 => ?_)
        · have q3 := zi_le.mp q3
          rw [zi_nI (by omega), zi_lit0] at q3
          refine And.intro hin ?_
          rw [e4, if_neg (by omega), ← e0] at fin
          exact fin
        · have q3 : ¬ (nI (uL l π k)).toInt ≤ (0 : Int32).toInt := fun h => q3 (zi_le.mpr h)
          rw [zi_nI (by omega), zi_lit0] at q3
          rw [e4, if_pos (by omega)] at fin
          exact fin
      · have q2 : ¬ T.1 1 (nI k).toNatClampNeg = nI t := q2
        rw [e1, nI_eqI (by omega) (by omega)] at q2
        have nx := ih (k + 1) pk x5 x6 (by omega) (by omega) (fun s hs => by
          obtain ⟨x, hx1, hx2⟩ := hp s hs
          exact ⟨x, hx1, isMn_iff hx2 (fun v => (PF_n (fl l π.length) (c - π.length) (frs l L π) (fpr l L π) lo q2).symm)⟩)
        rw [← nI_s] at nx
        exact nx
theorem r_t_pl (π : List Nat) (t : Nat) (hT : iTc T l m L lo R c) (hln : ∀ s, s < 2 ^ c → T.1 5 s = nI (lnS l c s)) (hr : rowIs (T.1 4) π) (hπ : π.length ≤ c) (h1 : ∀ i, i < π.length → π.getD i 9 < R) (h2 : ∀ r, r < R → uL l π r ≤ L r) (ht : t < 3) :
    hy_R 5 mX1_packLot 0 0 [hy_r 20, .inl (nI t), .inl (nI π.length)] (wW N F S T C W) (fun o w1 => o = none ∧ ∃ pk, pkI l L lo c pk π t R ∧ w1 = wW N F S (sa T 6 pk) C W) := by
  obtain ⟨⟨t0, t1, t2, t3, t4, t5⟩, d1, d2⟩ := id hT
  have hp := Nat.two_pow_pos (c - π.length)
  refine hy_Rv (L := [some (hy_r 20), some (.inl (nI t)), some (.inl (nI π.length)), none, none, none, none]) rfl (by decide) (hy_ple rfl) rfl ?_
  refine hy_go hy_pfA oX1_packLot [14] 60 0 0 _ ?_
  have h := l_t_pl0 N F S T C W (fun o w1 => o = none ∧ ∃ pk, pkI l L lo c pk π t R ∧ w1 = wW N F S (sa T 6 pk) C W) (c - π.length) (some (.inl (nI t))) (some (.inl (nI π.length))) none none (by omega) (fun pk x4 hk => by
    by_cases e : x4 = 0
    · refine Or.inl ?_
      rw [e]
      refine l_t_pl N F S T C W l m L lo R c (fun o w1 => o = none ∧ ∃ pk, pkI l L lo c pk π t R ∧ w1 = wW N F S (sa T 6 pk) C W) π t hT hln hr hπ h1 h2 ht (fun pk' hp' => ⟨rfl, pk', hp', rfl⟩) R 0 pk none none (by omega) (by omega) (fun s hs => ?_)
      have := hk s hs
      by_cases e : s = 0
      · rw [if_pos e] at this
        refine ⟨0, this, isMn_iff (isMn_pt 0 (by omega)) (fun v => ?_)⟩
        unfold Pp
        rw [PF_0, e]
        exact ⟨fun h => ⟨rfl, h⟩, fun h => h.2⟩
      · rw [if_neg e] at this
        refine ⟨1000000, this, Or.inr ⟨rfl, fun v hv => ?_⟩⟩
        unfold Pp at hv
        rw [PF_0] at hv
        exact e hv.1
    · exact Or.inr e) (2 ^ (c - π.length) - 1) 1 (T.1 6) rfl (by omega) (by omega) (fun s h1 h2 => by omega)
  have e : nI (2 ^ (c - π.length) - 1) = ((1 : Int32) <<< ((T.2 9 - nI π.length) &&& 31)) - 1 := by
    rw [d2, nI_subI hπ (by omega), shl_1 (by omega)]
    exact (nI_subI (b := 1) (by omega) (by have : 2 ^ (c - π.length) ≤ 2 ^ 8 := Nat.pow_le_pow_right (by omega) (by omega); omega)).symm
  rw [e] at h
  exact h
/-- the cuts of mats that are still to lay -/
def ctl (π : List Nat) (P t : Nat) (x : Int32) : Prop := (okL m (fg lo π) π.length P t ∧ x = nI (cs (fmm m π.length) (c - π.length) P)) ∨ (¬ okL m (fg lo π) π.length P t ∧ x = -1)
theorem l_t_ct (Q : hyQ) (π : List Nat) (P t : Nat) (hT : iTc T l m L lo R c) (hr : rowIs (T.1 4) π) (hπ : π.length ≤ c) (h1 : ∀ i, i < π.length → π.getD i 9 < R) (ht : t < 3) (hP : P < 16) (K : ∀ x, ctl m lo c π P t x → Q (some x) (wW N F S T C W)) :
    ∀ (j i : Nat), c - i = j → i ≤ c → (∀ k, k < i → k < π.length → P.testBit (m k) = true → fg lo π k = t) → hy_X none 4 mX1_cutsToLay Q 0 0 (6, [some (hy_r 20), some (.inl (nI P)), some (.inl (nI t)), some (.inl (nI π.length)), some (.inl (nI (bitf (fun j => P.testBit (fmm m π.length j) = true) (i - π.length)))), some (.inl (nI i))], [], wW N F S T C W) := by
  obtain ⟨⟨t0, t1, t2, t3, t4, t5⟩, d1, d2⟩ := id hT
  intro j
  induction j with
  | zero =>
    intro i hj hi hok
    have : i = c := by omega
    subst this
    refine hy_go hy_pfA oX1_cutsToLay [6] 60 0 0 _ ?_
    refine And.intro (fun q => K _ (Or.inl ⟨fun k hk => hok k (by omega) hk, rfl⟩)) (fun q => absurd ?_ q)
    show T.2 9 ≤ nI i
    rw [d2]; exact Int32.le_refl _
  | succ j ih =>
    intro i hj hi hok
    have hcl : (nI i).toNatClampNeg = i := cl_nI (by omega)
    have hin : vp_in (nI i) 8 := vn_in (by omega) (by decide)
    have e3 : T.1 3 (nI i).toNatClampNeg = nI (m i) := by rw [hcl]; exact (t1 i).2.1
    have hmi := (t1 i).2.2.2
    have split : ∀ k, k < i + 1 → k < i ∨ k = i := fun k hk => by omega
    refine hy_go hy_pfA oX1_cutsToLay [6] 60 0 0 _ ?_
    refine And.intro (fun q => ?_) (fun q => ?_)
    · have q : T.2 9 ≤ nI i := q
      rw [d2, nI_le24 (by omega) (by omega)] at q; omega
    · refine And.intro hin ?_
      refine And.intro (fun q2 => ?_) (fun q2 => ?_)
      · have q2 : (nI P >>> (T.1 3 (nI i).toNatClampNeg &&& 31)) &&& 1 = 0 := q2
        rw [e3, bit_0 (by omega) (by omega)] at q2
        have nx := ih (i + 1) (by omega) (by omega) (fun k hk hk2 hb => by
          rcases split k hk with h | h
          · exact hok k h hk2 hb
          · rw [h, q2] at hb; cases hb)
        have eb : bitf (fun j => P.testBit (fmm m π.length j) = true) (i + 1 - π.length) = bitf (fun j => P.testBit (fmm m π.length j) = true) (i - π.length) := by
          by_cases e : i < π.length
          · rw [show i + 1 - π.length = 0 by omega, show i - π.length = 0 by omega]
          · rw [show i + 1 - π.length = (i - π.length) + 1 by omega, bitf]
            have : fmm m π.length (i - π.length) = m i := by unfold fmm; congr 1; omega
            rw [this, q2]
            simp
        rw [eb, ← nI_s] at nx
        exact nx
      · have q2 : ¬ (nI P >>> (T.1 3 (nI i).toNatClampNeg &&& 31)) &&& 1 = 0 := q2
        rw [e3, bit_0 (by omega) (by omega)] at q2
        have q2 : P.testBit (m i) = true := by simpa using q2
        refine And.intro (fun q3 => ?_) (fun q3 => ?_)
        · have q3 : nI i < nI π.length := q3
          rw [zi_lt, zi_nI (by omega), zi_nI (by omega)] at q3
          have hfi := row_gd hr (i := i) (by omega)
          have hxi := h1 i (by omega)
          have e4 : T.1 4 (nI i).toNatClampNeg = nI (π.getD i 9) := by rw [hcl]; exact hfi
          have e5 : T.1 1 (T.1 4 (nI i).toNatClampNeg).toNatClampNeg = nI (lo (π.getD i 9)) := by rw [e4, cl_nI (by omega)]; exact (t0 _).2.1
          have hlx := (t0 (π.getD i 9)).2.2.2
          refine And.intro hin (And.intro ?_ ?_)
          · have hv : vp_in (T.1 4 (nI i).toNatClampNeg) 6 := by rw [e4]; exact vn_in (by omega) (by decide)
            exact hv
          · refine And.intro (fun q4 => ?_) (fun q4 => ?_)
            · have q4 : T.1 1 (T.1 4 (nI i).toNatClampNeg).toNatClampNeg = nI t := q4
              rw [e5, nI_eqI (by omega) (by omega)] at q4
              have nx := ih (i + 1) (by omega) (by omega) (fun k hk hk2 hb => by
                rcases split k hk with h | h
                · exact hok k h hk2 hb
                · rw [h]; exact q4)
              rw [show i + 1 - π.length = i - π.length by omega, ← nI_s] at nx
              exact nx
            · have q4 : ¬ T.1 1 (T.1 4 (nI i).toNatClampNeg).toNatClampNeg = nI t := q4
              rw [e5, nI_eqI (by omega) (by omega)] at q4
              exact K _ (Or.inr ⟨fun h => q4 (h i (by omega) q2), rfl⟩)
        · have q3 : ¬ nI i < nI π.length := q3
          rw [zi_lt, zi_nI (by omega), zi_nI (by omega)] at q3
          have nx := ih (i + 1) (by omega) (by omega) (fun k hk hk2 hb => hok k (by omega) hk2 hb)
          have eb : nI (bitf (fun j => P.testBit (fmm m π.length j) = true) (i - π.length)) ||| ((1 : Int32) <<< ((nI i - nI π.length) &&& 31)) = nI (bitf (fun j => P.testBit (fmm m π.length j) = true) (i + 1 - π.length)) := by
            rw [nI_subI (by omega) (by omega), shl_1 (by omega), or_2 (bitf_lt _ _) (by omega), show i + 1 - π.length = (i - π.length) + 1 by omega, bitf]
            have : fmm m π.length (i - π.length) = m i := by unfold fmm; congr 1; omega
            rw [this, if_pos q2]
          rw [← eb, ← nI_s] at nx
          exact nx
theorem r_t_ct (π : List Nat) (P t : Nat) (hT : iTc T l m L lo R c) (hr : rowIs (T.1 4) π) (hπ : π.length ≤ c) (h1 : ∀ i, i < π.length → π.getD i 9 < R) (ht : t < 3) (hP : P < 16) :
    hy_R 4 mX1_cutsToLay 0 0 [hy_r 20, .inl (nI P), .inl (nI t), .inl (nI π.length)] (wW N F S T C W) (fun o w1 => ∃ x, o = some x ∧ ctl m lo c π P t x ∧ w1 = wW N F S T C W) := by
  refine hy_Ri (L := [some (hy_r 20), some (.inl (nI P)), some (.inl (nI t)), some (.inl (nI π.length)), none, none]) rfl (by decide) (hy_ple rfl) rfl ?_
  refine hy_go hy_pfA oX1_cutsToLay [6] 60 0 0 _ ?_
  have h := l_t_ct N F S T C W l m L lo R c (fun o w1 => ∃ x, o = some x ∧ ctl m lo c π P t x ∧ w1 = wW N F S T C W) π P t hT hr hπ h1 ht hP (fun x hx => ⟨x, rfl, hx, rfl⟩) c 0 (by omega) (by omega) (fun k hk => by omega)
  rw [Nat.zero_sub] at h
  exact h
end
