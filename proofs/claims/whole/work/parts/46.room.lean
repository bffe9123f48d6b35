/-! ===== the mat room of the class: used, measured, packed ===== -/
theorem nI_xor (a b : Nat) : nI a ^^^ nI b = nI (a ^^^ b) := by
  apply Int32.toBitVec_inj.mp
  show (Int32.ofNat a ^^^ Int32.ofNat b).toBitVec = (Int32.ofNat (a ^^^ b)).toBitVec
  rw [Int32.toBitVec_xor, Int32.toBitVec_ofNat', Int32.toBitVec_ofNat', Int32.toBitVec_ofNat']
  exact BitVec.ofNat_xor.symm
theorem shl_I {t F : Nat} (ht : t < 256) (hF : F ≤ 8) : nI t <<< (nI F &&& 31) = nI (t * 2 ^ F) := by
  have : ∀ (f : Fin 9) (x : Fin 256), nI x.val <<< (nI f.val &&& 31) = nI (x.val * 2 ^ f.val) := by decide +kernel
  exact this ⟨F, by omega⟩ ⟨t, ht⟩
theorem sub_le {P S : Nat} (h : sub P S) : P ≤ S := by
  have e : P = P &&& S := by
    apply Nat.eq_of_testBit_eq
    intro i
    rw [Nat.testBit_and]
    cases hb : P.testBit i with
    | false => rfl
    | true => rw [h i hb]; rfl
  rw [e]
  exact Nat.and_le_right
theorem sub_step {S t b : Nat} (hS : S < 2 ^ b) (ht : sub t S) (h1 : 1 ≤ t) (G : Nat → Prop) : (∃ P, ((t - 1) &&& S) < P ∧ sub P S ∧ G P) ↔ (∃ P, t < P ∧ sub P S ∧ G P) ∨ G t := by
  have hlt := and_lt (t := t) (S := S) h1
  constructor
  · rintro ⟨P, p1, p2, p3⟩
    by_cases e : P = t
    · exact Or.inr (e ▸ p3)
    · by_cases q : P < t
      · have := sub_next b S t P hS ht p2 q
        omega
      · exact Or.inl ⟨P, by omega, p2, p3⟩
  · rintro (⟨P, p1, p2, p3⟩ | h)
    · exact ⟨P, by omega, p2, p3⟩
    · exact ⟨t, hlt, ht, h⟩
theorem xor_lt {P S : Nat} (h : sub P S) (h1 : 1 ≤ P) : S ^^^ P < S := by
  have h2 : sub (S ^^^ P) S := fun i hi => by
    rw [xor_sub h, Bool.and_eq_true] at hi
    exact hi.1
  have h3 := sub_le h2
  have h4 : S ^^^ P ≠ S := fun e => by
    have : P = 0 := by
      apply Nat.eq_of_testBit_eq
      intro i
      have e2 : (S ^^^ P).testBit i = S.testBit i := by rw [e]
      rw [xor_sub h] at e2
      cases hb : P.testBit i with
      | false => simp
      | true => rw [hb, h i hb] at e2; cases e2
    omega
  omega
theorem lnS_sh (l : Nat → Nat) {F c t : Nat} (h : F ≤ c) : lnS l c (t * 2 ^ F) = lnS (fl l F) (c - F) t := by
  unfold lnS
  have e : c = F + (c - F) := by omega
  rw [show sumf (fun j => if (t * 2 ^ F).testBit j = true then l j else 0) c = sumf (fun j => if (t * 2 ^ F).testBit j = true then l j else 0) (F + (c - F)) by rw [← e], sumf_add]
  have z : sumf (fun j => if (t * 2 ^ F).testBit j = true then l j else 0) F = 0 := sumf_zero (fun j hj => by
    rw [if_neg]
    rw [Nat.testBit_mul_two_pow]
    simp
    omega)
  rw [z, Nat.zero_add]
  refine sumf_congr (fun j hj => ?_)
  have : (t * 2 ^ F).testBit (F + j) = t.testBit j := by
    rw [Nat.testBit_mul_two_pow]
    simp
  rw [this]; rfl
def iTc (T : hyB) (l m L lo : Nat → Nat) (R c : Nat) : Prop := iTd (T.1 0) (T.1 1) (T.1 2) (T.1 3) l m L lo R c ∧ T.2 8 = nI R ∧ T.2 9 = nI c
section
variable (N F S T C : hyB) (W : hyW) (l m L lo : Nat → Nat) (R c : Nat)
theorem l_t_used (Q : hyQ) (π : List Nat) (r : Nat) (hT : iTc T l m L lo R c) (hr : rowIs (T.1 4) π) (hπ : π.length ≤ 8) (hx : ∀ i, i < π.length → π.getD i 9 < 1000) (hr2 : r < 1000) (K : Q (some (nI (uL l π r))) (wW N F S T C W)) :
    ∀ (j i : Nat), π.length - i = j → i ≤ π.length → hy_X none 4 mX1_usedOf Q 0 0 (5, [some (hy_r 20), some (.inl (nI r)), some (.inl (nI π.length)), some (.inl (nI (sumf (fun i => if π.getD i 9 = r then l i else 0) i))), some (.inl (nI i))], [], wW N F S T C W) := by
  obtain ⟨⟨t0, t1, t2, t3, t4, t5⟩, d1, d2⟩ := id hT
  intro j
  induction j with
  | zero =>
    intro i hj hi
    have : i = π.length := by omega
    subst this
    refine hy_go hy_pfA oX1_usedOf [5] 60 0 0 _ ?_
    exact And.intro (fun q => K) (fun q => absurd (Int32.le_refl _) q)
  | succ j ih =>
    intro i hj hi
    have hcl : (nI i).toNatClampNeg = i := cl_nI (by omega)
    have hin : vp_in (nI i) 8 := vn_in (by omega) (by decide)
    have hfi := row_gd hr (i := i) (by omega)
    have hxi := hx i (by omega)
    have nx := ih (i + 1) (by omega) (by omega)
    rw [← nI_s, show sumf (fun i => if π.getD i 9 = r then l i else 0) (i + 1) = sumf (fun i => if π.getD i 9 = r then l i else 0) i + (if π.getD i 9 = r then l i else 0) from rfl, ← nI_add] at nx
    refine hy_go hy_pfA oX1_usedOf [5] 60 0 0 _ ?_
    refine And.intro (fun q => ?_) (fun q => ?_)
    · rw [nI_le24 (by omega) (by omega)] at q; omega
    · refine And.intro hin ?_
      refine And.intro (fun q2 => ?_) (fun q2 => ?_)
      · have q2 : T.1 4 (nI i).toNatClampNeg = nI r := q2
        rw [hcl, hfi, nI_eqI (by omega) (by omega)] at q2
        refine And.intro hin ?_
        have e : T.1 2 (nI i).toNatClampNeg = nI (l i) := by rw [hcl]; exact (t1 i).1
        rw [if_pos q2, ← e] at nx
        exact nx
      · have q2 : ¬ T.1 4 (nI i).toNatClampNeg = nI r := q2
        rw [hcl, hfi, nI_eqI (by omega) (by omega)] at q2
        rw [if_neg q2, nI_add, Nat.add_zero] at nx
        exact nx
theorem r_t_used (π : List Nat) (r : Nat) (hT : iTc T l m L lo R c) (hr : rowIs (T.1 4) π) (hπ : π.length ≤ 8) (hx : ∀ i, i < π.length → π.getD i 9 < 1000) (hr2 : r < 1000) : hy_R 4 mX1_usedOf 0 0 [hy_r 20, .inl (nI r), .inl (nI π.length)] (wW N F S T C W) (fun o w1 => ∃ x, o = some x ∧ x = nI (uL l π r) ∧ w1 = wW N F S T C W) := by
  refine hy_Ri (L := [some (hy_r 20), some (.inl (nI r)), some (.inl (nI π.length)), none, none]) rfl (by decide) (hy_ple rfl) rfl ?_
  refine hy_go hy_pfA oX1_usedOf [5] 60 0 0 _ ?_
  exact l_t_used N F S T C W l m L lo R c _ π r hT hr hπ hx hr2 ⟨_, rfl, rfl, rfl⟩ π.length 0 (by omega) (by omega)
theorem l_t_msIn (Q : hyQ) (ln : Nat → Int32) (s : Nat) (x1 : Option hyV) (hT : iTc T l m L lo R c) (hs : s < 2 ^ c)
    (K : hy_X none 4 mX1_measureSets Q 0 0 (51, [some (hy_r 20), x1, some (.inl (nI s)), some (.inl (nI (lnS l c s))), some (.inl (nI c))], [], wW N F S (sa T 5 ln) C W)) :
    ∀ (j i : Nat), c - i = j → i ≤ c → hy_X none 4 mX1_measureSets Q 0 0 (19, [some (hy_r 20), x1, some (.inl (nI s)), some (.inl (nI (sumf (fun j => if s.testBit j then l j else 0) i))), some (.inl (nI i))], [], wW N F S (sa T 5 ln) C W) := by
  obtain ⟨⟨t0, t1, t2, t3, t4, t5⟩, d1, d2⟩ := id hT
  have hs2 : s < 256 := Nat.lt_of_lt_of_le hs (Nat.pow_le_pow_right (n := 2) (by omega) t3 : 2 ^ c ≤ 2 ^ 8)
  intro j
  induction j with
  | zero =>
    intro i hj hi
    have : i = c := by omega
    subst this
    refine hy_go hy_pfA oX1_measureSets [19, 51] 60 0 0 _ ?_
    refine And.intro (fun q => K) (fun q => absurd ?_ q)
    show T.2 9 ≤ nI i
    rw [d2]; exact Int32.le_refl _
  | succ j ih =>
    intro i hj hi
    have hcl : (nI i).toNatClampNeg = i := cl_nI (by omega)
    have hin : vp_in (nI i) 8 := vn_in (by omega) (by decide)
    have nx := ih (i + 1) (by omega) (by omega)
    rw [← nI_s, show sumf (fun j => if s.testBit j then l j else 0) (i + 1) = sumf (fun j => if s.testBit j then l j else 0) i + (if s.testBit i then l i else 0) from rfl, ← nI_add] at nx
    have e : ((nI s >>> (nI i &&& 31)) &&& 1) * T.1 2 (nI i).toNatClampNeg = nI (if s.testBit i then l i else 0) := by
      rw [bit_I (by omega) (by omega), hcl, (t1 i).1]
      cases s.testBit i with
      | true => show (1 : Int32) * _ = _; rw [Int32.one_mul]; rfl
      | false => show (0 : Int32) * _ = _; rw [Int32.zero_mul]; rfl
    rw [← e] at nx
    refine hy_go hy_pfA oX1_measureSets [19, 51] 60 0 0 _ ?_
    refine And.intro (fun q => ?_) (fun q => And.intro hin nx)
    have q : T.2 9 ≤ nI i := q
    rw [d2, nI_le24 (by omega) (by omega)] at q; omega
theorem l_t_ms (Q : hyQ) (hT : iTc T l m L lo R c) (K : ∀ ln : Nat → Int32, (∀ s, s < 2 ^ c → ln s = nI (lnS l c s)) → Q none (wW N F S (sa T 5 ln) C W)) :
    ∀ (j s : Nat) (ln : Nat → Int32) (x3 x4 : Option hyV), 2 ^ c - s = j → s ≤ 2 ^ c → (∀ k, k < s → ln k = nI (lnS l c k)) → hy_X none 4 mX1_measureSets Q 0 0 (9, [some (hy_r 20), some (.inl (nI (2 ^ c))), some (.inl (nI s)), x3, x4], [], wW N F S (sa T 5 ln) C W) := by
  obtain ⟨⟨t0, t1, t2, t3, t4, t5⟩, d1, d2⟩ := id hT
  have hb : 2 ^ c ≤ 256 := (Nat.pow_le_pow_right (n := 2) (by omega) t3 : 2 ^ c ≤ 2 ^ 8)
  intro j
  induction j with
  | zero =>
    intro s ln x3 x4 hj hs hl
    have : s = 2 ^ c := by omega
    subst this
    refine hy_go hy_pfA oX1_measureSets [9] 60 0 0 _ ?_
    exact And.intro (fun q => K ln hl) (fun q => absurd (Int32.le_refl _) q)
  | succ j ih =>
    intro s ln x3 x4 hj hs hl
    have hcl : (nI s).toNatClampNeg = s := cl_nI (by omega)
    have hin : vp_in (nI s) 256 := vn_in (by omega) (by decide)
    refine hy_go hy_pfA oX1_measureSets [9, 19] 60 0 0 _ ?_
    refine And.intro (fun q => ?_) (fun q => ?_)
    · rw [nI_le24 (by omega) (by omega)] at q; omega
    · refine l_t_msIn N F S T C W l m L lo R c Q ln s _ hT (by omega) ?_ c 0 (by omega) (by omega)
      refine hy_go hy_pfA oX1_measureSets [9] 60 0 0 _ ?_
      refine And.intro hin ?_
      have nx := ih (s + 1) (upd ln (nI s).toNatClampNeg (nI (lnS l c s))) (some (.inl (nI (lnS l c s)))) (some (.inl (nI c))) (by omega) (by omega) (fun k hk => by
        rw [hcl]; unfold upd
        by_cases e : k = s
        · rw [if_pos e, e]
        · rw [if_neg e]; exact hl k (by omega))
      rw [← nI_s] at nx
      exact nx
theorem r_t_ms (hT : iTc T l m L lo R c) : hy_R 4 mX1_measureSets 0 0 [hy_r 20] (wW N F S T C W) (fun o w1 => o = none ∧ ∃ ln : Nat → Int32, (∀ s, s < 2 ^ c → ln s = nI (lnS l c s)) ∧ w1 = wW N F S (sa T 5 ln) C W) := by
  obtain ⟨⟨t0, t1, t2, t3, t4, t5⟩, d1, d2⟩ := id hT
  refine hy_Rv (L := [some (hy_r 20), none, none, none, none]) rfl (by decide) (hy_ple rfl) rfl ?_
  refine hy_go hy_pfA oX1_measureSets [9] 60 0 0 _ ?_
  have h := l_t_ms N F S T C W l m L lo R c (fun o w1 => o = none ∧ ∃ ln : Nat → Int32, (∀ s, s < 2 ^ c → ln s = nI (lnS l c s)) ∧ w1 = wW N F S (sa T 5 ln) C W) hT (fun ln hl => ⟨rfl, ln, hl, rfl⟩) (2 ^ c) 0 (T.1 5) none none (Nat.sub_zero _) (Nat.zero_le _) (fun k hk => by omega)
  rw [← shl_1 (by omega), ← d2] at h
  exact h
end
