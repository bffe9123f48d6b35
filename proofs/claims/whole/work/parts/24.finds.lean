/-! ===== the finds of the class ===== -/
theorem sh_c : ∀ f : Fin 32, ((nI f.val &&& 31).toBitVec.smod 32).toNat = f.val := by decide
theorem shr_I {X f : Nat} (hX : X < 2147483648) (hf : f < 32) : nI X >>> (nI f &&& 31) = nI (X / 2 ^ f) := pk_shrN hX _ f (sh_c ⟨f, hf⟩)
theorem bit_I {X f : Nat} (hX : X < 2147483648) (hf : f < 32) : (nI X >>> (nI f &&& 31)) &&& 1 = nI (X.testBit f).toNat := by
  rw [shr_I hX hf]
  show nI (X / 2 ^ f) &&& nI 1 = _
  rw [nI_and, show (1 : Nat) = 2 ^ 1 - 1 from rfl, Nat.and_two_pow_sub_one_eq_mod, Nat.toNat_testBit]
theorem bit_0 {X f : Nat} (hX : X < 2147483648) (hf : f < 32) : (nI X >>> (nI f &&& 31)) &&& 1 = 0 ↔ X.testBit f = false := by
  rw [bit_I hX hf]
  cases X.testBit f with
  | true => exact ⟨fun h => absurd h (by decide), fun h => by cases h⟩
  | false => exact ⟨fun _ => rfl, fun _ => rfl⟩
theorem nI_or (a b : Nat) : nI a ||| nI b = nI (a ||| b) := by
  apply Int32.toBitVec_inj.mp
  show (Int32.ofNat a ||| Int32.ofNat b).toBitVec = (Int32.ofNat (a ||| b)).toBitVec
  rw [Int32.toBitVec_or, Int32.toBitVec_ofNat', Int32.toBitVec_ofNat', Int32.toBitVec_ofNat']
  exact BitVec.ofNat_or.symm
theorem nI_dif (a b : Nat) : nI a &&& (nI b ^^^ (-1)) = nI (a ^^^ (a &&& b)) := by
  apply Int32.toBitVec_inj.mp
  have hm : (-1 : Int32).toBitVec = BitVec.allOnes 32 := by decide
  show (Int32.ofNat a &&& (Int32.ofNat b ^^^ (-1))).toBitVec = (Int32.ofNat (a ^^^ (a &&& b))).toBitVec
  rw [Int32.toBitVec_and, Int32.toBitVec_xor, Int32.toBitVec_ofNat', Int32.toBitVec_ofNat', Int32.toBitVec_ofNat', hm]
  apply BitVec.eq_of_getLsbD_eq
  intro i hi
  simp only [BitVec.getLsbD_and, BitVec.getLsbD_xor, BitVec.getLsbD_ofNat, BitVec.getLsbD_allOnes, Nat.testBit_xor, Nat.testBit_and, hi, decide_true, Bool.true_and]
  cases a.testBit i <;> cases b.testBit i <;> rfl
/-- the finds: fits as numbers, their number -/
def iF (F : hyB) (s : Nat → Nat) (c : Nat) : Prop := F.2 2 = nI c ∧ c ≤ 8 ∧ (∀ f, F.1 0 f = nI (s f)) ∧ ∀ f, s f < 2 ^ 24
section
variable (N F S T C : hyB) (R : hyW)
theorem r_f_count : hy_R 3 mX0_count 0 0 [hy_r 10] (wW N F S T C R) (fun o w1 => ∃ x, o = some x ∧ x = F.2 2 ∧ w1 = wW N F S T C R) := by
  refine hy_Ri (L := [some (hy_r 10)]) rfl (by decide) (hy_ple rfl) rfl ?_
  refine hy_go hy_pfA oX0_count [] 60 0 0 _ ?_
  exact hy_fin ⟨rfl, rfl⟩
theorem r_f_isFind (a : Int32) : hy_R 4 mX0_isFind 0 0 [hy_r 10, .inl a] (wW N F S T C R) (fun o w1 => ∃ x, o = some x ∧ x = g_within [a, 0, F.2 2 - 1] ∧ w1 = wW N F S T C R) := by
  refine hy_Rz (L := [some (hy_r 10), some (.inl a)]) rfl (by decide) (fun x w h => h.1 ▸ g_within_01 _) (hy_ple rfl) rfl ?_
  refine hy_go hy_pfA oX0_isFind [] 60 0 0 _ ?_
  exact hy_fin ⟨rfl, rfl⟩
theorem l_f_fitted (Q : hyQ) (s : Nat → Nat) (c X : Nat) (hF : iF F s c) (hX : X < 256) (K : Q (some (nI (orU s X 8))) (wW N F S T C R)) :
    ∀ (j i : Nat), 8 - i = j → i ≤ 8 → hy_X none 4 mX0_fittedBy Q 0 0 (4, [some (hy_r 10), some (.inl (nI X)), some (.inl (nI (orU s X i))), some (.inl (nI i))], [], wW N F S T C R) := by
  obtain ⟨c1, c2, c3, c4⟩ := id hF
  intro j
  induction j with
  | zero =>
    intro i hj hi
    have : i = 8 := by omega
    subst this
    refine hy_go hy_pfA oX0_fittedBy [4] 60 0 0 _ ?_
    exact And.intro (fun q => K) (fun q => absurd (by decide : (8 : Int32) ≤ nI 8) q)
  | succ j ih =>
    intro i hj hi
    have hcl : (nI i).toNatClampNeg = i := cl_nI (by omega)
    have hin : vp_in (nI i) 8 := vn_in (by omega) (by omega)
    have nx := ih (i + 1) (by omega) (by omega)
    rw [← nI_s] at nx
    refine hy_go hy_pfA oX0_fittedBy [4] 60 0 0 _ ?_
    refine And.intro (fun q => ?_) (fun q => ?_)
    · have q : nI 8 ≤ nI i := q
      rw [nI_le24 (by omega) (by omega)] at q
      omega
    · refine And.intro (fun q2 => ?_) (fun q2 => ?_)
      · have q2 := (bit_0 (by omega) (by omega)).mp q2
        rw [orU, q2, if_neg (by decide)] at nx
        exact nx
      · have q2 : X.testBit i = true := by
          cases hx : X.testBit i with
          | true => rfl
          | false => exact absurd ((bit_0 (by omega) (by omega)).mpr hx) q2
        refine And.intro hin ?_
        rw [orU, q2, if_pos rfl, ← nI_or, ← c3 i] at nx
        rw [← hcl] at nx
        have nx2 : hy_X none 4 mX0_fittedBy Q 0 0 (4, [some (hy_r 10), some (.inl (nI X)), some (.inl (nI (orU s X i) ||| F.1 0 (nI i).toNatClampNeg)), some (.inl (nI i + 1))], [], wW N F S T C R) := by
          rw [hcl] at nx ⊢
          exact nx
        exact nx2
theorem r_f_fitted (s : Nat → Nat) (c X : Nat) (hF : iF F s c) (hX : X < 256) : hy_R 4 mX0_fittedBy 0 0 [hy_r 10, .inl (nI X)] (wW N F S T C R) (fun o w1 => ∃ x, o = some x ∧ x = nI (orU s X 8) ∧ w1 = wW N F S T C R) := by
  refine hy_Ri (L := [some (hy_r 10), some (.inl (nI X)), none, none]) rfl (by decide) (hy_ple rfl) rfl ?_
  refine hy_go hy_pfA oX0_fittedBy [4] 60 0 0 _ ?_
  exact l_f_fitted N F S T C R _ s c X hF hX ⟨_, rfl, rfl, rfl⟩ 8 0 (by omega) (by omega)
theorem pw8 {c : Nat} (h : c ≤ 8) : 2 ^ c ≤ 256 := Nat.pow_le_pow_right (n := 2) (by omega) h
theorem l_f_hasWay (Q : hyQ) (s : Nat → Nat) (c t : Nat) (hF : iF F s c) (ht : t ≤ 8) (K : (hallC s t → Q (some 1) (wW N F S T C R)) ∧ (¬ hallC s t → Q (some 0) (wW N F S T C R))) :
    ∀ (j i : Nat), 2 ^ t - i = j → 1 ≤ i → i ≤ 2 ^ t → (∀ X, 1 ≤ X → X < i → pcn X ≤ pcn (orU s X 8)) → hy_X none 5 mX0_hasWay Q 0 0 (6, [some (hy_r 10), some (.inl (nI t)), some (.inl (nI (2 ^ t))), some (.inl (nI i))], [], wW N F S T C R) := by
  have hp := pw8 ht
  intro j
  induction j with
  | zero =>
    intro i hj h1 hi h2
    have : i = 2 ^ t := by omega
    refine hy_go hy_pfA oX0_hasWay [6] 60 0 0 _ ?_
    refine And.intro (fun q => ?_) (fun q => absurd ?_ q)
    · exact K.1 (fun X a b => h2 X a (by omega))
    · rw [this]; exact Int32.le_refl _
  | succ j ih =>
    intro i hj h1 hi h2
    refine hy_go hy_pfA oX0_hasWay [6] 60 0 0 _ ?_
    refine And.intro (fun q => ?_) (fun q => ?_)
    · rw [nI_le24 (by omega) (by omega)] at q
      omega
    · refine hy_cl (r_f_fitted N F S T C R s c i hF (by omega)) rfl ?_
      rintro o w1 ⟨x, rfl, rfl, rfl⟩
      have e1 : g_bitCount [nI (orU s i 8)] = nI (pcn (orU s i 8)) := bc_I (orU_lt hF.2.2.2 i 8)
      have e2 : g_bitCount [nI i] = nI (pcn i) := bc_I (by omega)
      have l1 : pcn (orU s i 8) ≤ 24 := cb_le _ _
      have l2 : pcn i ≤ 24 := cb_le _ _
      refine And.intro (fun q2 => ?_) (fun q2 => ?_)
      · rw [e1, e2, nI_le24 (by omega) (by omega)] at q2
        have nx := ih (i + 1) (by omega) (by omega) (by omega) (fun X a b => by
          by_cases e : X = i
          · rw [e]; exact q2
          · exact h2 X a (by omega))
        rw [← nI_s] at nx
        exact nx
      · rw [e1, e2, nI_le24 (by omega) (by omega)] at q2
        exact K.2 (fun h => q2 (h i h1 (by omega)))
theorem r_f_hasWay (s : Nat → Nat) (c t : Nat) (hF : iF F s c) (ht : t ≤ 8) : hy_R 5 mX0_hasWay 0 0 [hy_r 10, .inl (nI t)] (wW N F S T C R) (fun o w1 => ∃ x, o = some x ∧ ((hallC s t ∧ x = 1) ∨ (¬ hallC s t ∧ x = 0)) ∧ w1 = wW N F S T C R) := by
  refine hy_Rz (L := [some (hy_r 10), some (.inl (nI t)), none, none]) rfl (by decide) (fun x w h => ?_) (hy_ple rfl) rfl ?_
  · rcases h.1 with h | h
    · exact Or.inr h.2
    · exact Or.inl h.2
  refine hy_go hy_pfA oX0_hasWay [6] 60 0 0 _ ?_
  have := l_f_hasWay N F S T C R (fun o w1 => ∃ x, o = some x ∧ ((hallC s t ∧ x = 1) ∨ (¬ hallC s t ∧ x = 0)) ∧ w1 = wW N F S T C R) s c t hF ht ⟨fun h => ⟨1, rfl, Or.inl ⟨h, rfl⟩, rfl⟩, fun h => ⟨0, rfl, Or.inr ⟨h, rfl⟩, rfl⟩⟩ _ 1 rfl (by omega) (Nat.pos_of_ne_zero (by simp)) (fun X a b => by omega)
  rw [← shl_1 (by omega)] at this
  exact this
theorem l_f_reach (Q : hyQ) (s : Nat → Nat) (c f : Nat) (hF : iF F s c) (hf : f < 8) (K : ∀ o, o < 2 ^ 24 → (∀ n, o.testBit n = true ↔ rch s c f n) → Q (some (nI o)) (wW N F S T C R)) :
    ∀ (j i o : Nat) (x1 x2 : Option hyV), 2 ^ c - i = j → 1 ≤ i → i ≤ 2 ^ c → o < 2 ^ 24 → (∀ n, o.testBit n = true ↔ (s f).testBit n = true ∧ ∀ X, 1 ≤ X → X < i → X.testBit f = false → pcn (orU s X 8) = pcn X → (orU s X 8).testBit n = false) → hy_X none 5 mX0_reachable Q 0 0 (17, [some (hy_r 10), some (.inl (nI f)), some (.inl (nI o)), some (.inl (nI (2 ^ c))), some (.inl (nI i)), x1, x2], [], wW N F S T C R) := by
  have hp := pw8 hF.2.1
  intro j
  induction j with
  | zero =>
    intro i o x1 x2 hj h1 hi ho h2
    have : i = 2 ^ c := by omega
    refine hy_go hy_pfA oX0_reachable [17] 60 0 0 _ ?_
    refine And.intro (fun q => ?_) (fun q => absurd ?_ q)
    · exact K o ho (fun n => by rw [h2 n, this]; exact Iff.rfl)
    · rw [this]; exact Int32.le_refl _
  | succ j ih =>
    intro i o x1 x2 hj h1 hi ho h2
    have keep : (i.testBit f = true ∨ pcn (orU s i 8) ≠ pcn i) → ∀ x1 x2, hy_X none 5 mX0_reachable Q 0 0 (17, [some (hy_r 10), some (.inl (nI f)), some (.inl (nI o)), some (.inl (nI (2 ^ c))), some (.inl (nI i + 1)), x1, x2], [], wW N F S T C R) := fun hk x1 x2 => by
      rw [nI_s]
      refine ih (i + 1) o x1 x2 (by omega) (by omega) (by omega) ho (fun n => ?_)
      rw [h2 n]
      constructor
      · rintro ⟨a, b⟩
        refine ⟨a, fun X g1 g2 g3 g4 => ?_⟩
        by_cases e : X = i
        · rw [e] at g3 g4
          rcases hk with hk | hk
          · rw [hk] at g3; cases g3
          · exact absurd g4 hk
        · exact b X g1 (by omega) g3 g4
      · rintro ⟨a, b⟩
        exact ⟨a, fun X g1 g2 g3 g4 => b X g1 (by omega) g3 g4⟩
    have e1 : g_bitCount [nI (orU s i 8)] = nI (pcn (orU s i 8)) := bc_I (orU_lt hF.2.2.2 i 8)
    have e2 : g_bitCount [nI i] = nI (pcn i) := bc_I (by omega)
    have l1 : pcn (orU s i 8) ≤ 24 := cb_le _ _
    have l2 : pcn i ≤ 24 := cb_le _ _
    have b2 : ∀ z : Int32, (z = 0 → i.testBit f = true) → (¬ z = 0 → i.testBit f = false) → hy_X none 5 mX0_reachable Q 0 0 (39, [some (hy_r 10), some (.inl (nI f)), some (.inl (nI o)), some (.inl (nI (2 ^ c))), some (.inl (nI i)), some (.inl z), x2], [], wW N F S T C R) := by
      intro z hz1 hz2
      refine hy_go hy_pfA oX0_reachable [17] 60 0 0 _ ?_
      refine hy_cl (r_f_fitted N F S T C R s c i hF (by omega)) rfl ?_
      rintro o2 w1 ⟨x, rfl, rfl, rfl⟩
      refine And.intro (fun q2 => ?_) (fun q2 => ?_)
      · exact keep (Or.inl (hz1 q2)) _ _
      · refine And.intro (fun q3 => ?_) (fun q3 => ?_)
        · rw [e1, e2, zi_eq, zi_nI (by omega), zi_nI (by omega)] at q3
          have nx := ih (i + 1) (o ^^^ (o &&& orU s i 8)) (some (.inl z)) (some (.inl (nI (orU s i 8)))) (by omega) (by omega) (by omega) (Nat.xor_lt_two_pow ho (Nat.lt_of_le_of_lt Nat.and_le_left ho)) (fun n => by
            have : (o ^^^ (o &&& orU s i 8)).testBit n = (o.testBit n && !((orU s i 8).testBit n)) := by
              rw [Nat.testBit_xor, Nat.testBit_and]
              cases o.testBit n <;> cases (orU s i 8).testBit n <;> rfl
            rw [this, Bool.and_eq_true, h2 n]
            constructor
            · rintro ⟨⟨a, b⟩, d⟩
              refine ⟨a, fun X g1 g2 g3 g4 => ?_⟩
              by_cases e : X = i
              · rw [e]; simpa using d
              · exact b X g1 (by omega) g3 g4
            · rintro ⟨a, b⟩
              refine ⟨⟨a, fun X g1 g2 g3 g4 => b X g1 (by omega) g3 g4⟩, ?_⟩
              have := b i h1 (by omega) (hz2 q2) (by omega)
              simpa using this)
          rw [← nI_s, ← nI_dif] at nx
          exact nx
        · rw [e1, e2, zi_eq, zi_nI (by omega), zi_nI (by omega)] at q3
          exact keep (Or.inr (by omega)) _ _
    refine hy_go hy_pfA oX0_reachable [17, 39] 60 0 0 _ ?_
    refine And.intro (fun q => ?_) (fun q => ?_)
    · rw [nI_le24 (by omega) (by omega)] at q
      omega
    · refine And.intro (fun q2 => ?_) (fun q2 => ?_)
      · have q2 := (bit_0 (by omega) (by omega)).mp q2
        exact b2 1 (fun h => absurd h (by decide)) (fun _ => q2)
      · have q2 : i.testBit f = true := by
          cases hx : i.testBit f with
          | true => rfl
          | false => exact absurd ((bit_0 (by omega) (by omega)).mpr hx) q2
        exact b2 0 (fun _ => q2) (fun h => absurd rfl h)
theorem r_f_reach (s : Nat → Nat) (c f : Nat) (hF : iF F s c) (hf : f < 8) : hy_R 5 mX0_reachable 0 0 [hy_r 10, .inl (nI f)] (wW N F S T C R) (fun o w1 => ∃ x, o = some x ∧ (∃ z, x = nI z ∧ z < 2 ^ 24 ∧ ∀ n, z.testBit n = true ↔ rch s c f n) ∧ w1 = wW N F S T C R) := by
  have hcl : (nI f).toNatClampNeg = f := cl_nI (by omega)
  refine hy_Ri (L := [some (hy_r 10), some (.inl (nI f)), none, none, none, none, none]) rfl (by decide) (hy_ple rfl) rfl ?_
  refine hy_go hy_pfA oX0_reachable [17] 60 0 0 _ ?_
  refine And.intro (vn_in hf (by omega)) ?_
  have := l_f_reach N F S T C R (fun o w1 => ∃ x, o = some x ∧ (∃ z, x = nI z ∧ z < 2 ^ 24 ∧ ∀ n, z.testBit n = true ↔ rch s c f n) ∧ w1 = wW N F S T C R) s c f hF hf (fun o h1 h2 => ⟨_, rfl, ⟨o, rfl, h1, h2⟩, rfl⟩) _ 1 (s f) none none rfl (by omega) (Nat.pos_of_ne_zero (by simp)) (hF.2.2.2 f) (fun n => ⟨fun h => ⟨h, fun X a b => by omega⟩, fun h => h.1⟩)
  rw [← shl_1 (by have := hF.2.1; omega), ← hF.2.2.1 f, ← hF.1] at this
  have e : F.1 0 (nI f).toNatClampNeg = F.1 0 f := by rw [hcl]
  rw [← e] at this
  exact this
end
