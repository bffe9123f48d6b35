/-! ===== the reference's isWay, walked ===== -/
section
variable (N F S T C M : hyB)
theorem l_iw3 (Q : hyQ) (fd nt : Int32) (s : Nat → Nat) (c n m k : Nat) (hM : iFM M s c n) (hm : m < 24) (hk : k < 2 ^ c)
    (K : ∀ (a : Nat → Int32) (x : Option hyV), cnP (bs s fd nt m k) c a → hy_X none 6 mX6_isWay Q 0 0 (135, [some (hy_r 30), some (.inl fd), some (.inl nt), some (.inl (nI (2 ^ c - 1))), some (.inl (nI m)), some (.inl (nI k)), x], [], wW N F S T C (wM (sa M 30 a)))) :
    ∀ (j i : Nat) (a : Nat → Int32), c - i = j → i ≤ c → cnP (bj s fd nt m k i) c a → hy_X none 6 mX6_isWay Q 0 0 (64, [some (hy_r 30), some (.inl fd), some (.inl nt), some (.inl (nI (2 ^ c - 1))), some (.inl (nI m)), some (.inl (nI k)), some (.inl (nI i))], [], wW N F S T C (wM (sa M 30 a))) := by
  obtain ⟨c1, c2, c3, c4, c5, c6, c7⟩ := id hM
  have hp := pw8 c2
  have hkc : (nI k).toNatClampNeg = k := cl_nI (by omega)
  intro j
  induction j with
  | zero =>
    intro i a hj hi ha
    have : i = c := by omega
    refine hy_go hy_pfA oX6_isWay [64, 135] 60 0 0 _ ?_
    refine And.intro (fun q => ?_) (fun q => absurd ?_ q)
    · exact K a _ (cnP_iff (fun X hX => by rw [this]; exact bj_c hX) ha)
    · show M.2 10 ≤ nI i
      rw [c1, this]; exact Int32.le_refl _
  | succ j ih =>
    intro i a hj hi ha
    have hic : i < c := by omega
    refine hy_go hy_pfA oX6_isWay [64, 135] 60 0 0 _ ?_
    refine And.intro (fun q => ?_) (fun q => ?_)
    · have q : M.2 10 ≤ nI i := q
      rw [c1, nI_le24 (by omega) (by omega)] at q
      omega
    · refine And.intro (vn_in (by omega) (by decide)) ?_
      refine And.intro (fun q2 => ?_) (fun q2 => ?_)
      · have q2 : a (nI k).toNatClampNeg = 0 := q2
        rw [hkc] at q2
        rcases ha k hk with ⟨h1, h2⟩ | ⟨h1, h2⟩
        · rw [h1] at q2; exact absurd q2 (by decide)
        · rw [bs_k] at h2
          exact K a _ (cnP_iff (fun X hX => bj_no hX h2) ha)
      · have q2 : ¬ a (nI k).toNatClampNeg = 0 := q2
        rw [hkc] at q2
        have hmt : mt s fd nt m k := by
          rcases ha k hk with ⟨h1, h2⟩ | ⟨h1, h2⟩
          · exact bs_k.mp h2
          · exact absurd h1 q2
        have skip : ¬ (k.testBit i = false ∧ (s i).testBit m = true ∧ cst fd nt i m) → hy_X none 6 mX6_isWay Q 0 0 (64, [some (hy_r 30), some (.inl fd), some (.inl nt), some (.inl (nI (2 ^ c - 1))), some (.inl (nI m)), some (.inl (nI k)), some (.inl (nI i + 1))], [], wW N F S T C (wM (sa M 30 a))) := fun h => by
          rw [nI_s]
          exact ih (i + 1) a (by omega) (by omega) (cnP_iff (fun X hX => bj_keep h) ha)
        refine And.intro (fun q3 => ?_) (fun q3 => ?_)
        · have q3 := (bit_0 (by omega) (by omega)).mp q3
          refine hy_cl (m_fits N F S T C (sa M 30 a) s c n i m hM (by omega) hm) rfl ?_
          rintro o w1 ⟨x, rfl, hx, rfl⟩
          refine And.intro (fun q4 => ?_) (fun q4 => ?_)
          · rcases hx with ⟨h1, h2⟩ | ⟨h1, h2⟩
            · rw [h2] at q4; exact absurd q4 (by decide)
            · exact skip (fun h => by rw [h.2.1] at h1; cases h1)
          · rcases hx with ⟨h1, h2⟩ | ⟨h1, h2⟩
            · have hlt : k ||| 2 ^ i < 2 ^ c := Nat.or_lt_two_pow hk (Nat.pow_lt_pow_right (by omega) hic)
              have e1 : nI k ||| ((1 : Int32) <<< (nI i &&& 31)) = nI (k ||| 2 ^ i) := by rw [shl_1 (by omega), nI_or]
              have hcl : (nI k ||| ((1 : Int32) <<< (nI i &&& 31))).toNatClampNeg = k ||| 2 ^ i := by rw [e1]; exact cl_nI (by omega)
              have put : cst fd nt i m → vp_in (nI k ||| ((1 : Int32) <<< (nI i &&& 31))) 256 ∧ hy_X none 6 mX6_isWay Q 0 0 (64, [some (hy_r 30), some (.inl fd), some (.inl nt), some (.inl (nI (2 ^ c - 1))), some (.inl (nI m)), some (.inl (nI k)), some (.inl (nI i + 1))], [], wW N F S T C (wM (sa M 30 (upd a (nI k ||| ((1 : Int32) <<< (nI i &&& 31))).toNatClampNeg (vp_nar .boolean 1))))) := fun h => by
                refine ⟨by rw [e1]; exact vn_in (by omega) (by decide), ?_⟩
                rw [nI_s, hcl]
                exact ih (i + 1) _ (by omega) (by omega) (cnP_upd (fun X hX hne => (bj_put ⟨q3, h1, h⟩ hmt).1 hne) (bj_put (Y := 0) ⟨q3, h1, h⟩ hmt).2 ha)
              refine And.intro (fun q5 => ?_) (fun q5 => ?_)
              · refine And.intro (fun q6 => ?_) (fun q6 => ?_)
                · exact And.intro (put (Or.inr q6)).1 (put (Or.inr q6)).2
                · exact skip (fun h => h.2.2.elim (fun h => h q5) q6)
              · exact And.intro (put (Or.inl q5)).1 (put (Or.inl q5)).2
            · rw [h2] at q4; exact absurd rfl q4
        · exact skip (fun h => q3 ((bit_0 (by omega) (by omega)).mpr h.1))
theorem l_iw2 (Q : hyQ) (fd nt : Int32) (s : Nat → Nat) (c n m : Nat) (hM : iFM M s c n) (hm : m < 24)
    (K : ∀ (a : Nat → Int32) (x y : Option hyV), cnP (mt s fd nt (m + 1)) c a → hy_X none 6 mX6_isWay Q 0 0 (141, [some (hy_r 30), some (.inl fd), some (.inl nt), some (.inl (nI (2 ^ c - 1))), some (.inl (nI m)), x, y], [], wW N F S T C (wM (sa M 30 a)))) :
    ∀ (t : Nat) (a : Nat → Int32) (x : Option hyV), t ≤ 2 ^ c → cnP (bs s fd nt m t) c a → hy_X none 6 mX6_isWay Q 0 0 (56, [some (hy_r 30), some (.inl fd), some (.inl nt), some (.inl (nI (2 ^ c - 1))), some (.inl (nI m)), some (.inl (nI t - 1)), x], [], wW N F S T C (wM (sa M 30 a))) := by
  obtain ⟨c1, c2, c3, c4, c5, c6, c7⟩ := id hM
  have hp := pw8 c2
  intro t
  induction t with
  | zero =>
    intro a x ht ha
    refine hy_go hy_pfA oX6_isWay [56, 141] 60 0 0 _ ?_
    refine And.intro (fun q => ?_) (fun q => absurd (by decide) q)
    refine K a _ _ (cnP_iff (fun X hX => ?_) ha)
    rw [mt_s]
    constructor
    · rintro (h | ⟨f, f1, f2, f3, f4, f5⟩)
      · exact Or.inl h
      · exact Or.inr ⟨f, f1, f2, f3, f4⟩
    · rintro (h | ⟨f, f1, f2, f3, f4⟩)
      · exact Or.inl h
      · exact Or.inr ⟨f, f1, f2, f3, f4, Nat.zero_le _⟩
  | succ t ih =>
    intro a x ht ha
    rw [nI_pred]
    refine hy_go hy_pfA oX6_isWay [64, 141] 60 0 0 _ ?_
    refine And.intro (fun q => ?_) (fun q => ?_)
    · have q := zi_lt.mp q
      rw [zi_nI (by omega), zi_lit0] at q; omega
    · refine l_iw3 N F S T C M Q fd nt s c n m t hM hm (by omega) (fun a' x' ha' => ?_) c 0 a (by omega) (by omega) (cnP_iff (fun X hX => bj_0.symm) ha)
      refine hy_go hy_pfA oX6_isWay [56] 60 0 0 _ ?_
      have nx := ih a' x' (by omega) ha'
      have e : nI t - 1 = nI t + (-1) := Int32.sub_eq_add_neg _ _
      rw [e] at nx
      exact nx
theorem l_iw1 (Q : hyQ) (fd nt : Int32) (s : Nat → Nat) (c n : Nat) (hM : iFM M s c n)
    (K : ∀ (a : Nat → Int32) (x y : Option hyV), cnP (mt s fd nt n) c a → hy_X none 6 mX6_isWay Q 0 0 (147, [some (hy_r 30), some (.inl fd), some (.inl nt), some (.inl (nI (2 ^ c - 1))), some (.inl (nI n)), x, y], [], wW N F S T C (wM (sa M 30 a)))) :
    ∀ (j i : Nat) (a : Nat → Int32) (x y : Option hyV), n - i = j → i ≤ n → cnP (mt s fd nt i) c a → hy_X none 6 mX6_isWay Q 0 0 (44, [some (hy_r 30), some (.inl fd), some (.inl nt), some (.inl (nI (2 ^ c - 1))), some (.inl (nI i)), x, y], [], wW N F S T C (wM (sa M 30 a))) := by
  obtain ⟨c1, c2, c3, c4, c5, c6, c7⟩ := id hM
  have hp := pw8 c2
  intro j
  induction j with
  | zero =>
    intro i a x y hj hi ha
    have : i = n := by omega
    subst this
    refine hy_go hy_pfA oX6_isWay [44, 147] 60 0 0 _ ?_
    refine And.intro (fun q => K a x y ha) (fun q => absurd ?_ q)
    show M.2 3 ≤ nI i
    rw [c5]; exact Int32.le_refl _
  | succ j ih =>
    intro i a x y hj hi ha
    refine hy_go hy_pfA oX6_isWay [56, 147] 60 0 0 _ ?_
    refine And.intro (fun q => ?_) (fun q => ?_)
    · have q : M.2 3 ≤ nI i := q
      rw [c5, nI_le24 (by omega) (by omega)] at q
      omega
    · have := l_iw2 N F S T C M Q fd nt s c n i hM (by omega) (fun a' x' y' ha' => by
        refine hy_go hy_pfA oX6_isWay [44] 60 0 0 _ ?_
        have nx := ih (i + 1) a' x' y' (by omega) (by omega) ha'
        rw [← nI_s] at nx
        exact nx) (2 ^ c) a y (Nat.le_refl _) (cnP_iff (fun X hX => by
          constructor
          · exact Or.inl
          · rintro (h | ⟨f, f1, f2, f3, f4, f5⟩)
            · exact h
            · have := xo_lt f1; omega) ha)
      have e : nI (2 ^ c) - 1 = nI (2 ^ c - 1) := by
        have hpos : 0 < 2 ^ c := Nat.pow_pos (by omega)
        have := nI_pred (2 ^ c - 1)
        rwa [show 2 ^ c - 1 + 1 = 2 ^ c by omega] at this
      rw [e] at this
      exact this
theorem l_iw0 (Q : hyQ) (fd nt : Int32) (s : Nat → Nat) (c n : Nat) (hM : iFM M s c n)
    (K : ∀ (a : Nat → Int32) (x : Option hyV), cnP (fun X => X = 0) c a → hy_X none 6 mX6_isWay Q 0 0 (41, [some (hy_r 30), some (.inl fd), some (.inl nt), some (.inl (nI (2 ^ c - 1))), x, none, none], [], wW N F S T C (wM (sa M 30 a)))) :
    ∀ (j i : Nat) (a : Nat → Int32), 2 ^ c - i = j → i ≤ 2 ^ c → (∀ X, X < i → (a X = 1 ∧ X = 0) ∨ (a X = 0 ∧ ¬ X = 0)) → hy_X none 6 mX6_isWay Q 0 0 (12, [some (hy_r 30), some (.inl fd), some (.inl nt), some (.inl (nI (2 ^ c - 1))), some (.inl (nI i)), none, none], [], wW N F S T C (wM (sa M 30 a))) := by
  have hp := pw8 hM.2.1
  intro j
  induction j with
  | zero =>
    intro i a hj hi ha
    have : i = 2 ^ c := by omega
    refine hy_go hy_pfA oX6_isWay [12, 41] 60 0 0 _ ?_
    refine And.intro (fun q => K a _ (fun X hX => ha X (by omega))) (fun q => absurd (zi_lt.mpr ?_) q)
    rw [zi_nI (by omega), zi_nI (by omega)]
    have : 0 < 2 ^ c := Nat.pow_pos (by omega)
    omega
  | succ j ih =>
    intro i a hj hi ha
    have hcl : (nI i).toNatClampNeg = i := cl_nI (by omega)
    refine hy_go hy_pfA oX6_isWay [12, 41] 60 0 0 _ ?_
    refine And.intro (fun q => ?_) (fun q => ?_)
    · have q := zi_lt.mp q
      rw [zi_nI (by omega), zi_nI (by omega)] at q; omega
    · have step : ∀ v : Int32, (v = 1 ∧ i = 0) ∨ (v = 0 ∧ ¬ i = 0) → vp_in (nI i) 256 ∧ hy_X none 6 mX6_isWay Q 0 0 (12, [some (hy_r 30), some (.inl fd), some (.inl nt), some (.inl (nI (2 ^ c - 1))), some (.inl (nI i + 1)), none, none], [], wW N F S T C (wM (sa M 30 (upd a (nI i).toNatClampNeg (vp_nar .boolean v))))) := fun v hv => by
        refine ⟨vn_in (by omega) (by decide), ?_⟩
        rw [nI_s, hcl]
        refine ih (i + 1) _ (by omega) (by omega) (fun X hX => ?_)
        unfold upd
        by_cases e : X = i
        · rw [if_pos e, e]
          rcases hv with ⟨h1, h2⟩ | ⟨h1, h2⟩
          · exact Or.inl ⟨by rw [h1]; decide, h2⟩
          · exact Or.inr ⟨by rw [h1]; decide, h2⟩
        · rw [if_neg e]; exact ha X (by omega)
      refine And.intro (fun q2 => ?_) (fun q2 => ?_)
      · have : i = 0 := by
          have q2 := zi_eq.mp q2
          rw [zi_nI (by omega), zi_lit0] at q2; omega
        exact And.intro (step 1 (Or.inl ⟨rfl, this⟩)).1 (step 1 (Or.inl ⟨rfl, this⟩)).2
      · have : ¬ i = 0 := fun h => q2 (by rw [h]; rfl)
        exact And.intro (step 0 (Or.inr ⟨rfl, this⟩)).1 (step 0 (Or.inr ⟨rfl, this⟩)).2
theorem m_isWay (fd nt : Int32) (s : Nat → Nat) (c n : Nat) (hM : iFM M s c n) : hy_R 6 mX6_isWay 0 0 [hy_r 30, .inl fd, .inl nt] (wW N F S T C (wM M)) (fun o w1 => ∃ x, o = some x ∧ ((mt s fd nt n (2 ^ c - 1) ∧ x = 1) ∨ (¬ mt s fd nt n (2 ^ c - 1) ∧ x = 0)) ∧ ∃ a, w1 = wW N F S T C (wM (sa M 30 a))) := by
  have hp := pw8 hM.2.1
  have hpos : 0 < 2 ^ c := Nat.pow_pos (by omega)
  refine hy_Rz (L := [some (hy_r 30), some (.inl fd), some (.inl nt), none, none, none, none]) rfl (by decide) (fun x w h => ?_) (hy_ple rfl) rfl ?_
  · rcases h.1 with h | h
    · exact Or.inr h.2
    · exact Or.inl h.2
  refine hy_go hy_pfA oX6_isWay [12] 60 0 0 _ ?_
  have e : nI (2 ^ c - 1) = ((1 : Int32) <<< (M.2 10 &&& 31)) - 1 := by
    rw [hM.1, shl_1 (by have := hM.2.1; omega)]
    have := nI_pred (2 ^ c - 1)
    rw [show 2 ^ c - 1 + 1 = 2 ^ c by omega] at this
    exact this.symm
  have key := l_iw0 N F S T C M (fun o w1 => ∃ x, o = some x ∧ ((mt s fd nt n (2 ^ c - 1) ∧ x = 1) ∨ (¬ mt s fd nt n (2 ^ c - 1) ∧ x = 0)) ∧ ∃ a, w1 = wW N F S T C (wM (sa M 30 a))) fd nt s c n hM (fun a x ha => by
    refine hy_go hy_pfA oX6_isWay [44] 60 0 0 _ ?_
    refine l_iw1 N F S T C M _ fd nt s c n hM (fun a' x' y' ha' => ?_) n 0 a none none (by omega) (by omega) (cnP_iff (fun X hX => mt_0.symm) ha)
    refine hy_go hy_pfA oX6_isWay [] 60 0 0 _ ?_
    refine And.intro (vn_in (by omega) (by decide)) ?_
    refine hy_fin ⟨?_, a', rfl⟩
    show (mt s fd nt n (2 ^ c - 1) ∧ a' (nI (2 ^ c - 1)).toNatClampNeg = 1) ∨ (¬ mt s fd nt n (2 ^ c - 1) ∧ a' (nI (2 ^ c - 1)).toNatClampNeg = 0)
    rw [cl_nI (by omega)]
    rcases ha' (2 ^ c - 1) (by omega) with ⟨h1, h2⟩ | ⟨h1, h2⟩
    · exact Or.inl ⟨h2, h1⟩
    · exact Or.inr ⟨h2, h1⟩) _ 0 (M.1 30) rfl (Nat.zero_le _) (fun X hX => by omega)
  rw [e] at key
  exact key
end
