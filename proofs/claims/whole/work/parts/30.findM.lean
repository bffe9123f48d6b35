/-! ===== the reference's pull, find, found, netOf, about ===== -/
/-- a net's state as it is told -/
noncomputable def stv (s : Nat → Nat) (c : Nat) (st : Nat → Int32) (k : Nat) : Int32 := @ite _ (st k = 2 ∧ ∃ f, sureN s c f k) (Classical.propDecidable _) 3 (st k)
theorem stv_of {s : Nat → Nat} {c k : Nat} {st : Nat → Int32} {r : Int32} (h : sp_st s c st k r) : r = stv s c st k := by
  unfold stv
  rcases h with ⟨h1, h2, h3⟩ | ⟨h1, h2⟩
  · rw [if_pos ⟨h1, h2⟩, h3]
  · rw [if_neg h1, h2]
def plM (M : hyB) (k : Nat) : Int32 := if M.1 8 k < M.1 7 k then 0 else M.1 6 k
section
variable (N F S T C M : hyB)
def c_pullM (s : Nat → Nat) (c : Nat) (st : Nat → Int32) (a : Int32) (n k : Nat) : Prop := k < n ∧ a = nI k ∧ (stv s c st k = 0 ∨ stv s c st k = 3)
set_option maxRecDepth 100000 in
theorem m_pull (a : Int32) (s : Nat → Nat) (c n : Nat) (hM : kM M s c n) : hy_R 10 mX6_pull 0 0 [hy_r 30, .inl a] (wW N F S T C (wM M)) (fun o w1 => ∃ x, o = some x ∧ ∃ M', scrM M M' ∧ kM M' s c n ∧ ((∃ k, c_pullM s c (M.1 9) a n k ∧ x = plM M k ∧ w1 = wW N F S T C (wM (ss (sa M' 9 (upd (M.1 9) k 1)) 14 (M.2 14 + plM M k)))) ∨ (¬ ∃ k, c_pullM s c (M.1 9) a n k) ∧ x = -1 ∧ w1 = wW N F S T C (wM M'))) := by
  have c5 := hM.1.2.2.2.2.1
  have c6 := hM.1.2.2.2.2.2.1
  refine hy_Ri (L := [some (hy_r 30), some (.inl a), none]) rfl (by decide) (hy_ple rfl) rfl ?_
  refine hy_go hy_pfA oX6_pull [27] 60 0 0 _ ?_
  refine hy_cl (m_isNet N F S T C M a) rfl ?_
  rintro o w1 ⟨x, rfl, rfl, rfl⟩
  refine And.intro (fun q => ?_) (fun q => ?_)
  · rw [c5] at q
    refine hy_fin ⟨M, scrM_refl M, hM, Or.inr ⟨?_, rfl, rfl⟩⟩
    rintro ⟨k, h⟩
    exact net_out (by omega) q ⟨k, h.1, h.2.1⟩
  · rw [c5] at q
    obtain ⟨k, hk, rfl⟩ := net_in (by omega) q
    have hcl : (nI k).toNatClampNeg = k := cl_nI (by omega)
    have hin : vp_in (nI k) 24 := vn_in (by omega) (by omega)
    have go : ∀ M', scrM M M' → kM M' s c n → (stv s c (M.1 9) k = 0 ∨ stv s c (M.1 9) k = 3) → hy_X none 10 mX6_pull (fun o w1 => ∃ x, o = some x ∧ ∃ M', scrM M M' ∧ kM M' s c n ∧ ((∃ j, c_pullM s c (M.1 9) (nI k) n j ∧ x = plM M j ∧ w1 = wW N F S T C (wM (ss (sa M' 9 (upd (M.1 9) j 1)) 14 (M.2 14 + plM M j)))) ∨ (¬ ∃ j, c_pullM s c (M.1 9) (nI k) n j) ∧ x = -1 ∧ w1 = wW N F S T C (wM M'))) 0 0 (27, [some (hy_r 30), some (.inl (nI k)), none], [], wW N F S T C (wM M')) := by
      intro M' s1 s2 hst
      have e6 := s1.1 6 (by decide) (by decide)
      have e7 := s1.1 7 (by decide) (by decide)
      have e8 := s1.1 8 (by decide) (by decide)
      have e9 := s1.1 9 (by decide) (by decide)
      have e14 := s1.2 14 (by decide)
      refine hy_go hy_pfA oX6_pull [] 60 0 0 _ ?_
      refine And.intro hin ?_
      refine hy_cl (m_isRipe N F S T C (sa M' 9 (upd (M'.1 9) (nI k).toNatClampNeg 1)) k (by omega)) rfl ?_
      rintro o w1 ⟨x, rfl, rfl, rfl⟩
      rw [hcl]
      refine And.intro (fun q2 => ?_) (fun q2 => ?_)
      · have q2 : (if M'.1 8 k < M'.1 7 k then (0 : Int32) else 1) = 0 := q2
        rw [e8, e7] at q2
        have q3 : M.1 8 k < M.1 7 k := by
          by_cases q3 : M.1 8 k < M.1 7 k
          · exact q3
          · rw [if_neg q3] at q2
            exact absurd q2 (by decide)
        have e : plM M k = 0 := if_pos q3
        refine hy_fin ⟨M', s1, s2, Or.inl ⟨k, ⟨hk, rfl, hst⟩, e.symm, ?_⟩⟩
        rw [e, ← e14, ← e9]; rfl
      · have q2 : ¬ (if M'.1 8 k < M'.1 7 k then (0 : Int32) else 1) = 0 := q2
        rw [e8, e7] at q2
        have q3 : ¬ M.1 8 k < M.1 7 k := by
          intro q3
          rw [if_pos q3] at q2
          exact absurd rfl q2
        have e : plM M k = M.1 6 k := if_neg q3
        refine And.intro hin ?_
        have key : ∃ x, some (M'.1 6 (nI k).toNatClampNeg) = some x ∧ ∃ M'', scrM M M'' ∧ kM M'' s c n ∧ ((∃ j, c_pullM s c (M.1 9) (nI k) n j ∧ x = plM M j ∧ wW N F S T C (wM (ss (sa M' 9 (upd (M'.1 9) k 1)) 14 (M'.2 14 + M'.1 6 (nI k).toNatClampNeg))) = wW N F S T C (wM (ss (sa M'' 9 (upd (M.1 9) j 1)) 14 (M.2 14 + plM M j)))) ∨ (¬ ∃ j, c_pullM s c (M.1 9) (nI k) n j) ∧ x = -1 ∧ wW N F S T C (wM (ss (sa M' 9 (upd (M'.1 9) k 1)) 14 (M'.2 14 + M'.1 6 (nI k).toNatClampNeg))) = wW N F S T C (wM M'')) := by
          rw [hcl]
          exact ⟨_, rfl, M', s1, s2, Or.inl ⟨k, ⟨hk, rfl, hst⟩, by rw [e, e6], by rw [e, e6, e14, e9]⟩⟩
        exact key
    refine hy_cl (m_stateOf N F S T C M k (by omega) s c n hM) rfl ?_
    rintro o w1 ⟨r, rfl, hr, M1, s1, s2, rfl⟩
    have hr := stv_of hr
    refine And.intro (fun q2 => ?_) (fun q2 => ?_)
    · exact go M1 s1 s2 (Or.inl (hr ▸ q2))
    · refine hy_cl (m_stateOf N F S T C M1 k (by omega) s c n s2) rfl ?_
      rintro o w1 ⟨r2, rfl, hr2, M2, t1, t2, rfl⟩
      have hr2 := stv_of hr2
      rw [s1.1 9 (by decide) (by decide)] at hr2
      refine And.intro (fun q3 => ?_) (fun q3 => ?_)
      · exact go M2 (scrM_trans s1 t1) t2 (Or.inr (hr2 ▸ q3))
      · refine hy_fin ⟨M2, scrM_trans s1 t1, t2, Or.inr ⟨?_, rfl, rfl⟩⟩
        rintro ⟨j, h1, h2, h3⟩
        have : k = j := by
          have := congrArg Int32.toInt h2
          rw [zi_nI (by omega), zi_nI (by omega)] at this; omega
        subst this
        rcases h3 with h3 | h3
        · exact q2 (hr.trans h3)
        · exact q3 (hr2.trans h3)
theorem l_m_find (Q : hyQ) (y no : Int32) (s : Nat → Nat) (c n : Nat)
    (K : ∀ M', scrM M M' → kM M' s c n → hy_X none 10 mX6_find Q 0 0 (105, [some (hy_r 30), some (.inl y), some (.inl no), some (.inl (nI (bitf (fit (stv s c (M.1 9)) (M.1 5) y no) n))), some (.inl (nI n))], [], wW N F S T C (wM M'))) :
    ∀ (j i : Nat) (M' : hyB), scrM M M' → kM M' s c n → n - i = j → i ≤ n → hy_X none 10 mX6_find Q 0 0 (44, [some (hy_r 30), some (.inl y), some (.inl no), some (.inl (nI (bitf (fit (stv s c (M.1 9)) (M.1 5) y no) i))), some (.inl (nI i))], [], wW N F S T C (wM M')) := by
  intro j
  induction j with
  | zero =>
    intro i M' s1 s2 hj hi
    have : i = n := by omega
    subst this
    refine hy_go hy_pfA oX6_find [44, 105] 60 0 0 _ ?_
    refine And.intro (fun q => K M' s1 s2) (fun q => absurd ?_ q)
    rw [s2.1.2.2.2.2.1]; exact Int32.le_refl _
  | succ j ih =>
    intro i M' s1 s2 hj hi
    have c6 := s2.1.2.2.2.2.2.1
    have hcl : (nI i).toNatClampNeg = i := cl_nI (by omega)
    have hin : vp_in (nI i) 24 := vn_in (by omega) (by omega)
    have a1 : n - (i + 1) = j := by omega
    have a2 : i + 1 ≤ n := by omega
    refine hy_go hy_pfA oX6_find [44, 105] 60 0 0 _ ?_
    refine And.intro (fun q => ?_) (fun q => ?_)
    · rw [s2.1.2.2.2.2.1, nI_le24 (by omega) (by omega)] at q
      omega
    · refine hy_cl (m_stateOf N F S T C M' i (by omega) s c n s2) rfl ?_
      rintro o w1 ⟨r, rfl, hr, M1, t1, t2, rfl⟩
      have hr := stv_of hr
      rw [s1.1 9 (by decide) (by decide)] at hr
      have u1 := scrM_trans s1 t1
      have e5 := u1.1 5 (by decide) (by decide)
      have no1 : ¬ fit (stv s c (M.1 9)) (M.1 5) y no i → hy_X none 10 mX6_find Q 0 0 (44, [some (hy_r 30), some (.inl y), some (.inl no), some (.inl (nI (bitf (fit (stv s c (M.1 9)) (M.1 5) y no) i) + 0)), some (.inl (nI i + 1))], [], wW N F S T C (wM M1)) := fun h => by
        have := ih (i + 1) M1 u1 t2 a1 a2
        rw [bitf, if_neg h, Nat.add_zero] at this
        rw [Int32.add_zero, nI_s]
        exact this
      refine And.intro (fun q2 => ?_) (fun q2 => ?_)
      · have q2 := hr.symm.trans q2
        refine And.intro hin ?_
        refine And.intro (fun q3 => ?_) (fun q3 => ?_)
        · rw [hcl, e5] at q3
          refine And.intro hin ?_
          refine And.intro (fun q4 => ?_) (fun q4 => ?_)
          · rw [hcl, e5] at q4
            have := ih (i + 1) M1 u1 t2 a1 a2
            rw [bitf, if_pos ⟨q2, q3, q4⟩, ← nI_add, ← shl_1 (by omega), ← nI_s] at this
            exact this
          · rw [hcl, e5] at q4
            exact no1 (fun h => q4 h.2.2)
        · rw [hcl, e5] at q3
          exact no1 (fun h => q3 h.2.1)
      · exact no1 (fun h => q2 (hr.trans h.1))
/-- when a find is looked at -/
def c_find (y no : Int32) : Prop := (0 ≤ y ∧ y ≤ 255) ∧ (0 ≤ no ∧ no ≤ 255) ∧ (y &&& no) = 0
/-- what telling a find does to the reference; x: the nets that it fits -/
def sp_findM (M : hyB) (s : Nat → Nat) (c n x : Nat) (y no r : Int32) (M' : hyB) : Prop :=
  (c_find y no ∧ c < 8 ∧ (∃ φ, way (us s c x) (c + 1) φ) ∧ r = nI c ∧ ∃ M1, scrM M M1 ∧ M' = ss (ss (sa M1 11 (upd (M.1 11) c (nI x))) 10 (nI (c + 1))) 12 0) ∨
  (c_find y no ∧ c < 8 ∧ (¬ ∃ φ, way (us s c x) (c + 1) φ) ∧ r = -1 ∧ ∃ M1, scrM M M1 ∧ kM M1 s c n ∧ M' = ss (sa M1 11 (upd (M.1 11) c (nI x))) 10 (nI c)) ∨ (¬ (c_find y no ∧ c < 8) ∧ r = -1 ∧ M' = M)
theorem iFM_us {M M1 : hyB} {s : Nat → Nat} {c n x : Nat} {v : Int32} (hM : iFM M s c n) (s1 : scrM M M1) (hc : c < 8) (hx : x < 2 ^ n) : iFM (ss (sa M1 11 (upd (M.1 11) c (nI x))) 10 (nI (c + 1))) (us s c x) (c + 1) n := by
  obtain ⟨c1, c2, c3, c4, c5, c6, c7⟩ := hM
  have hx2 : x < 2 ^ 24 := Nat.lt_of_lt_of_le hx (Nat.pow_le_pow_right (by omega) c6)
  refine ⟨rfl, by omega, fun f => ?_, us_lt c4 hx2, (s1.2 3 (by decide)).trans c5, c6, fun f hf => ?_⟩
  · show upd (M.1 11) c (nI x) f = nI (us s c x f)
    unfold upd us
    split
    · rfl
    · exact c3 f
  · unfold us
    split
    · exact hx
    · exact c7 f (by omega)
set_option maxRecDepth 100000 in
theorem m_find (y no : Int32) (s : Nat → Nat) (c n : Nat) (hM : kM M s c n) : hy_R 10 mX6_find 0 0 [hy_r 30, .inl y, .inl no] (wW N F S T C (wM M)) (fun o w1 => ∃ r, o = some r ∧ ∃ M', sp_findM M s c n (bitf (fit (stv s c (M.1 9)) (M.1 5) y no) n) y no r M' ∧ w1 = wW N F S T C (wM M')) := by
  obtain ⟨c1, c2, c3, c4, c5, c6, c7⟩ := id hM.1
  refine hy_Ri (L := [some (hy_r 30), some (.inl y), some (.inl no), none, none]) rfl (by decide) (hy_ple rfl) rfl ?_
  refine hy_go hy_pfA oX6_find [44] 60 0 0 _ ?_
  have h8 : (8 : Int32).toInt = 8 := rfl
  refine And.intro (fun q => ?_) (fun q => And.intro (fun q2 => ?_) (fun q2 => And.intro (fun q3 => And.intro (fun q4 => ?_) (fun q4 => ?_)) (fun q3 => ?_)))
  · exact hy_fin ⟨M, Or.inr (Or.inr ⟨fun h => g_within_0 q h.1.1, rfl, rfl⟩), rfl⟩
  · exact hy_fin ⟨M, Or.inr (Or.inr ⟨fun h => g_within_0 q2 h.1.2.1, rfl, rfl⟩), rfl⟩
  · refine hy_fin ⟨M, Or.inr (Or.inr ⟨fun h => ?_, rfl, rfl⟩), rfl⟩
    have := h.2
    have q4 := zi_eq.mp q4
    rw [c1, zi_nI (by omega)] at q4; omega
  · have hc : c < 8 := by
      have q4 : ¬ (M.2 10).toInt = 8 := fun h => q4 (zi_eq.mpr h)
      rw [c1, zi_nI (by omega)] at q4; omega
    have hcf : c_find y no := ⟨g_within_n0 q, g_within_n0 q2, q3⟩
    have hx : bitf (fit (stv s c (M.1 9)) (M.1 5) y no) n < 2 ^ n := bitf_lt _ _
    refine l_m_find N F S T C M _ y no s c n (fun M' s1 s2 => ?_) n 0 M (scrM_refl M) hM (by omega) (by omega)
    generalize bitf (fit (stv s c (M.1 9)) (M.1 5) y no) n = x at hx ⊢
    have e10 := s1.2 10 (by decide)
    have e11 := s1.1 11 (by decide) (by decide)
    have hcl : (M'.2 10).toNatClampNeg = c := by rw [e10, c1]; exact cl_nI (by omega)
    have e1 : M'.2 10 + 1 = nI (c + 1) := by rw [e10, c1, nI_s]
    have hI := iFM_us (v := 0) hM.1 s1 hc hx
    refine hy_go hy_pfA oX6_find [] 60 0 0 _ ?_
    refine And.intro (by rw [e10, c1]; exact vn_in hc (by decide)) ?_
    have hw : hy_R 6 mX6_isWay 0 0 [hy_r 30, .inl (-1), .inl (-1)] (wW N F S T C (wM (ss (sa M' 11 (upd (M'.1 11) (M'.2 10).toNatClampNeg (nI x))) 10 (M'.2 10 + 1)))) (fun o w1 => ∃ z, o = some z ∧ ((mt (us s c x) (-1) (-1) n (2 ^ (c + 1) - 1) ∧ z = 1) ∨ (¬ mt (us s c x) (-1) (-1) n (2 ^ (c + 1) - 1) ∧ z = 0)) ∧ ∃ a, w1 = wW N F S T C (wM (sa (ss (sa M' 11 (upd (M.1 11) c (nI x))) 10 (nI (c + 1))) 30 a))) := by
      rw [hcl, e1, e11]
      exact m_isWay N F S T C _ (-1) (-1) (us s c x) (c + 1) n hI
    refine hy_cl hw rfl ?_
    rintro o w1 ⟨z, rfl, hz, a, rfl⟩
    have hmw : mt (us s c x) (-1) (-1) n (2 ^ (c + 1) - 1) ↔ ∃ φ, way (us s c x) (c + 1) φ := by
      have := mt_way (s := us s c x) (c := c + 1) (n := n) hI.2.2.2.2.2.2
      constructor
      · intro h; exact (this.mp ⟨h, by omega⟩).1
      · intro h; exact (this.mpr ⟨h, by omega⟩).1
    rw [hmw] at hz
    have u1 : scrM M (sa M' 30 a) := scrM_trans s1 (scrM_mk0 M' a)
    refine And.intro (fun q5 => ?_) (fun q5 => ?_)
    · rcases hz with ⟨h1, h2⟩ | ⟨h1, h2⟩
      · rw [h2] at q5; exact absurd q5 (by decide)
      · have e2 : nI (c + 1) - 1 = nI c := nI_pred c
        have key : ∃ r, some (-1 : Int32) = some r ∧ ∃ M'', sp_findM M s c n x y no r M'' ∧ wW N F S T C (wM (ss (sa (sa M' 30 a) 11 (upd (M.1 11) c (nI x))) 10 (nI (c + 1) - 1))) = wW N F S T C (wM M'') := by
          rw [e2]
          refine ⟨_, rfl, _, Or.inr (Or.inl ⟨hcf, hc, h1, rfl, sa M' 30 a, u1, ⟨iFM_scr s2.1 (scrM_mk0 M' a), ?_⟩, rfl⟩), rfl⟩
          exact s2.2
        exact key
    · rcases hz with ⟨h1, h2⟩ | ⟨h1, h2⟩
      · refine And.intro (Or.inl rfl) ?_
        have e2 : nI (c + 1) - 1 = nI c := nI_pred c
        have key : ∃ r, some (nI (c + 1) - 1) = some r ∧ ∃ M'', sp_findM M s c n x y no r M'' ∧ wW N F S T C (wM (ss (ss (sa (sa M' 30 a) 11 (upd (M.1 11) c (nI x))) 10 (nI (c + 1))) 12 0)) = wW N F S T C (wM M'') := by
          rw [e2]
          exact ⟨_, rfl, _, Or.inl ⟨hcf, hc, h1, rfl, sa M' 30 a, u1, rfl⟩, rfl⟩
        exact key
      · rw [h2] at q5; exact absurd rfl q5
  · exact hy_fin ⟨M, Or.inr (Or.inr ⟨fun h => q3 h.1.2.2, rfl, rfl⟩), rfl⟩
theorem l_m_found (Q : hyQ) (b : Int32) (s : Nat → Nat) (c n f : Nat) (hM : iFM M s c n) (hf : f < c)
    (K : hy_X none 10 mX6_found Q 0 0 (54, [some (hy_r 30), some (.inl (nI f)), some (.inl b), some (.inl (nI (cb (fun k => (s f).testBit k) n))), some (.inl (nI n))], [], wW N F S T C (wM M))) :
    ∀ (j i : Nat), n - i = j → i ≤ n → hy_X none 10 mX6_found Q 0 0 (21, [some (hy_r 30), some (.inl (nI f)), some (.inl b), some (.inl (nI (cb (fun k => (s f).testBit k) i))), some (.inl (nI i))], [], wW N F S T C (wM M)) := by
  obtain ⟨c1, c2, c3, c4, c5, c6, c7⟩ := id hM
  intro j
  induction j with
  | zero =>
    intro i hj hi
    have : i = n := by omega
    subst this
    refine hy_go hy_pfA oX6_found [21, 54] 60 0 0 _ ?_
    refine And.intro (fun q => K) (fun q => absurd ?_ q)
    rw [c5]; exact Int32.le_refl _
  | succ j ih =>
    intro i hj hi
    have nx := ih (i + 1) (by omega) (by omega)
    rw [← nI_s, show cb (fun k => (s f).testBit k) (i + 1) = cb (fun k => (s f).testBit k) i + ((s f).testBit i).toNat from rfl, ← nI_add] at nx
    refine hy_go hy_pfA oX6_found [21, 54] 60 0 0 _ ?_
    refine And.intro (fun q => ?_) (fun q => ?_)
    · rw [c5, nI_le24 (by omega) (by omega)] at q
      omega
    · refine hy_cl (m_fits N F S T C M s c n f i hM (by omega) (by omega)) rfl ?_
      rintro o w1 ⟨x, rfl, hx, rfl⟩
      refine And.intro (fun q2 => ?_) (fun q2 => ?_)
      · rcases hx with ⟨h1, h2⟩ | ⟨h1, h2⟩
        · rw [h2] at q2; exact absurd q2 (by decide)
        · rw [h1] at nx
          exact nx
      · rcases hx with ⟨h1, h2⟩ | ⟨h1, h2⟩
        · rw [h1] at nx
          exact nx
        · rw [h2] at q2; exact absurd rfl q2
theorem m_found (a b : Int32) (s : Nat → Nat) (c n : Nat) (hM : kM M s c n) : hy_R 10 mX6_found 0 0 [hy_r 30, .inl a, .inl b] (wW N F S T C (wM M)) (fun o w1 => ∃ x, o = some x ∧ ((∃ f, f < c ∧ a = nI f ∧ ((b = 0 ∧ x = nI (cb (fun k => (s f).testBit k) n)) ∨ (b = 1 ∧ sureP s c f x) ∨ (¬ b = 0 ∧ ¬ b = 1 ∧ x = -1))) ∨ (¬ ∃ f, f < c ∧ a = nI f) ∧ x = -1) ∧ ∃ M', scrM M M' ∧ kM M' s c n ∧ w1 = wW N F S T C (wM M')) := by
  obtain ⟨c1, c2, c3, c4, c5, c6, c7⟩ := id hM.1
  refine hy_Ri (L := [some (hy_r 30), some (.inl a), some (.inl b), none, none]) rfl (by decide) (hy_ple rfl) rfl ?_
  refine hy_go hy_pfA oX6_found [21] 60 0 0 _ ?_
  refine And.intro (fun q => ?_) (fun q => ?_)
  · rw [c1] at q
    exact hy_fin ⟨Or.inr ⟨net_out (by omega) q, rfl⟩, M, scrM_refl M, hM, rfl⟩
  · rw [c1] at q
    obtain ⟨f, hf, rfl⟩ := net_in (by omega) q
    have hcl : (nI f).toNatClampNeg = f := cl_nI (by omega)
    have h8 : f < 8 := by omega
    refine l_m_found N F S T C M _ b s c n f hM.1 hf ?_ n 0 (by omega) (by omega)
    refine hy_go hy_pfA oX6_found [] 60 0 0 _ ?_
    refine hy_cl (m_knows N F S T C M s c n hM) rfl ?_
    rintro o w1 ⟨rfl, M', s1, s2, s3, rfl⟩
    refine And.intro (fun q2 => ?_) (fun q2 => ?_)
    · exact hy_fin ⟨Or.inl ⟨f, hf, rfl, Or.inl ⟨q2, rfl⟩⟩, M', s1, s2, rfl⟩
    · refine And.intro (fun q3 => ?_) (fun q3 => ?_)
      · refine And.intro (vn_in h8 (by decide)) ?_
        refine hy_fin ⟨Or.inl ⟨f, hf, rfl, Or.inr (Or.inl ⟨q3, ?_⟩)⟩, M', s1, s2, rfl⟩
        show sureP s c f (M'.1 13 (nI f).toNatClampNeg)
        rw [hcl]
        rcases s2.2 with h | h
        · rw [h] at s3; exact absurd s3 (by decide)
        · exact h.2 f hf
      · exact hy_fin ⟨Or.inl ⟨f, hf, rfl, Or.inr (Or.inr ⟨q2, q3, rfl⟩)⟩, M', s1, s2, rfl⟩
end
