/-! ===== the reference's netOf and about ===== -/
section
variable (N F S T C M : hyB)
/-- what the reference tells of a net -/
def tlM (s : Nat → Nat) (c : Nat) (B : Nat → Nat → Int32) (what : Int) (k : Nat) (x : Int32) : Prop :=
  (what = 0 ∧ x = B 4 k) ∨ (what = 1 ∧ x = B 8 k) ∨ (what = 2 ∧ x = (if B 8 k < B 7 k then 0 else 1)) ∨ (what = 3 ∧ x = stv s c (B 9) k) ∨ (what = 4 ∧ x = B 5 k) ∨ (what = 5 ∧ x = B 6 k) ∨ (what = 6 ∧ sp_of s c (nI k) x) ∨ (what = 7 ∧ x = wkM (B 9 k) (B 7 k - B 8 k) (rtf (B 2) (B 1) (B 4) k)) ∨ (¬ (0 ≤ what ∧ what ≤ 7) ∧ x = -1)
set_option maxRecDepth 100000 in
theorem m_netOf (a b : Int32) (s : Nat → Nat) (c n : Nat) (hM : kM M s c n) (hN : iNM M n) : hy_R 10 mX6_netOf 0 0 [hy_r 30, .inl a, .inl b] (wW N F S T C (wM M)) (fun o w1 => ∃ x, o = some x ∧ ((∃ k, k < n ∧ a = nI k ∧ tlM s c M.1 b.toInt k x) ∨ (¬ ∃ k, k < n ∧ a = nI k) ∧ x = -1) ∧ ∃ M', scrM M M' ∧ kM M' s c n ∧ w1 = wW N F S T C (wM M')) := by
  obtain ⟨c1, c2, c3, c4, c5, c6, c7⟩ := id hM.1
  refine hy_Ri (L := [some (hy_r 30), some (.inl a), some (.inl b)]) rfl (by decide) (hy_ple rfl) rfl ?_
  refine hy_go hy_pfA oX6_netOf [] 60 0 0 _ ?_
  refine hy_cl (m_isNet N F S T C M a) rfl ?_
  rintro o w1 ⟨x, rfl, rfl, rfl⟩
  refine And.intro (fun q => ?_) (fun q => ?_)
  · rw [c5] at q
    exact hy_fin ⟨Or.inr ⟨net_out (by omega) q, rfl⟩, M, scrM_refl M, hM, rfl⟩
  · rw [c5] at q
    obtain ⟨k, hk, rfl⟩ := net_in (by omega) q
    have hcl : (nI k).toNatClampNeg = k := cl_nI (by omega)
    have h24 : k < 24 := by omega
    have hin : vp_in (nI k) 24 := vn_in h24 (by decide)
    have fin : ∀ (x : Int32) (M' : hyB), scrM M M' → kM M' s c n → tlM s c M.1 b.toInt k x → ∃ y, some x = some y ∧ ((∃ j, j < n ∧ nI k = nI j ∧ tlM s c M.1 b.toInt j y) ∨ (¬ ∃ j, j < n ∧ nI k = nI j) ∧ y = -1) ∧ ∃ M'', scrM M M'' ∧ kM M'' s c n ∧ wW N F S T C (wM M') = wW N F S T C (wM M'') := fun x M' s1 s2 hx => ⟨x, rfl, Or.inl ⟨k, hk, rfl, hx⟩, M', s1, s2, rfl⟩
    have fin0 : ∀ (x : Int32), tlM s c M.1 b.toInt k x → ∃ y, some x = some y ∧ ((∃ j, j < n ∧ nI k = nI j ∧ tlM s c M.1 b.toInt j y) ∨ (¬ ∃ j, j < n ∧ nI k = nI j) ∧ y = -1) ∧ ∃ M'', scrM M M'' ∧ kM M'' s c n ∧ wW N F S T C (wM M) = wW N F S T C (wM M'') := fun x hx => fin x M (scrM_refl M) hM hx
    refine And.intro (fun h0 => ?_) (fun h0 => And.intro (fun h1 => ?_) (fun h1 => And.intro (fun h2 => ?_) (fun h2 => And.intro (fun h3 => ?_) (fun h3 => And.intro (fun h4 => ?_) (fun h4 => And.intro (fun h5 => ?_) (fun h5 => And.intro (fun h6 => ?_) (fun h6 => And.intro (fun h7 => ?_) (fun h7 => ?_))))))))
    · refine And.intro hin (fin0 _ ?_)
      show tlM s c M.1 b.toInt k (M.1 4 (nI k).toNatClampNeg)
      rw [hcl]; exact Or.inl ⟨h0, rfl⟩
    · refine And.intro hin (fin0 _ ?_)
      show tlM s c M.1 b.toInt k (M.1 8 (nI k).toNatClampNeg)
      rw [hcl]; exact Or.inr (Or.inl ⟨h1, rfl⟩)
    · refine hy_cl (m_isRipe N F S T C M k h24) rfl ?_
      rintro o w1 ⟨x, rfl, rfl, rfl⟩
      refine And.intro (fun q2 => fin0 _ (Or.inr (Or.inr (Or.inl ⟨h2, q2.symm⟩)))) (fun q2 => fin0 _ (Or.inr (Or.inr (Or.inl ⟨h2, ?_⟩))))
      by_cases q3 : M.1 8 k < M.1 7 k
      · rw [if_pos q3] at q2; exact absurd rfl q2
      · rw [if_neg q3]
    · refine hy_cl (m_stateOf N F S T C M k h24 s c n hM) rfl ?_
      rintro o w1 ⟨r, rfl, hr, M1, t1, t2, rfl⟩
      exact fin r M1 t1 t2 (Or.inr (Or.inr (Or.inr (Or.inl ⟨h3, stv_of hr⟩))))
    · refine And.intro hin (fin0 _ ?_)
      show tlM s c M.1 b.toInt k (M.1 5 (nI k).toNatClampNeg)
      rw [hcl]; exact Or.inr (Or.inr (Or.inr (Or.inr (Or.inl ⟨h4, rfl⟩))))
    · refine And.intro hin (fin0 _ ?_)
      show tlM s c M.1 b.toInt k (M.1 6 (nI k).toNatClampNeg)
      rw [hcl]; exact Or.inr (Or.inr (Or.inr (Or.inr (Or.inr (Or.inl ⟨h5, rfl⟩)))))
    · refine hy_cl (m_findOf N F S T C M (nI k) (by rw [zi_nI (by omega)]; omega) s c n hM) rfl ?_
      rintro o w1 ⟨r, rfl, hr, M1, t1, t2, rfl⟩
      exact fin r M1 t1 t2 (Or.inr (Or.inr (Or.inr (Or.inr (Or.inr (Or.inr (Or.inl ⟨h6, hr⟩)))))))
    · refine hy_cl (m_weeksLeft N F S T C M k n hN h24) rfl ?_
      rintro o w1 ⟨x, rfl, hx, rfl⟩
      exact fin0 _ (Or.inr (Or.inr (Or.inr (Or.inr (Or.inr (Or.inr (Or.inr (Or.inl ⟨h7, hx⟩))))))))
    · refine fin0 _ (Or.inr (Or.inr (Or.inr (Or.inr (Or.inr (Or.inr (Or.inr (Or.inr ⟨?_, rfl⟩))))))))
      rintro ⟨g1, g2⟩
      have : b.toInt = 0 ∨ b.toInt = 1 ∨ b.toInt = 2 ∨ b.toInt = 3 ∨ b.toInt = 4 ∨ b.toInt = 5 ∨ b.toInt = 6 ∨ b.toInt = 7 := by omega
      rcases this with h | h | h | h | h | h | h | h
      · exact h0 h
      · exact h1 h
      · exact h2 h
      · exact h3 h
      · exact h4 h
      · exact h5 h
      · exact h6 h
      · exact h7 h
theorem l_m_about (Q : hyQ) (b : Int32) (s : Nat → Nat) (c n : Nat)
    (K : ∀ M', scrM M M' → kM M' s c n → hy_X none 10 mX6_about Q 0 0 (58, [some (hy_r 30), some (.inl b), some (.inl (nI (cntf (fun k => stv s c (M.1 9) k = 2) n))), some (.inl (nI (cntf (fun k => stv s c (M.1 9) k = 3) n))), some (.inl (nI n))], [], wW N F S T C (wM M'))) :
    ∀ (j i : Nat) (M' : hyB), scrM M M' → kM M' s c n → n - i = j → i ≤ n → hy_X none 10 mX6_about Q 0 0 (7, [some (hy_r 30), some (.inl b), some (.inl (nI (cntf (fun k => stv s c (M.1 9) k = 2) i))), some (.inl (nI (cntf (fun k => stv s c (M.1 9) k = 3) i))), some (.inl (nI i))], [], wW N F S T C (wM M')) := by
  intro j
  induction j with
  | zero =>
    intro i M' s1 s2 hj hi
    have : i = n := by omega
    subst this
    refine hy_go hy_pfA oX6_about [7, 58] 60 0 0 _ ?_
    refine And.intro (fun q => K M' s1 s2) (fun q => absurd ?_ q)
    rw [s2.1.2.2.2.2.1]; exact Int32.le_refl _
  | succ j ih =>
    intro i M' s1 s2 hj hi
    have c6 := s2.1.2.2.2.2.2.1
    have a1 : n - (i + 1) = j := by omega
    have a2 : i + 1 ≤ n := by omega
    have a3 : i < 24 := by omega
    refine hy_go hy_pfA oX6_about [34, 58] 60 0 0 _ ?_
    refine And.intro (fun q => ?_) (fun q => ?_)
    · rw [s2.1.2.2.2.2.1, nI_le24 (by omega) (by omega)] at q
      omega
    · refine hy_cl (m_stateOf N F S T C M' i a3 s c n s2) rfl ?_
      rintro o w1 ⟨r, rfl, hr, M1, t1, t2, rfl⟩
      have hr := stv_of hr
      rw [s1.1 9 (by decide) (by decide)] at hr
      have u1 := scrM_trans s1 t1
      have second : ∀ v : Int32, v = nI (cntf (fun k => stv s c (M.1 9) k = 2) (i + 1)) → hy_X none 10 mX6_about Q 0 0 (34, [some (hy_r 30), some (.inl b), some (.inl v), some (.inl (nI (cntf (fun k => stv s c (M.1 9) k = 3) i))), some (.inl (nI i))], [], wW N F S T C (wM M1)) := by
        intro v hv
        refine hy_go hy_pfA oX6_about [7, 58] 60 0 0 _ ?_
        refine hy_cl (m_stateOf N F S T C M1 i a3 s c n t2) rfl ?_
        rintro o w1 ⟨r2, rfl, hr2, M2, v1, v2, rfl⟩
        have hr2 := stv_of hr2
        rw [u1.1 9 (by decide) (by decide)] at hr2
        have nx := ih (i + 1) M2 (scrM_trans u1 v1) v2 a1 a2
        rw [← hv, ← nI_s] at nx
        refine And.intro (fun q3 => ?_) (fun q3 => ?_)
        · rw [cntf, if_pos (hr2.symm.trans q3), ← nI_s] at nx
          exact nx
        · rw [cntf, if_neg (fun h => q3 (hr2.trans h)), Nat.add_zero, ← Int32.add_zero (nI (cntf (fun k => stv s c (M.1 9) k = 3) i))] at nx
          exact nx
      refine And.intro (fun q2 => ?_) (fun q2 => ?_)
      · exact second _ (by rw [cntf, if_pos (hr.symm.trans q2), ← nI_s])
      · exact second _ (by rw [cntf, if_neg (fun h => q2 (hr.trans h)), Nat.add_zero]; exact Int32.add_zero _)
/-- what the reference tells about all -/
def abM (s : Nat → Nat) (c n : Nat) (M : hyB) (what : Int) (x : Int32) : Prop :=
  (what = 0 ∧ x = M.2 0) ∨ (what = 1 ∧ x = M.2 3) ∨ (what = 2 ∧ x = M.2 10) ∨ (what = 3 ∧ x = M.2 15) ∨ (what = 4 ∧ x = M.2 21) ∨ (what = 5 ∧ x = M.2 24) ∨ (what = 6 ∧ x = M.2 27) ∨ (what = 7 ∧ x = M.2 14) ∨ (what = 8 ∧ x = nI (cntf (fun k => stv s c (M.1 9) k = 2) n)) ∨ (what = 9 ∧ x = nI (cntf (fun k => stv s c (M.1 9) k = 3) n)) ∨ (¬ (0 ≤ what ∧ what ≤ 9) ∧ x = -1)
set_option maxRecDepth 100000 in
theorem m_about (b : Int32) (s : Nat → Nat) (c n : Nat) (hM : kM M s c n) : hy_R 10 mX6_about 0 0 [hy_r 30, .inl b] (wW N F S T C (wM M)) (fun o w1 => ∃ x, o = some x ∧ abM s c n M b.toInt x ∧ ∃ M', scrM M M' ∧ kM M' s c n ∧ w1 = wW N F S T C (wM M')) := by
  refine hy_Ri (L := [some (hy_r 30), some (.inl b), none, none, none]) rfl (by decide) (hy_ple rfl) rfl ?_
  refine hy_go hy_pfA oX6_about [7] 60 0 0 _ ?_
  refine l_m_about N F S T C M _ b s c n (fun M' s1 s2 => ?_) n 0 M (scrM_refl M) hM (by omega) (by omega)
  refine hy_go hy_pfA oX6_about [] 60 0 0 _ ?_
  have fin : ∀ x : Int32, abM s c n M b.toInt x → ∃ y, some x = some y ∧ abM s c n M b.toInt y ∧ ∃ M'', scrM M M'' ∧ kM M'' s c n ∧ wW N F S T C (wM M') = wW N F S T C (wM M'') := fun x hx => ⟨x, rfl, hx, M', s1, s2, rfl⟩
  refine And.intro (fun h0 => ?_) (fun h0 => And.intro (fun h1 => ?_) (fun h1 => And.intro (fun h2 => ?_) (fun h2 => And.intro (fun h3 => ?_) (fun h3 => And.intro (fun h4 => ?_) (fun h4 => And.intro (fun h5 => ?_) (fun h5 => And.intro (fun h6 => ?_) (fun h6 => And.intro (fun h7 => ?_) (fun h7 => And.intro (fun h8 => ?_) (fun h8 => And.intro (fun h9 => ?_) (fun h9 => ?_))))))))))
  · exact fin _ (Or.inl ⟨h0, s1.2 0 (by decide)⟩)
  · exact fin _ (Or.inr (Or.inl ⟨h1, s1.2 3 (by decide)⟩))
  · exact fin _ (Or.inr (Or.inr (Or.inl ⟨h2, s1.2 10 (by decide)⟩)))
  · exact fin _ (Or.inr (Or.inr (Or.inr (Or.inl ⟨h3, s1.2 15 (by decide)⟩))))
  · exact fin _ (Or.inr (Or.inr (Or.inr (Or.inr (Or.inl ⟨h4, s1.2 21 (by decide)⟩)))))
  · exact fin _ (Or.inr (Or.inr (Or.inr (Or.inr (Or.inr (Or.inl ⟨h5, s1.2 24 (by decide)⟩))))))
  · exact fin _ (Or.inr (Or.inr (Or.inr (Or.inr (Or.inr (Or.inr (Or.inl ⟨h6, s1.2 27 (by decide)⟩)))))))
  · exact fin _ (Or.inr (Or.inr (Or.inr (Or.inr (Or.inr (Or.inr (Or.inr (Or.inl ⟨h7, s1.2 14 (by decide)⟩))))))))
  · exact fin _ (Or.inr (Or.inr (Or.inr (Or.inr (Or.inr (Or.inr (Or.inr (Or.inr (Or.inl ⟨h8, rfl⟩)))))))))
  · exact fin _ (Or.inr (Or.inr (Or.inr (Or.inr (Or.inr (Or.inr (Or.inr (Or.inr (Or.inr (Or.inl ⟨h9, rfl⟩))))))))))
  · refine fin _ (Or.inr (Or.inr (Or.inr (Or.inr (Or.inr (Or.inr (Or.inr (Or.inr (Or.inr (Or.inr ⟨?_, rfl⟩))))))))))
    rintro ⟨g1, g2⟩
    have : b.toInt = 0 ∨ b.toInt = 1 ∨ b.toInt = 2 ∨ b.toInt = 3 ∨ b.toInt = 4 ∨ b.toInt = 5 ∨ b.toInt = 6 ∨ b.toInt = 7 ∨ b.toInt = 8 ∨ b.toInt = 9 := by omega
    rcases this with h | h | h | h | h | h | h | h | h | h
    · exact h0 h
    · exact h1 h
    · exact h2 h
    · exact h3 h
    · exact h4 h
    · exact h5 h
    · exact h6 h
    · exact h7 h
    · exact h8 h
    · exact h9 h
end
