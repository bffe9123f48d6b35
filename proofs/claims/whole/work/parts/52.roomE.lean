/-! ===== the mat room closed; what the yard tells about all ===== -/
def c_roll (a b : Int32) (R : Nat) : Prop := (1 ≤ a ∧ a ≤ 1000) ∧ (0 ≤ b ∧ b ≤ 2) ∧ R < 6
def c_cut (a b : Int32) (c : Nat) : Prop := (1 ≤ a ∧ a ≤ 500) ∧ (0 ≤ b ∧ b ≤ 3) ∧ c < 8
def tkR (T : hyB) (j : Nat) (a b v : Int32) : hyB := ss (ss (sa (sa T 0 (upd (T.1 0) j a)) 1 (upd (T.1 1) j b)) 8 v) 11 0
def tkK (T : hyB) (j : Nat) (a b v : Int32) : hyB := ss (ss (sa (sa T 2 (upd (T.1 2) j a)) 3 (upd (T.1 3) j b)) 9 v) 11 0
def tkRM (M : hyB) (j : Nat) (a b v : Int32) : hyB := ss (sa (sa M 22 (upd (M.1 22) j a)) 23 (upd (M.1 23) j b)) 21 v
def tkKM (M : hyB) (j : Nat) (a b v : Int32) : hyB := ss (sa (sa M 25 (upd (M.1 25) j a)) 26 (upd (M.1 26) j b)) 24 v
section
variable (N F S T C : hyB) (W : hyW)
set_option maxRecDepth 100000 in
theorem r_t_roll (a b : Int32) (R : Nat) (h6 : T.2 8 = nI R) (h7 : R ≤ 6) : hy_R 4 mX1_addRoll 0 0 [hy_r 20, .inl a, .inl b] (wW N F S T C W) (fun o w1 => ∃ x, o = some x ∧ (c_roll a b R ∧ x = nI R ∧ w1 = wW N F S (tkR T R a b (nI (R + 1))) C W ∨ ¬ c_roll a b R ∧ x = -1 ∧ w1 = wW N F S T C W)) := by
  refine hy_Ri (L := [some (hy_r 20), some (.inl a), some (.inl b)]) rfl (by decide) (hy_ple rfl) rfl ?_
  refine hy_go hy_pfA oX1_addRoll [] 80 0 0 _ ?_
  have hi : R < 6 → vp_in (T.2 8) 6 := fun h => by rw [h6]; exact vn_in h (by decide)
  have l6 : (6 : Int32).toInt = 6 := rfl
  refine And.intro (fun q => ?_) (fun q => And.intro (fun q2 => ?_) (fun q2 => And.intro (fun q5 => ?_) (fun q5 => ?_)))
  · exact hy_fin (Or.inr ⟨fun h => g_within_0 q h.1, rfl, rfl⟩)
  · exact hy_fin (Or.inr ⟨fun h => g_within_0 q2 h.2.1, rfl, rfl⟩)
  · have hn : R < 6 := by
      have q5 := zi_lt.mp q5
      rw [h6, zi_nI (by omega)] at q5; omega
    refine And.intro (hi hn) (And.intro (hi hn) (And.intro (Or.inl rfl) ?_))
    have hcl : (T.2 8).toNatClampNeg = R := by rw [h6]; exact cl_nI (by omega)
    have e1 : T.2 8 + 1 = nI (R + 1) := by rw [h6, nI_s]
    have e2 : T.2 8 + 1 - 1 = nI R := by rw [e1]; exact nI_pred R
    have key : ∃ x, some (T.2 8 + 1 - 1) = some x ∧ (c_roll a b R ∧ x = nI R ∧ wW N F S (tkR T (T.2 8).toNatClampNeg a b (T.2 8 + 1)) C W = wW N F S (tkR T R a b (nI (R + 1))) C W ∨ ¬ c_roll a b R ∧ x = -1 ∧ wW N F S (tkR T (T.2 8).toNatClampNeg a b (T.2 8 + 1)) C W = wW N F S T C W) := ⟨_, rfl, Or.inl ⟨⟨g_within_n0 q, g_within_n0 q2, hn⟩, e2, by rw [hcl, e1]⟩⟩
    exact key
  · refine hy_fin (Or.inr ⟨fun h => q5 (zi_lt.mpr ?_), rfl, rfl⟩)
    have := h.2.2
    rw [h6, zi_nI (by omega)]; omega
set_option maxRecDepth 100000 in
theorem r_t_cut (a b : Int32) (c : Nat) (h6 : T.2 9 = nI c) (h7 : c ≤ 8) : hy_R 4 mX1_addCut 0 0 [hy_r 20, .inl a, .inl b] (wW N F S T C W) (fun o w1 => ∃ x, o = some x ∧ (c_cut a b c ∧ x = nI c ∧ w1 = wW N F S (tkK T c a b (nI (c + 1))) C W ∨ ¬ c_cut a b c ∧ x = -1 ∧ w1 = wW N F S T C W)) := by
  refine hy_Ri (L := [some (hy_r 20), some (.inl a), some (.inl b)]) rfl (by decide) (hy_ple rfl) rfl ?_
  refine hy_go hy_pfA oX1_addCut [] 80 0 0 _ ?_
  have hi : c < 8 → vp_in (T.2 9) 8 := fun h => by rw [h6]; exact vn_in h (by decide)
  have l6 : (8 : Int32).toInt = 8 := rfl
  refine And.intro (fun q => ?_) (fun q => And.intro (fun q2 => ?_) (fun q2 => And.intro (fun q5 => ?_) (fun q5 => ?_)))
  · exact hy_fin (Or.inr ⟨fun h => g_within_0 q h.1, rfl, rfl⟩)
  · exact hy_fin (Or.inr ⟨fun h => g_within_0 q2 h.2.1, rfl, rfl⟩)
  · have hn : c < 8 := by
      have q5 := zi_lt.mp q5
      rw [h6, zi_nI (by omega)] at q5; omega
    refine And.intro (hi hn) (And.intro (hi hn) (And.intro (Or.inl rfl) ?_))
    have hcl : (T.2 9).toNatClampNeg = c := by rw [h6]; exact cl_nI (by omega)
    have e1 : T.2 9 + 1 = nI (c + 1) := by rw [h6, nI_s]
    have e2 : T.2 9 + 1 - 1 = nI c := by rw [e1]; exact nI_pred c
    have key : ∃ x, some (T.2 9 + 1 - 1) = some x ∧ (c_cut a b c ∧ x = nI c ∧ wW N F S (tkK T (T.2 9).toNatClampNeg a b (T.2 9 + 1)) C W = wW N F S (tkK T c a b (nI (c + 1))) C W ∨ ¬ c_cut a b c ∧ x = -1 ∧ wW N F S (tkK T (T.2 9).toNatClampNeg a b (T.2 9 + 1)) C W = wW N F S T C W) := ⟨_, rfl, Or.inl ⟨⟨g_within_n0 q, g_within_n0 q2, hn⟩, e2, by rw [hcl, e1]⟩⟩
    exact key
  · refine hy_fin (Or.inr ⟨fun h => q5 (zi_lt.mpr ?_), rfl, rfl⟩)
    have := h.2.2
    rw [h6, zi_nI (by omega)]; omega
set_option maxRecDepth 100000 in
theorem r_t_drop : hy_R 3 mX1_dropAll 0 0 [hy_r 20] (wW N F S T C W) (fun o w1 => ∃ x, o = some x ∧ x = T.2 9 ∧ w1 = wW N F S (ss (ss (ss T 8 0) 9 0) 11 0) C W) := by
  refine hy_Ri (L := [some (hy_r 20), none]) rfl (by decide) (hy_ple rfl) rfl ?_
  refine hy_go hy_pfA oX1_dropAll [] 60 0 0 _ ?_
  refine And.intro (Or.inl rfl) ?_
  exact hy_fin ⟨rfl, rfl⟩
theorem r_t_rolls : hy_R 3 mX1_rollCount 0 0 [hy_r 20] (wW N F S T C W) (fun o w1 => ∃ x, o = some x ∧ x = T.2 8 ∧ w1 = wW N F S T C W) := by
  refine hy_Ri (L := [some (hy_r 20)]) rfl (by decide) (hy_ple rfl) rfl ?_
  refine hy_go hy_pfA oX1_rollCount [] 60 0 0 _ ?_
  exact hy_fin ⟨rfl, rfl⟩
theorem r_t_cuts : hy_R 3 mX1_cutCount 0 0 [hy_r 20] (wW N F S T C W) (fun o w1 => ∃ x, o = some x ∧ x = T.2 9 ∧ w1 = wW N F S T C W) := by
  refine hy_Ri (L := [some (hy_r 20)]) rfl (by decide) (hy_ple rfl) rfl ?_
  refine hy_go hy_pfA oX1_cutCount [] 60 0 0 _ ?_
  exact hy_fin ⟨rfl, rfl⟩
theorem r_n_husks : hy_R 3 mX2_huskTotal 0 0 [hy_r 1] (wW N F S T C W) (fun o w1 => ∃ x, o = some x ∧ x = N.2 10 ∧ w1 = wW N F S T C W) := by
  refine hy_Ri (L := [some (hy_r 1)]) rfl (by decide) (hy_ple rfl) rfl ?_
  refine hy_go hy_pfA oX2_huskTotal [] 60 0 0 _ ?_
  exact hy_fin ⟨rfl, rfl⟩
theorem y_roll (a b : Int32) (R : Nat) (h6 : T.2 8 = nI R) (h7 : R ≤ 6) : hy_R 5 mX5_roll 0 0 [hy_r 0, .inl a, .inl b] (wW N F S T C W) (fun o w1 => ∃ x, o = some x ∧ (c_roll a b R ∧ x = nI R ∧ w1 = wW N F S (tkR T R a b (nI (R + 1))) C W ∨ ¬ c_roll a b R ∧ x = -1 ∧ w1 = wW N F S T C W)) := by
  refine hy_Ri (L := [some (hy_r 0), some (.inl a), some (.inl b)]) rfl (by decide) (hy_ple rfl) rfl ?_
  refine hy_go hy_pfA oX5_roll [] 60 0 0 _ ?_
  refine hy_cl (r_t_roll N F S T C W a b R h6 h7) rfl ?_
  rintro o w1 ⟨x, rfl, hx⟩
  exact hy_fin hx
theorem y_cut (a b : Int32) (c : Nat) (h6 : T.2 9 = nI c) (h7 : c ≤ 8) : hy_R 5 mX5_cut 0 0 [hy_r 0, .inl a, .inl b] (wW N F S T C W) (fun o w1 => ∃ x, o = some x ∧ (c_cut a b c ∧ x = nI c ∧ w1 = wW N F S (tkK T c a b (nI (c + 1))) C W ∨ ¬ c_cut a b c ∧ x = -1 ∧ w1 = wW N F S T C W)) := by
  refine hy_Ri (L := [some (hy_r 0), some (.inl a), some (.inl b)]) rfl (by decide) (hy_ple rfl) rfl ?_
  refine hy_go hy_pfA oX5_cut [] 60 0 0 _ ?_
  refine hy_cl (r_t_cut N F S T C W a b c h6 h7) rfl ?_
  rintro o w1 ⟨x, rfl, hx⟩
  exact hy_fin hx
theorem y_opened (l m L lo : Nat → Nat) (R c : Nat) (hT : iT l m L lo R c T) : hy_R 10 mX5_opened 0 0 [hy_r 0] (wW N F S T C W) (fun o w1 => ∃ x, o = some x ∧ ∃ T', iT l m L lo R c T' ∧ ((∃ B b, leastL l m L lo R c B b ∧ x = nI B) ∨ ((∀ p, ¬ eL l m L lo R c [] p) ∧ x = -1)) ∧ w1 = wW N F S T' C W) := by
  refine hy_Ri (L := [some (hy_r 0)]) rfl (by decide) (hy_ple rfl) rfl ?_
  refine hy_go hy_pfA oX5_opened [] 60 0 0 _ ?_
  refine hy_cl (r_t_opened N F S T C W l m L lo R c hT) rfl ?_
  rintro o w1 ⟨x, rfl, hx⟩
  exact hy_fin hx
theorem y_from (a : Int32) (l m L lo : Nat → Nat) (R c : Nat) (hT : iT l m L lo R c T) : hy_R 10 mX5_from 0 0 [hy_r 0, .inl a] (wW N F S T C W) (fun o w1 => ∃ x, o = some x ∧ ∃ T', iT l m L lo R c T' ∧ sp_from l m L lo R c a x ∧ w1 = wW N F S T' C W) := by
  refine hy_Ri (L := [some (hy_r 0), some (.inl a)]) rfl (by decide) (hy_ple rfl) rfl ?_
  refine hy_go hy_pfA oX5_from [] 60 0 0 _ ?_
  refine hy_cl (r_t_from N F S T C W l m L lo R c a hT) rfl ?_
  rintro o w1 ⟨x, rfl, hx⟩
  exact hy_fin hx
set_option maxRecDepth 100000 in
theorem y_away : hy_R 4 mX5_away 0 0 [hy_r 0] (wW N F S T C W) (fun o w1 => ∃ x, o = some x ∧ x = T.2 9 ∧ w1 = wW N F S (ss (ss (ss T 8 0) 9 0) 11 0) C W) := by
  refine hy_Ri (L := [some (hy_r 0)]) rfl (by decide) (hy_ple rfl) rfl ?_
  refine hy_go hy_pfA oX5_away [] 60 0 0 _ ?_
  refine hy_cl (r_t_drop N F S T C W) rfl ?_
  rintro o w1 ⟨x, rfl, hx⟩
  exact hy_fin hx
/-- what the class tells about all -/
def abY (n : Nat) (what : Int) (x : Int32) : Prop :=
  (what = 0 ∧ x = N.2 9) ∨ (what = 1 ∧ x = N.2 8) ∨ (what = 2 ∧ x = F.2 2) ∨ (what = 3 ∧ x = S.2 6) ∨ (what = 4 ∧ x = T.2 8) ∨ (what = 5 ∧ x = T.2 9) ∨ (what = 6 ∧ x = C.2 2) ∨ (what = 7 ∧ x = N.2 10) ∨ (what = 8 ∧ x = nI (cntf (fun k => N.1 7 k = 2) n)) ∨ (what = 9 ∧ x = nI (cntf (fun k => N.1 7 k = 3) n)) ∨ (¬ (0 ≤ what ∧ what ≤ 9) ∧ x = -1)
set_option maxRecDepth 100000 in
theorem y_about (b : Int32) (n : Nat) (hN : iN N n) : hy_R 5 mX5_about 0 0 [hy_r 0, .inl b] (wW N F S T C W) (fun o w1 => ∃ x, o = some x ∧ abY N F S T C n b.toInt x ∧ w1 = wW N F S T C W) := by
  refine hy_Ri (L := [some (hy_r 0), some (.inl b)]) rfl (by decide) (hy_ple rfl) rfl ?_
  refine hy_go hy_pfA oX5_about [] 60 0 0 _ ?_
  refine And.intro (fun h0 => ?_) (fun h0 => And.intro (fun h1 => ?_) (fun h1 => And.intro (fun h2 => ?_) (fun h2 => And.intro (fun h3 => ?_) (fun h3 => And.intro (fun h4 => ?_) (fun h4 => And.intro (fun h5 => ?_) (fun h5 => And.intro (fun h6 => ?_) (fun h6 => And.intro (fun h7 => ?_) (fun h7 => And.intro (fun h8 => ?_) (fun h8 => And.intro (fun h9 => ?_) (fun h9 => ?_))))))))))
  · refine hy_cl (r_n_clock N F S T C W) rfl ?_
    rintro o w1 ⟨x, rfl, hx, rfl⟩
    exact hy_fin ⟨Or.inl ⟨h0, hx⟩, rfl⟩
  · refine hy_cl (r_n_count N F S T C W) rfl ?_
    rintro o w1 ⟨x, rfl, hx, rfl⟩
    exact hy_fin ⟨Or.inr (Or.inl ⟨h1, hx⟩), rfl⟩
  · refine hy_cl (r_f_count N F S T C W) rfl ?_
    rintro o w1 ⟨x, rfl, hx, rfl⟩
    exact hy_fin ⟨Or.inr (Or.inr (Or.inl ⟨h2, hx⟩)), rfl⟩
  · refine hy_cl (r_s_count N F S T C W) rfl ?_
    rintro o w1 ⟨x, rfl, hx, rfl⟩
    exact hy_fin ⟨Or.inr (Or.inr (Or.inr (Or.inl ⟨h3, hx⟩))), rfl⟩
  · refine hy_cl (r_t_rolls N F S T C W) rfl ?_
    rintro o w1 ⟨x, rfl, hx, rfl⟩
    exact hy_fin ⟨Or.inr (Or.inr (Or.inr (Or.inr (Or.inl ⟨h4, hx⟩)))), rfl⟩
  · refine hy_cl (r_t_cuts N F S T C W) rfl ?_
    rintro o w1 ⟨x, rfl, hx, rfl⟩
    exact hy_fin ⟨Or.inr (Or.inr (Or.inr (Or.inr (Or.inr (Or.inl ⟨h5, hx⟩))))), rfl⟩
  · refine hy_cl (r_sc_count N F S T C W) rfl ?_
    rintro o w1 ⟨x, rfl, hx, rfl⟩
    exact hy_fin ⟨Or.inr (Or.inr (Or.inr (Or.inr (Or.inr (Or.inr (Or.inl ⟨h6, hx⟩)))))), rfl⟩
  · refine hy_cl (r_n_husks N F S T C W) rfl ?_
    rintro o w1 ⟨x, rfl, hx, rfl⟩
    exact hy_fin ⟨Or.inr (Or.inr (Or.inr (Or.inr (Or.inr (Or.inr (Or.inr (Or.inl ⟨h7, hx⟩))))))), rfl⟩
  · refine hy_cl (r_n_countIn N F S T C W 2 n hN) rfl ?_
    rintro o w1 ⟨x, rfl, hx, rfl⟩
    exact hy_fin ⟨Or.inr (Or.inr (Or.inr (Or.inr (Or.inr (Or.inr (Or.inr (Or.inr (Or.inl ⟨h8, hx⟩)))))))), rfl⟩
  · refine hy_cl (r_n_countIn N F S T C W 3 n hN) rfl ?_
    rintro o w1 ⟨x, rfl, hx, rfl⟩
    exact hy_fin ⟨Or.inr (Or.inr (Or.inr (Or.inr (Or.inr (Or.inr (Or.inr (Or.inr (Or.inr (Or.inl ⟨h9, hx⟩))))))))), rfl⟩
  · refine hy_fin ⟨Or.inr (Or.inr (Or.inr (Or.inr (Or.inr (Or.inr (Or.inr (Or.inr (Or.inr (Or.inr ⟨?_, rfl⟩))))))))), rfl⟩
    rintro ⟨g1, g2⟩
    have : b.toInt = 0 ∨ b.toInt = 1 ∨ b.toInt = 2 ∨ b.toInt = 3 ∨ b.toInt = 4 ∨ b.toInt = 5 ∨ b.toInt = 6 ∨ b.toInt = 7 ∨ b.toInt = 8 ∨ b.toInt = 9 := by omega
    rcases this with h | h | h | h | h | h | h | h | h | h
    · exact h0 h
    · exact h1 h
    · exact h2 h
    · exact h3 h
    · exact h4 h
    · exact h5 h
    · exact h6 h
    · exact h7 h
    · exact h8 h
    · exact h9 h
variable (M : hyB)
set_option maxRecDepth 100000 in
theorem m_roll (a b : Int32) (R : Nat) (h6 : M.2 21 = nI R) (h7 : R ≤ 6) : hy_R 4 mX6_roll 0 0 [hy_r 30, .inl a, .inl b] (wW N F S T C (wM M)) (fun o w1 => ∃ x, o = some x ∧ (c_roll a b R ∧ x = nI R ∧ w1 = wW N F S T C (wM (tkRM M R a b (nI (R + 1)))) ∨ ¬ c_roll a b R ∧ x = -1 ∧ w1 = wW N F S T C (wM M))) := by
  refine hy_Ri (L := [some (hy_r 30), some (.inl a), some (.inl b)]) rfl (by decide) (hy_ple rfl) rfl ?_
  refine hy_go hy_pfA oX6_roll [] 80 0 0 _ ?_
  have hi : R < 6 → vp_in (M.2 21) 6 := fun h => by rw [h6]; exact vn_in h (by decide)
  have l6 : (6 : Int32).toInt = 6 := rfl
  refine And.intro (fun q => ?_) (fun q => And.intro (fun q2 => ?_) (fun q2 => And.intro (fun q5 => ?_) (fun q5 => ?_)))
  · exact hy_fin (Or.inr ⟨fun h => g_within_0 q h.1, rfl, rfl⟩)
  · exact hy_fin (Or.inr ⟨fun h => g_within_0 q2 h.2.1, rfl, rfl⟩)
  · refine hy_fin (Or.inr ⟨fun h => ?_, rfl, rfl⟩)
    have := h.2.2
    have q5 := zi_eq.mp q5
    rw [h6, zi_nI (by omega)] at q5; omega
  · have hn : R < 6 := by
      have q5 : ¬ (M.2 21).toInt = 6 := fun h => q5 (zi_eq.mpr h)
      rw [h6, zi_nI (by omega)] at q5; omega
    refine And.intro (hi hn) (And.intro (hi hn) ?_)
    have hcl : (M.2 21).toNatClampNeg = R := by rw [h6]; exact cl_nI (by omega)
    have e1 : M.2 21 + 1 = nI (R + 1) := by rw [h6, nI_s]
    have e2 : M.2 21 + 1 - 1 = nI R := by rw [e1]; exact nI_pred R
    have key : ∃ x, some (M.2 21 + 1 - 1) = some x ∧ (c_roll a b R ∧ x = nI R ∧ wW N F S T C (wM (tkRM M (M.2 21).toNatClampNeg a b (M.2 21 + 1))) = wW N F S T C (wM (tkRM M R a b (nI (R + 1)))) ∨ ¬ c_roll a b R ∧ x = -1 ∧ wW N F S T C (wM (tkRM M (M.2 21).toNatClampNeg a b (M.2 21 + 1))) = wW N F S T C (wM M)) := ⟨_, rfl, Or.inl ⟨⟨g_within_n0 q, g_within_n0 q2, hn⟩, e2, by rw [hcl, e1]⟩⟩
    exact key
set_option maxRecDepth 100000 in
theorem m_cut (a b : Int32) (c : Nat) (h6 : M.2 24 = nI c) (h7 : c ≤ 8) : hy_R 4 mX6_cut 0 0 [hy_r 30, .inl a, .inl b] (wW N F S T C (wM M)) (fun o w1 => ∃ x, o = some x ∧ (c_cut a b c ∧ x = nI c ∧ w1 = wW N F S T C (wM (tkKM M c a b (nI (c + 1)))) ∨ ¬ c_cut a b c ∧ x = -1 ∧ w1 = wW N F S T C (wM M))) := by
  refine hy_Ri (L := [some (hy_r 30), some (.inl a), some (.inl b)]) rfl (by decide) (hy_ple rfl) rfl ?_
  refine hy_go hy_pfA oX6_cut [] 80 0 0 _ ?_
  have hi : c < 8 → vp_in (M.2 24) 8 := fun h => by rw [h6]; exact vn_in h (by decide)
  have l6 : (8 : Int32).toInt = 8 := rfl
  refine And.intro (fun q => ?_) (fun q => And.intro (fun q2 => ?_) (fun q2 => And.intro (fun q5 => ?_) (fun q5 => ?_)))
  · exact hy_fin (Or.inr ⟨fun h => g_within_0 q h.1, rfl, rfl⟩)
  · exact hy_fin (Or.inr ⟨fun h => g_within_0 q2 h.2.1, rfl, rfl⟩)
  · refine hy_fin (Or.inr ⟨fun h => ?_, rfl, rfl⟩)
    have := h.2.2
    have q5 := zi_eq.mp q5
    rw [h6, zi_nI (by omega)] at q5; omega
  · have hn : c < 8 := by
      have q5 : ¬ (M.2 24).toInt = 8 := fun h => q5 (zi_eq.mpr h)
      rw [h6, zi_nI (by omega)] at q5; omega
    refine And.intro (hi hn) (And.intro (hi hn) ?_)
    have hcl : (M.2 24).toNatClampNeg = c := by rw [h6]; exact cl_nI (by omega)
    have e1 : M.2 24 + 1 = nI (c + 1) := by rw [h6, nI_s]
    have e2 : M.2 24 + 1 - 1 = nI c := by rw [e1]; exact nI_pred c
    have key : ∃ x, some (M.2 24 + 1 - 1) = some x ∧ (c_cut a b c ∧ x = nI c ∧ wW N F S T C (wM (tkKM M (M.2 24).toNatClampNeg a b (M.2 24 + 1))) = wW N F S T C (wM (tkKM M c a b (nI (c + 1)))) ∨ ¬ c_cut a b c ∧ x = -1 ∧ wW N F S T C (wM (tkKM M (M.2 24).toNatClampNeg a b (M.2 24 + 1))) = wW N F S T C (wM M)) := ⟨_, rfl, Or.inl ⟨⟨g_within_n0 q, g_within_n0 q2, hn⟩, e2, by rw [hcl, e1]⟩⟩
    exact key
set_option maxRecDepth 100000 in
theorem m_away : hy_R 3 mX6_away 0 0 [hy_r 30] (wW N F S T C (wM M)) (fun o w1 => ∃ x, o = some x ∧ x = M.2 24 ∧ w1 = wW N F S T C (wM (ss (ss M 24 0) 21 0))) := by
  refine hy_Ri (L := [some (hy_r 30), none]) rfl (by decide) (hy_ple rfl) rfl ?_
  refine hy_go hy_pfA oX6_away [] 60 0 0 _ ?_
  exact hy_fin ⟨rfl, rfl⟩
end
theorem sp_from_eq {l m L lo : Nat → Nat} {R c : Nat} {a x x2 : Int32} (hR : R ≤ 6) (hc : c ≤ 8) (h : sp_from l m L lo R c a x) (h2 : sp_from l m L lo R c a x2) : x = x2 := by
  rcases h with ⟨k, B, b, y, a1, a2, a3, a4, a5⟩ | ⟨a1, a2⟩
  · rcases h2 with ⟨k', B', b', y', b1, b2, b3, b4, b5⟩ | ⟨b1, b2⟩
    · have e := nI_inj24 (by omega) (by omega) (a2.symm.trans b2)
      subst e
      obtain ⟨-, e2⟩ := leastL_eq l m L lo R c (by omega) a3 b3
      subst e2
      rw [a4] at b4
      cases b4
      rw [a5, b5]
    · exact absurd ⟨k, B, b, a1, a2, a3⟩ b1
  · rcases h2 with ⟨k', B', b', y', b1, b2, b3, b4, b5⟩ | ⟨b1, b2⟩
    · exact absurd ⟨k', B', b', b1, b2, b3⟩ a1
    · rw [a2, b2]
def sp_op (l m L lo : Nat → Nat) (R c : Nat) (x : Int32) : Prop := (∃ B b, leastL l m L lo R c B b ∧ x = nI B) ∨ ((∀ p, ¬ eL l m L lo R c [] p) ∧ x = -1)
theorem sp_op_eq {l m L lo : Nat → Nat} {R c : Nat} {x x2 : Int32} (hR : R ≤ 6) (h : sp_op l m L lo R c x) (h2 : sp_op l m L lo R c x2) : x = x2 := by
  rcases h with ⟨B, b, a1, a2⟩ | ⟨a1, a2⟩
  · rcases h2 with ⟨B', b', b1, b2⟩ | ⟨b1, b2⟩
    · obtain ⟨e, -⟩ := leastL_eq l m L lo R c (by omega) a1 b1
      rw [a2, b2, e]
    · exact absurd a1.1 (b1 b)
  · rcases h2 with ⟨B', b', b1, b2⟩ | ⟨b1, b2⟩
    · exact absurd b1.1 (a1 b')
    · rw [a2, b2]
