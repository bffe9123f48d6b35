/-! ===== the reference's nets ===== -/
def iNM (M : hyB) (n : Nat) : Prop := M.2 3 = nI n ∧ n ≤ 24 ∧ (∀ i, 0 ≤ (M.1 1 i).toInt ∧ (M.1 1 i).toInt ≤ 9) ∧ (∀ i, 0 ≤ (M.1 4 i).toInt ∧ (M.1 4 i).toInt ≤ 7)
section
variable (N F S T C M : hyB)
theorem m_salt (a v : Int32) : hy_R 4 mX6_salt 0 0 [hy_r 30, .inl a, .inl v] (wW N F S T C (wM M)) (fun o w1 => ∃ x, o = some x ∧ (((0 ≤ a ∧ a ≤ 7) ∧ (0 ≤ v ∧ v ≤ 9)) ∧ x = 1 ∧ w1 = wW N F S T C (wM (sa M 1 (upd (M.1 1) a.toNatClampNeg v))) ∨ ¬ ((0 ≤ a ∧ a ≤ 7) ∧ (0 ≤ v ∧ v ≤ 9)) ∧ x = 0 ∧ w1 = wW N F S T C (wM M))) := by
  refine hy_Rz (L := [some (hy_r 30), some (.inl a), some (.inl v)]) rfl (by decide) (fun x w h => ?_) (hy_ple rfl) rfl ?_
  · rcases h with ⟨-, h, -⟩ | ⟨-, h, -⟩
    · exact Or.inr h
    · exact Or.inl h
  refine hy_go hy_pfA oX6_salt [] 60 0 0 _ ?_
  refine And.intro (fun q => ?_) (fun q => And.intro (fun q2 => ?_) (fun q2 => ?_))
  · exact hy_fin (Or.inr ⟨fun h => g_within_0 q h.1, rfl, rfl⟩)
  · exact hy_fin (Or.inr ⟨fun h => g_within_0 q2 h.2, rfl, rfl⟩)
  · have h1 := g_within_n0 q
    have h2 : 0 ≤ a.toInt := zi_le.mp h1.1
    have h3 : a.toInt ≤ 7 := zi_le.mp h1.2
    refine And.intro (vi_of h2 (by omega)) ?_
    exact hy_fin (Or.inl ⟨⟨h1, g_within_n0 q2⟩, rfl, rfl⟩)
theorem m_ripens (a v : Int32) : hy_R 4 mX6_ripens 0 0 [hy_r 30, .inl a, .inl v] (wW N F S T C (wM M)) (fun o w1 => ∃ x, o = some x ∧ (((0 ≤ a ∧ a ≤ 9) ∧ (0 ≤ v ∧ v ≤ 50)) ∧ x = 1 ∧ w1 = wW N F S T C (wM (sa M 2 (upd (M.1 2) a.toNatClampNeg v))) ∨ ¬ ((0 ≤ a ∧ a ≤ 9) ∧ (0 ≤ v ∧ v ≤ 50)) ∧ x = 0 ∧ w1 = wW N F S T C (wM M))) := by
  refine hy_Rz (L := [some (hy_r 30), some (.inl a), some (.inl v)]) rfl (by decide) (fun x w h => ?_) (hy_ple rfl) rfl ?_
  · rcases h with ⟨-, h, -⟩ | ⟨-, h, -⟩
    · exact Or.inr h
    · exact Or.inl h
  refine hy_go hy_pfA oX6_ripens [] 60 0 0 _ ?_
  refine And.intro (fun q => ?_) (fun q => And.intro (fun q2 => ?_) (fun q2 => ?_))
  · exact hy_fin (Or.inr ⟨fun h => g_within_0 q h.1, rfl, rfl⟩)
  · exact hy_fin (Or.inr ⟨fun h => g_within_0 q2 h.2, rfl, rfl⟩)
  · have h1 := g_within_n0 q
    have h2 : 0 ≤ a.toInt := zi_le.mp h1.1
    have h3 : a.toInt ≤ 9 := zi_le.mp h1.2
    refine And.intro (vi_of h2 (by omega)) ?_
    exact hy_fin (Or.inl ⟨⟨h1, g_within_n0 q2⟩, rfl, rfl⟩)
def mnet (M : hyB) (j : Nat) (a b h g : Int32) (v : Int32) : hyB := ss (sa (sa (sa (sa (sa (sa M 4 (upd (M.1 4) j a)) 5 (upd (M.1 5) j b)) 6 (upd (M.1 6) j h)) 7 (upd (M.1 7) j g)) 8 (upd (M.1 8) j 0)) 9 (upd (M.1 9) j 0)) 3 v
set_option maxRecDepth 100000 in
theorem m_net (a b h g : Int32) (n : Nat) (hM : iNM M n) : hy_R 4 mX6_net 0 0 [hy_r 30, .inl a, .inl b, .inl h, .inl g] (wW N F S T C (wM M)) (fun o w1 => ∃ x, o = some x ∧ (c_net a b h g n ∧ x = nI n ∧ w1 = wW N F S T C (wM (mnet M n a b h g (nI (n + 1)))) ∨ ¬ c_net a b h g n ∧ x = -1 ∧ w1 = wW N F S T C (wM M))) := by
  obtain ⟨c1, c2, -, -⟩ := hM
  refine hy_Ri (L := [some (hy_r 30), some (.inl a), some (.inl b), some (.inl h), some (.inl g)]) rfl (by decide) (hy_ple rfl) rfl ?_
  refine hy_go hy_pfA oX6_net [] 80 0 0 _ ?_
  have hi : n < 24 → vp_in (M.2 3) 24 := fun h => by rw [c1]; exact vn_in h (by omega)
  have h24 : (24 : Int32).toInt = 24 := rfl
  refine And.intro (fun q => ?_) (fun q => And.intro (fun q2 => ?_) (fun q2 => And.intro (fun q3 => ?_) (fun q3 => And.intro (fun q4 => ?_) (fun q4 => And.intro (fun q5 => ?_) (fun q5 => ?_)))))
  · exact hy_fin (Or.inr ⟨fun h => g_within_0 q h.1, rfl, rfl⟩)
  · exact hy_fin (Or.inr ⟨fun h => g_within_0 q2 h.2.1, rfl, rfl⟩)
  · exact hy_fin (Or.inr ⟨fun h => g_within_0 q3 h.2.2.1, rfl, rfl⟩)
  · exact hy_fin (Or.inr ⟨fun h => g_within_0 q4 h.2.2.2.1, rfl, rfl⟩)
  · refine hy_fin (Or.inr ⟨fun h => ?_, rfl, rfl⟩)
    have := h.2.2.2.2
    have q5 := zi_eq.mp q5
    rw [c1, zi_nI (by omega)] at q5
    omega
  · have hn : n < 24 := by
      have q5 : ¬ (M.2 3).toInt = 24 := fun h => q5 (zi_eq.mpr h)
      rw [c1, zi_nI (by omega)] at q5
      omega
    refine And.intro (hi hn) (And.intro (hi hn) (And.intro (hi hn) (And.intro (hi hn) (And.intro (hi hn) (And.intro (hi hn) ?_)))))
    have hcl : (M.2 3).toNatClampNeg = n := by rw [c1, cl_nI (by omega)]
    have e1 : M.2 3 + 1 = nI (n + 1) := by rw [c1, nI_s]
    have e2 : M.2 3 + 1 - 1 = nI n := by rw [e1]; exact nI_pred n
    have key : ∃ x, some (M.2 3 + 1 - 1) = some x ∧ (c_net a b h g n ∧ x = nI n ∧ wW N F S T C (wM (mnet M (M.2 3).toNatClampNeg a b h g (M.2 3 + 1))) = wW N F S T C (wM (mnet M n a b h g (nI (n + 1)))) ∨ ¬ c_net a b h g n ∧ x = -1 ∧ wW N F S T C (wM (mnet M (M.2 3).toNatClampNeg a b h g (M.2 3 + 1))) = wW N F S T C (wM M)) := ⟨_, rfl, Or.inl ⟨⟨g_within_n0 q, g_within_n0 q2, g_within_n0 q3, g_within_n0 q4, hn⟩, e2, by rw [hcl, e1]⟩⟩
    exact key
theorem upd_self0 {f : Nat → Int32} {k : Nat} : upd f k (f k + 0) = f := by
  funext j
  unfold upd
  split
  · rename_i h; rw [h, Int32.add_zero]
  · rfl
theorem l_m_weeks (Q : hyQ) (v : Int32) (n : Nat) (hM : iNM M n)
    (K : hy_X none 4 mX6_weeks Q 0 0 (80, [some (hy_r 30), some (.inl v), some (.inl (nI n))], [], wW N F S T C (wM (sa M 8 (ptf (fun k => M.1 9 k = 0) (M.1 8) (rtf (M.1 2) (M.1 1) (M.1 4)) v n))))) :
    ∀ (j i : Nat), n - i = j → i ≤ n → hy_X none 4 mX6_weeks Q 0 0 (26, [some (hy_r 30), some (.inl v), some (.inl (nI i))], [], wW N F S T C (wM (sa M 8 (ptf (fun k => M.1 9 k = 0) (M.1 8) (rtf (M.1 2) (M.1 1) (M.1 4)) v i)))) := by
  obtain ⟨c1, c2, c3, c4⟩ := id hM
  intro j
  induction j with
  | zero =>
    intro i hj hi
    have : i = n := by omega
    subst this
    refine hy_go hy_pfA oX6_weeks [26, 80] 60 0 0 _ ?_
    refine And.intro (fun q => K) (fun q => absurd ?_ q)
    show M.2 3 ≤ nI i
    rw [c1]; exact Int32.le_refl _
  | succ j ih =>
    intro i hj hi
    have hcl : (nI i).toNatClampNeg = i := cl_nI (by omega)
    have nx := ih (i + 1) (by omega) (by omega)
    rw [← nI_s] at nx
    have hin : vp_in (nI i) 24 := vn_in (by omega) (by decide)
    refine hy_go hy_pfA oX6_weeks [26, 80] 60 0 0 _ ?_
    refine And.intro (fun q => ?_) (fun q => ?_)
    · have q : M.2 3 ≤ nI i := q
      rw [c1, nI_le24 (by omega) (by omega)] at q
      omega
    · refine And.intro hin (And.intro hin ?_)
      refine And.intro (fun q2 => ?_) (fun q2 => ?_)
      · have q2 : M.1 9 (nI i).toNatClampNeg = 0 := q2
        rw [hcl] at q2
        refine And.intro hin (And.intro ?_ (And.intro ?_ (And.intro hin ?_)))
        · have := c4 (nI i).toNatClampNeg
          have hv : vp_in (M.1 4 (nI i).toNatClampNeg) 8 := vi_of this.1 (by omega)
          exact hv
        · have := c3 (M.1 4 (nI i).toNatClampNeg).toNatClampNeg
          have hv : vp_in (M.1 1 (M.1 4 (nI i).toNatClampNeg).toNatClampNeg) 10 := vi_of this.1 (by omega)
          exact hv
        · rw [ptf_y (z := fun k => M.1 9 k = 0) q2] at nx
          have e : upd (ptf (fun k => M.1 9 k = 0) (M.1 8) (rtf (M.1 2) (M.1 1) (M.1 4)) v i) (nI i).toNatClampNeg (ptf (fun k => M.1 9 k = 0) (M.1 8) (rtf (M.1 2) (M.1 1) (M.1 4)) v i (nI i).toNatClampNeg + v * M.1 2 (M.1 1 (M.1 4 (nI i).toNatClampNeg).toNatClampNeg).toNatClampNeg) = upd (ptf (fun k => M.1 9 k = 0) (M.1 8) (rtf (M.1 2) (M.1 1) (M.1 4)) v i) i (ptf (fun k => M.1 9 k = 0) (M.1 8) (rtf (M.1 2) (M.1 1) (M.1 4)) v i i + v * rtf (M.1 2) (M.1 1) (M.1 4) i) := by rw [hcl]; rfl
          rw [← e] at nx
          exact nx
      · have q2 : ¬ M.1 9 (nI i).toNatClampNeg = 0 := q2
        rw [hcl] at q2
        refine And.intro hin ?_
        rw [ptf_n (z := fun k => M.1 9 k = 0) q2, ← upd_self0 (f := ptf (fun k => M.1 9 k = 0) (M.1 8) (rtf (M.1 2) (M.1 1) (M.1 4)) v i) (k := (nI i).toNatClampNeg)] at nx
        exact nx
set_option maxRecDepth 100000 in
theorem m_weeks (v : Int32) (n : Nat) (hM : iNM M n) : hy_R 4 mX6_weeks 0 0 [hy_r 30, .inl v] (wW N F S T C (wM M)) (fun o w1 => ∃ x, o = some x ∧ (c_weeks v (M.2 0) ∧ x = M.2 0 + v ∧ w1 = wW N F S T C (wM (ss (sa M 8 (ptf (fun k => M.1 9 k = 0) (M.1 8) (rtf (M.1 2) (M.1 1) (M.1 4)) v n)) 0 (M.2 0 + v))) ∨ ¬ c_weeks v (M.2 0) ∧ x = -1 ∧ w1 = wW N F S T C (wM M))) := by
  refine hy_Ri (L := [some (hy_r 30), some (.inl v), none]) rfl (by decide) (hy_ple rfl) rfl ?_
  refine hy_go hy_pfA oX6_weeks [26] 60 0 0 _ ?_
  refine And.intro (fun q => ?_) (fun q => And.intro (fun q2 => ?_) (fun q2 => ?_))
  · exact hy_fin (Or.inr ⟨fun h => g_within_0 q h.1, rfl, rfl⟩)
  · have := l_m_weeks N F S T C M (fun o w1 => ∃ x, o = some x ∧ (c_weeks v (M.2 0) ∧ x = M.2 0 + v ∧ w1 = wW N F S T C (wM (ss (sa M 8 (ptf (fun k => M.1 9 k = 0) (M.1 8) (rtf (M.1 2) (M.1 1) (M.1 4)) v n)) 0 (M.2 0 + v))) ∨ ¬ c_weeks v (M.2 0) ∧ x = -1 ∧ w1 = wW N F S T C (wM M))) v n hM (by
      refine hy_go hy_pfA oX6_weeks [] 60 0 0 _ ?_
      exact hy_fin (Or.inl ⟨⟨g_within_n0 q, q2⟩, rfl, rfl⟩)) n 0 (by omega) (by omega)
    rw [ptf_0] at this
    exact this
  · exact hy_fin (Or.inr ⟨fun h => q2 h.2, rfl, rfl⟩)
theorem l_m_flood (Q : hyQ) (a : Int32) (n : Nat) (hM : iNM M n)
    (K : Q (some (nI (cntf (fun k => M.1 9 k = 0 ∧ M.1 4 k = a) n))) (wW N F S T C (wM (sa M 9 (stf (fun k => M.1 9 k = 0 ∧ M.1 4 k = a) (M.1 9) n))))) :
    ∀ (j i : Nat), n - i = j → i ≤ n → hy_X none 4 mX6_flood Q 0 0 (16, [some (hy_r 30), some (.inl a), some (.inl (nI (cntf (fun k => M.1 9 k = 0 ∧ M.1 4 k = a) i))), some (.inl (nI i))], [], wW N F S T C (wM (sa M 9 (stf (fun k => M.1 9 k = 0 ∧ M.1 4 k = a) (M.1 9) i)))) := by
  obtain ⟨c1, c2, -, -⟩ := id hM
  intro j
  induction j with
  | zero =>
    intro i hj hi
    have : i = n := by omega
    subst this
    refine hy_go hy_pfA oX6_flood [16] 60 0 0 _ ?_
    refine And.intro (fun q => K) (fun q => absurd ?_ q)
    show M.2 3 ≤ nI i
    rw [c1]; exact Int32.le_refl _
  | succ j ih =>
    intro i hj hi
    have hcl : (nI i).toNatClampNeg = i := cl_nI (by omega)
    have nx := ih (i + 1) (by omega) (by omega)
    rw [← nI_s] at nx
    have hin : vp_in (nI i) 24 := vn_in (by omega) (by omega)
    refine hy_go hy_pfA oX6_flood [16] 60 0 0 _ ?_
    refine And.intro (fun q => ?_) (fun q => ?_)
    · have q : M.2 3 ≤ nI i := q
      rw [c1, nI_le24 (by omega) (by omega)] at q
      omega
    · have ks : ¬ (M.1 9 i = 0 ∧ M.1 4 i = a) → hy_X none 4 mX6_flood Q 0 0 (16, [some (hy_r 30), some (.inl a), some (.inl (nI (cntf (fun k => M.1 9 k = 0 ∧ M.1 4 k = a) i))), some (.inl (nI i + 1))], [], wW N F S T C (wM (sa M 9 (stf (fun k => M.1 9 k = 0 ∧ M.1 4 k = a) (M.1 9) i)))) := fun h => by
        rw [stf_n (P := fun k => M.1 9 k = 0 ∧ M.1 4 k = a) h] at nx
        rw [cntf, if_neg h, Nat.add_zero] at nx
        exact nx
      refine And.intro hin ?_
      refine And.intro (fun q2 => ?_) (fun q2 => ?_)
      · have q2 : stf (fun k => M.1 9 k = 0 ∧ M.1 4 k = a) (M.1 9) i (nI i).toNatClampNeg = 0 := q2
        rw [hcl, stf_i] at q2
        refine And.intro hin ?_
        refine And.intro (fun q3 => ?_) (fun q3 => ?_)
        · have q3 : M.1 4 (nI i).toNatClampNeg = a := q3
          rw [hcl] at q3
          refine And.intro hin ?_
          rw [stf_y (P := fun k => M.1 9 k = 0 ∧ M.1 4 k = a) ⟨q2, q3⟩] at nx
          rw [cntf, if_pos ⟨q2, q3⟩, ← nI_s] at nx
          have e : upd (stf (fun k => M.1 9 k = 0 ∧ M.1 4 k = a) (M.1 9) i) (nI i).toNatClampNeg 2 = upd (stf (fun k => M.1 9 k = 0 ∧ M.1 4 k = a) (M.1 9) i) i 2 := by rw [hcl]
          rw [← e] at nx
          exact nx
        · have q3 : ¬ M.1 4 (nI i).toNatClampNeg = a := q3
          rw [hcl] at q3
          exact ks (fun h => q3 h.2)
      · have q2 : ¬ stf (fun k => M.1 9 k = 0 ∧ M.1 4 k = a) (M.1 9) i (nI i).toNatClampNeg = 0 := q2
        rw [hcl, stf_i] at q2
        exact ks (fun h => q2 h.1)
theorem m_flood (a : Int32) (n : Nat) (hM : iNM M n) : hy_R 4 mX6_flood 0 0 [hy_r 30, .inl a] (wW N F S T C (wM M)) (fun o w1 => ∃ x, o = some x ∧ ((0 ≤ a ∧ a ≤ 7) ∧ x = nI (cntf (fun k => M.1 9 k = 0 ∧ M.1 4 k = a) n) ∧ w1 = wW N F S T C (wM (sa M 9 (stf (fun k => M.1 9 k = 0 ∧ M.1 4 k = a) (M.1 9) n))) ∨ ¬ (0 ≤ a ∧ a ≤ 7) ∧ x = -1 ∧ w1 = wW N F S T C (wM M))) := by
  refine hy_Ri (L := [some (hy_r 30), some (.inl a), none, none]) rfl (by decide) (hy_ple rfl) rfl ?_
  refine hy_go hy_pfA oX6_flood [16] 60 0 0 _ ?_
  refine And.intro (fun q => ?_) (fun q => ?_)
  · exact hy_fin (Or.inr ⟨g_within_0 q, rfl, rfl⟩)
  · have := l_m_flood N F S T C M (fun o w1 => ∃ x, o = some x ∧ ((0 ≤ a ∧ a ≤ 7) ∧ x = nI (cntf (fun k => M.1 9 k = 0 ∧ M.1 4 k = a) n) ∧ w1 = wW N F S T C (wM (sa M 9 (stf (fun k => M.1 9 k = 0 ∧ M.1 4 k = a) (M.1 9) n))) ∨ ¬ (0 ≤ a ∧ a ≤ 7) ∧ x = -1 ∧ w1 = wW N F S T C (wM M))) a n hM ⟨_, rfl, Or.inl ⟨g_within_n0 q, rfl, rfl⟩⟩ n 0 (by omega) (by omega)
    rw [stf_0] at this
    exact this
theorem m_isNet (a : Int32) : hy_R 4 mX6_isNet 0 0 [hy_r 30, .inl a] (wW N F S T C (wM M)) (fun o w1 => ∃ x, o = some x ∧ x = g_within [a, 0, M.2 3 - 1] ∧ w1 = wW N F S T C (wM M)) := by
  refine hy_Rz (L := [some (hy_r 30), some (.inl a)]) rfl (by decide) (fun x w h => h.1 ▸ g_within_01 _) (hy_ple rfl) rfl ?_
  refine hy_go hy_pfA oX6_isNet [] 60 0 0 _ ?_
  exact hy_fin ⟨rfl, rfl⟩
theorem m_isRipe (k : Nat) (hk : k < 24) : hy_R 3 mX6_isRipe 0 0 [hy_r 30, .inl (nI k)] (wW N F S T C (wM M)) (fun o w1 => ∃ x, o = some x ∧ x = (if M.1 8 k < M.1 7 k then 0 else 1) ∧ w1 = wW N F S T C (wM M)) := by
  have hcl : (nI k).toNatClampNeg = k := cl_nI (by omega)
  refine hy_Rz (L := [some (hy_r 30), some (.inl (nI k))]) rfl (by decide) (fun x w h => ?_) (hy_ple rfl) rfl ?_
  · rw [h.1]; split
    · exact Or.inl rfl
    · exact Or.inr rfl
  refine hy_go hy_pfA oX6_isRipe [] 60 0 0 _ ?_
  refine And.intro (vn_in hk (by omega)) (And.intro (vn_in hk (by omega)) (And.intro (fun q => ?_) (fun q => ?_)))
  · rw [hcl] at q
    exact hy_fin ⟨(if_pos q).symm, rfl⟩
  · rw [hcl] at q
    exact hy_fin ⟨(if_neg q).symm, rfl⟩
/-- weeks until ripe, as the reference reckons -/
def wkM (st lk rt : Int32) : Int32 := if ¬ st = 0 then -1 else if lk ≤ 0 then 0 else if rt = 0 then -1 else (lk + rt - 1) / rt
theorem m_weeksLeft (k n : Nat) (hM : iNM M n) (hk : k < 24) : hy_R 3 mX6_weeksLeft 0 0 [hy_r 30, .inl (nI k)] (wW N F S T C (wM M)) (fun o w1 => ∃ x, o = some x ∧ x = wkM (M.1 9 k) (M.1 7 k - M.1 8 k) (rtf (M.1 2) (M.1 1) (M.1 4) k) ∧ w1 = wW N F S T C (wM M)) := by
  obtain ⟨c1, c2, c3, c4⟩ := id hM
  have hcl : (nI k).toNatClampNeg = k := cl_nI (by omega)
  have hin : vp_in (nI k) 24 := vn_in hk (by decide)
  refine hy_Ri (L := [some (hy_r 30), some (.inl (nI k)), none, none]) rfl (by decide) (hy_ple rfl) rfl ?_
  refine hy_go hy_pfA oX6_weeksLeft [] 60 0 0 _ ?_
  refine And.intro hin (And.intro ?_ (And.intro ?_ (And.intro hin (And.intro hin (And.intro hin ?_)))))
  · have := c4 (nI k).toNatClampNeg
    exact vi_of this.1 (by omega)
  · have := c3 (M.1 4 (nI k).toNatClampNeg).toNatClampNeg
    exact vi_of this.1 (by omega)
  · have e1 : M.1 2 (M.1 1 (M.1 4 (nI k).toNatClampNeg).toNatClampNeg).toNatClampNeg = rtf (M.1 2) (M.1 1) (M.1 4) k := by rw [hcl]; rfl
    have e2 : M.1 7 (nI k).toNatClampNeg - M.1 8 (nI k).toNatClampNeg = M.1 7 k - M.1 8 k := by rw [hcl]
    have lg : ∀ x : Int32, x ≤ 0 ↔ ¬ 0 < x := fun x => by rw [zi_le, zi_lt]; omega
    refine And.intro (fun q => ?_) (fun q => ?_)
    · rw [hcl] at q
      refine And.intro (fun q2 => ?_) (fun q2 => ?_)
      · rw [e2] at q2
        refine And.intro (fun q3 => ?_) (fun q3 => ?_)
        · rw [e2] at q3; exact absurd q3 ((lg _).mp q2)
        · refine hy_fin ⟨?_, rfl⟩
          rw [wkM, if_neg (fun h => h q), if_pos q2]
      · rw [e2] at q2
        refine And.intro (fun q3 => ?_) (fun q3 => ?_)
        · rw [e1] at q3
          refine hy_fin ⟨?_, rfl⟩
          rw [wkM, if_neg (fun h => h q), if_neg q2, if_pos q3]
        · rw [e1] at q3
          refine And.intro (fun q4 => ?_) (fun q4 => ?_)
          · refine And.intro (fun h => q3 (e1 ▸ h)) ?_
            refine hy_fin ⟨?_, rfl⟩
            rw [wkM, if_neg (fun h => h q), if_neg q2, if_neg q3]
            show (M.1 7 (nI k).toNatClampNeg - M.1 8 (nI k).toNatClampNeg + M.1 2 (M.1 1 (M.1 4 (nI k).toNatClampNeg).toNatClampNeg).toNatClampNeg - 1) / M.1 2 (M.1 1 (M.1 4 (nI k).toNatClampNeg).toNatClampNeg).toNatClampNeg = _
            rw [e1, e2]
          · rw [e2] at q4; exact absurd (Classical.not_not.mp (fun h => q2 ((lg _).mpr h))) q4
    · rw [hcl] at q
      refine hy_fin ⟨?_, rfl⟩
      rw [wkM, if_pos q]
end
