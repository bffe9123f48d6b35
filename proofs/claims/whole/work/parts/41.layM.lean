/-! ===== the reference's lays ===== -/
def iTd (a0 a1 a2 a3 : Nat → Int32) (l m L lo : Nat → Nat) (R c : Nat) : Prop := (∀ r, a0 r = nI (L r) ∧ a1 r = nI (lo r) ∧ L r ≤ 1000 ∧ lo r ≤ 2) ∧ (∀ i, a2 i = nI (l i) ∧ a3 i = nI (m i) ∧ l i ≤ 500 ∧ m i ≤ 3) ∧ R ≤ 6 ∧ c ≤ 8 ∧ (∀ i, i < c → 1 ≤ l i) ∧ ∀ r, r < R → 1 ≤ L r
def iTM (M : hyB) (l m L lo : Nat → Nat) (R c : Nat) : Prop := iTd (M.1 22) (M.1 23) (M.1 25) (M.1 26) l m L lo R c ∧ M.2 21 = nI R ∧ M.2 24 = nI c
theorem row_gd {fr : Nat → Int32} {π : List Nat} {i : Nat} (h : rowIs fr π) (hi : i < π.length) : fr i = nI (π.getD i 9) := by
  refine h i _ ?_
  rw [List.getD_eq_getElem?_getD, List.getElem?_eq_getElem hi]; rfl
section
variable (N F S T C M : hyB) (l m L lo : Nat → Nat) (R c : Nat)
theorem l_cutOf (Q : hyQ) (fr : Nat → Int32) (π : List Nat) (r : Nat) (hM : iTM M l m L lo R c) (hr : rowIs fr π) (hπ : π.length ≤ 8) (hx : ∀ i, i < π.length → π.getD i 9 < 1000) (hr2 : r < 1000) (K : Q (some (nI (uL l π r))) (wW N F S T C (wM (sa M 34 fr)))) :
    ∀ (j i : Nat), π.length - i = j → i ≤ π.length → hy_X none 4 mX6_cutOf Q 0 0 (5, [some (hy_r 30), some (.inl (nI r)), some (.inl (nI π.length)), some (.inl (nI (sumf (fun i => if π.getD i 9 = r then l i else 0) i))), some (.inl (nI i))], [], wW N F S T C (wM (sa M 34 fr))) := by
  obtain ⟨⟨t0, t1, t2, t3, t4, t5⟩, d1, d2⟩ := id hM
  intro j
  induction j with
  | zero =>
    intro i hj hi
    have : i = π.length := by omega
    subst this
    refine hy_go hy_pfA oX6_cutOf [5] 60 0 0 _ ?_
    exact And.intro (fun q => K) (fun q => absurd (Int32.le_refl _) q)
  | succ j ih =>
    intro i hj hi
    have hcl : (nI i).toNatClampNeg = i := cl_nI (by omega)
    have hin : vp_in (nI i) 8 := vn_in (by omega) (by decide)
    have hfi := row_gd hr (i := i) (by omega)
    have hxi := hx i (by omega)
    have nx := ih (i + 1) (by omega) (by omega)
    rw [← nI_s, show sumf (fun i => if π.getD i 9 = r then l i else 0) (i + 1) = sumf (fun i => if π.getD i 9 = r then l i else 0) i + (if π.getD i 9 = r then l i else 0) from rfl, ← nI_add] at nx
    refine hy_go hy_pfA oX6_cutOf [5] 60 0 0 _ ?_
    refine And.intro (fun q => ?_) (fun q => ?_)
    · rw [nI_le24 (by omega) (by omega)] at q; omega
    · refine And.intro hin ?_
      refine And.intro (fun q2 => ?_) (fun q2 => ?_)
      · have q2 : fr (nI i).toNatClampNeg = nI r := q2
        rw [hcl, hfi, nI_eqI (by omega) (by omega)] at q2
        refine And.intro hin ?_
        have e : M.1 25 (nI i).toNatClampNeg = nI (l i) := by rw [hcl]; exact (t1 i).1
        rw [if_pos q2, ← e] at nx
        exact nx
      · have q2 : ¬ fr (nI i).toNatClampNeg = nI r := q2
        rw [hcl, hfi, nI_eqI (by omega) (by omega)] at q2
        rw [if_neg q2] at nx
        exact nx
theorem m_cutOf (fr : Nat → Int32) (π : List Nat) (r : Nat) (hM : iTM M l m L lo R c) (hr : rowIs fr π) (hπ : π.length ≤ 8) (hx : ∀ i, i < π.length → π.getD i 9 < 1000) (hr2 : r < 1000) : hy_R 4 mX6_cutOf 0 0 [hy_r 30, .inl (nI r), .inl (nI π.length)] (wW N F S T C (wM (sa M 34 fr))) (fun o w1 => ∃ x, o = some x ∧ x = nI (uL l π r) ∧ w1 = wW N F S T C (wM (sa M 34 fr))) := by
  refine hy_Ri (L := [some (hy_r 30), some (.inl (nI r)), some (.inl (nI π.length)), none, none]) rfl (by decide) (hy_ple rfl) rfl ?_
  refine hy_go hy_pfA oX6_cutOf [5] 60 0 0 _ ?_
  exact l_cutOf N F S T C M l m L lo R c _ fr π r hM hr hπ hx hr2 ⟨_, rfl, rfl, rfl⟩ π.length 0 (by omega) (by omega)
theorem uL_bd (hl : ∀ i, l i ≤ 500) (π : List Nat) (hπ : π.length ≤ 8) (r : Nat) : uL l π r ≤ 4000 := by
  have := sumf_bd (f := fun i => if π.getD i 9 = r then l i else 0) (b := 500) (n := π.length) (fun k _ => by split; exact hl k; omega)
  unfold uL
  omega
theorem l_openedBy (Q : hyQ) (fr : Nat → Int32) (π : List Nat) (hM : iTM M l m L lo R c) (hr : rowIs fr π) (hπ : π.length ≤ 8) (hx : ∀ i, i < π.length → π.getD i 9 < 1000) (K : Q (some (nI (oL l L R π))) (wW N F S T C (wM (sa M 34 fr)))) :
    ∀ (j i : Nat), R - i = j → i ≤ R → hy_X none 5 mX6_openedBy Q 0 0 (4, [some (hy_r 30), some (.inl (nI π.length)), some (.inl (nI (sumf (fun r => if 0 < uL l π r then L r else 0) i))), some (.inl (nI i))], [], wW N F S T C (wM (sa M 34 fr))) := by
  obtain ⟨⟨t0, t1, t2, t3, t4, t5⟩, d1, d2⟩ := id hM
  intro j
  induction j with
  | zero =>
    intro i hj hi
    have : i = R := by omega
    subst this
    refine hy_go hy_pfA oX6_openedBy [4] 60 0 0 _ ?_
    refine And.intro (fun q => K) (fun q => absurd ?_ q)
    show M.2 21 ≤ nI i
    rw [d1]; exact Int32.le_refl _
  | succ j ih =>
    intro i hj hi
    have hcl : (nI i).toNatClampNeg = i := cl_nI (by omega)
    have hin : vp_in (nI i) 6 := vn_in (by omega) (by decide)
    have hb := uL_bd l (fun i => (t1 i).2.2.1) π hπ i
    have nx := ih (i + 1) (by omega) (by omega)
    rw [← nI_s, show sumf (fun r => if 0 < uL l π r then L r else 0) (i + 1) = sumf (fun r => if 0 < uL l π r then L r else 0) i + (if 0 < uL l π i then L i else 0) from rfl, ← nI_add] at nx
    refine hy_go hy_pfA oX6_openedBy [4] 60 0 0 _ ?_
    refine And.intro (fun q => ?_) (fun q => ?_)
    · have q : M.2 21 ≤ nI i := q
      rw [d1, nI_le24 (by omega) (by omega)] at q; omega
    · refine hy_cl (m_cutOf N F S T C M l m L lo R c fr π i hM hr hπ hx (by omega)) rfl ?_
      rintro o w1 ⟨x, rfl, rfl, rfl⟩
      refine And.intro (fun q2 => ?_) (fun q2 => ?_)
      · have q2 := zi_le.mp q2
        rw [zi_nI (by omega), zi_lit0] at q2
        rw [if_neg (by omega)] at nx
        exact nx
      · have q2 : ¬ (nI (uL l π i)).toInt ≤ 0 := fun h => q2 (zi_le.mpr h)
        rw [zi_nI (by omega)] at q2
        refine And.intro hin ?_
        have e : M.1 22 (nI i).toNatClampNeg = nI (L i) := by rw [hcl]; exact (t0 i).1
        rw [if_pos (by omega), ← e] at nx
        exact nx
theorem m_openedBy (fr : Nat → Int32) (π : List Nat) (hM : iTM M l m L lo R c) (hr : rowIs fr π) (hπ : π.length ≤ 8) (hx : ∀ i, i < π.length → π.getD i 9 < 1000) : hy_R 5 mX6_openedBy 0 0 [hy_r 30, .inl (nI π.length)] (wW N F S T C (wM (sa M 34 fr))) (fun o w1 => ∃ x, o = some x ∧ x = nI (oL l L R π) ∧ w1 = wW N F S T C (wM (sa M 34 fr))) := by
  refine hy_Ri (L := [some (hy_r 30), some (.inl (nI π.length)), none, none]) rfl (by decide) (hy_ple rfl) rfl ?_
  refine hy_go hy_pfA oX6_openedBy [4] 60 0 0 _ ?_
  exact l_openedBy N F S T C M l m L lo R c _ fr π hM hr hπ hx ⟨_, rfl, rfl, rfl⟩ R 0 (by omega) (by omega)
def mlv (P : Prop) (x : Int32) : Prop := (x = 1 ∧ P) ∨ (x = 0 ∧ ¬ P)
theorem l_mayLie (Q : hyQ) (fr : Nat → Int32) (π : List Nat) (x : Nat) (P : Prop) (hM : iTM M l m L lo R c) (hr : rowIs fr (π ++ [x])) (hπ : π.length < 8) (hx : ∀ i, i < π.length → π.getD i 9 < 6) (hx2 : x < 6)
    (K : ∀ v, mlv (P ∧ ∀ k, k < π.length → m k = m π.length → lo (π.getD k 9) = lo x) v → Q (some v) (wW N F S T C (wM (sa M 34 fr)))) :
    ∀ (j i : Nat) (v : Int32), π.length - i = j → i ≤ π.length → mlv (P ∧ ∀ k, k < i → m k = m π.length → lo (π.getD k 9) = lo x) v → hy_X none 5 mX6_mayLie Q 0 0 (38, [some (hy_r 30), some (.inl (nI (π.length + 1))), some (.inl (nI π.length)), some (.inl v), some (.inl (nI i))], [], wW N F S T C (wM (sa M 34 fr))) := by
  obtain ⟨⟨t0, t1, t2, t3, t4, t5⟩, d1, d2⟩ := id hM
  have hpl : (nI π.length).toNatClampNeg = π.length := cl_nI (by omega)
  have hpin : vp_in (nI π.length) 8 := vn_in (by omega) (by decide)
  have hfx : fr π.length = nI x := by
    have := row_gd hr (i := π.length) (by simp)
    rwa [gd_last] at this
  intro j
  induction j with
  | zero =>
    intro i v hj hi hv
    have : i = π.length := by omega
    subst this
    refine hy_go hy_pfA oX6_mayLie [38] 60 0 0 _ ?_
    exact And.intro (fun q => K v hv) (fun q => absurd (Int32.le_refl _) q)
  | succ j ih =>
    intro i v hj hi hv
    have hcl : (nI i).toNatClampNeg = i := cl_nI (by omega)
    have hin : vp_in (nI i) 8 := vn_in (by omega) (by decide)
    have hfi : fr i = nI (π.getD i 9) := by
      have := row_gd hr (i := i) (by simp; omega)
      rwa [gd_app (by omega)] at this
    have hxi := hx i (by omega)
    have b1 := (t1 i).2.2.2
    have b2 := (t1 π.length).2.2.2
    have b3 := (t0 (π.getD i 9)).2.2.2
    have b4 := (t0 x).2.2.2
    have e1 : M.1 26 (nI i).toNatClampNeg = nI (m i) := by rw [hcl]; exact (t1 i).2.1
    have e2 : M.1 26 (nI π.length).toNatClampNeg = nI (m π.length) := by rw [hpl]; exact (t1 _).2.1
    have e3 : fr (nI i).toNatClampNeg = nI (π.getD i 9) := by rw [hcl]; exact hfi
    have e4 : fr (nI π.length).toNatClampNeg = nI x := by rw [hpl]; exact hfx
    have e5 : M.1 23 (fr (nI i).toNatClampNeg).toNatClampNeg = nI (lo (π.getD i 9)) := by rw [e3, cl_nI (by omega)]; exact (t0 _).2.1
    have e6 : M.1 23 (fr (nI π.length).toNatClampNeg).toNatClampNeg = nI (lo x) := by rw [e4, cl_nI (by omega)]; exact (t0 _).2.1
    have step : ∀ v', mlv (P ∧ ∀ k, k < i + 1 → m k = m π.length → lo (π.getD k 9) = lo x) v' → hy_X none 5 mX6_mayLie Q 0 0 (38, [some (hy_r 30), some (.inl (nI (π.length + 1))), some (.inl (nI π.length)), some (.inl v'), some (.inl (nI i + 1))], [], wW N F S T C (wM (sa M 34 fr))) := fun v' hv' => by
      rw [nI_s]; exact ih (i + 1) v' (by omega) (by omega) hv'
    have split : ∀ k, k < i + 1 → k < i ∨ k = i := fun k hk => by omega
    refine hy_go hy_pfA oX6_mayLie [38] 60 0 0 _ ?_
    refine And.intro (fun q => ?_) (fun q => ?_)
    · rw [nI_le24 (by omega) (by omega)] at q; omega
    · refine And.intro (fun q2 => ?_) (fun q2 => ?_)
      · rcases hv with ⟨h1, h2⟩ | ⟨h1, h2⟩
        · rw [h1] at q2; exact absurd q2 (by decide)
        · exact step 0 (Or.inr ⟨rfl, fun h => h2 ⟨h.1, fun k hk => h.2 k (by omega)⟩⟩)
      · rcases hv with ⟨h1, h2⟩ | ⟨h1, h2⟩
        · refine And.intro hin (And.intro hpin ?_)
          refine And.intro (fun q3 => ?_) (fun q3 => ?_)
          · have q3 : M.1 26 (nI i).toNatClampNeg = M.1 26 (nI π.length).toNatClampNeg := q3
            rw [e1, e2, nI_eqI (by omega) (by omega)] at q3
            refine And.intro hin (And.intro ?_ (And.intro hpin (And.intro ?_ ?_)))
            · have hv : vp_in (fr (nI i).toNatClampNeg) 6 := by rw [e3]; exact vn_in hxi (by decide)
              exact hv
            · have hv : vp_in (fr (nI π.length).toNatClampNeg) 6 := by rw [e4]; exact vn_in hx2 (by decide)
              exact hv
            · refine And.intro (fun q4 => ?_) (fun q4 => ?_)
              · have q4 : M.1 23 (fr (nI i).toNatClampNeg).toNatClampNeg = M.1 23 (fr (nI π.length).toNatClampNeg).toNatClampNeg := q4
                rw [e5, e6, nI_eqI (by omega) (by omega)] at q4
                refine step 1 (Or.inl ⟨rfl, h2.1, fun k hk hm => ?_⟩)
                rcases split k hk with hk | hk
                · exact h2.2 k hk hm
                · rw [hk]; exact q4
              · have q4 : ¬ M.1 23 (fr (nI i).toNatClampNeg).toNatClampNeg = M.1 23 (fr (nI π.length).toNatClampNeg).toNatClampNeg := q4
                rw [e5, e6, nI_eqI (by omega) (by omega)] at q4
                exact step 0 (Or.inr ⟨rfl, fun h => q4 (h.2 i (by omega) q3)⟩)
          · have q3 : ¬ M.1 26 (nI i).toNatClampNeg = M.1 26 (nI π.length).toNatClampNeg := q3
            rw [e1, e2, nI_eqI (by omega) (by omega)] at q3
            refine step 1 (Or.inl ⟨rfl, h2.1, fun k hk hm => ?_⟩)
            rcases split k hk with hk | hk
            · exact h2.2 k hk hm
            · rw [hk] at hm; exact absurd hm q3
        · rw [h1] at q2; exact absurd rfl q2
theorem m_mayLie (fr : Nat → Int32) (π : List Nat) (x : Nat) (hM : iTM M l m L lo R c) (hr : rowIs fr (π ++ [x])) (hπ : π.length < 8) (hx : ∀ i, i < π.length → π.getD i 9 < 6) (hx2 : x < 6) : hy_R 5 mX6_mayLie 0 0 [hy_r 30, .inl (nI (π.length + 1))] (wW N F S T C (wM (sa M 34 fr))) (fun o w1 => ∃ v, o = some v ∧ mlv (uL l (π ++ [x]) x ≤ L x ∧ ∀ k, k < π.length → m k = m π.length → lo (π.getD k 9) = lo x) v ∧ w1 = wW N F S T C (wM (sa M 34 fr))) := by
  obtain ⟨⟨t0, t1, t2, t3, t4, t5⟩, d1, d2⟩ := id hM
  have hpl : (nI π.length).toNatClampNeg = π.length := cl_nI (by omega)
  have hpin : vp_in (nI π.length) 8 := vn_in (by omega) (by decide)
  have hfx : fr π.length = nI x := by
    have := row_gd hr (i := π.length) (by simp)
    rwa [gd_last] at this
  have e4 : fr (nI π.length).toNatClampNeg = nI x := by rw [hpl]; exact hfx
  have hb := uL_bd l (fun i => (t1 i).2.2.1) (π ++ [x]) (by simp; omega) x
  have hLx := (t0 x).2.2.1
  refine hy_Rz (L := [some (hy_r 30), some (.inl (nI (π.length + 1))), none, none, none]) rfl (by decide) (fun v w h => ?_) (hy_ple rfl) rfl ?_
  · rcases h.1 with h | h
    · exact Or.inr h.1
    · exact Or.inl h.1
  refine hy_go hy_pfA oX6_mayLie [4] 60 0 0 _ ?_
  suffices g : hy_X none 5 mX6_mayLie (fun o w1 => ∃ v, o = some v ∧ mlv (uL l (π ++ [x]) x ≤ L x ∧ ∀ k, k < π.length → m k = m π.length → lo (π.getD k 9) = lo x) v ∧ w1 = wW N F S T C (wM (sa M 34 fr))) 0 0 (4, [some (hy_r 30), some (.inl (nI (π.length + 1))), some (.inl (nI π.length)), none, none], [], wW N F S T C (wM (sa M 34 fr))) by
    have e : nI π.length = nI (π.length + 1) - 1 := (nI_pred _).symm
    rw [e] at g
    exact g
  refine hy_go hy_pfA oX6_mayLie [38] 60 0 0 _ ?_
  refine And.intro hpin ?_
  have hcut : hy_R 4 mX6_cutOf 0 0 [hy_r 30, .inl (fr (nI π.length).toNatClampNeg), .inl (nI (π.length + 1))] (wW N F S T C (wM (sa M 34 fr))) (fun o w1 => ∃ y, o = some y ∧ y = nI (uL l (π ++ [x]) x) ∧ w1 = wW N F S T C (wM (sa M 34 fr))) := by
    rw [e4]
    have := m_cutOf N F S T C M l m L lo R c fr (π ++ [x]) x hM hr (by simp; omega) (fun i hi => by
      by_cases e : i = π.length
      · rw [e, gd_last]; omega
      · rw [gd_app (by simp at hi; omega)]
        have := hx i (by simp at hi; omega)
        omega) (by omega)
    rwa [show (π ++ [x]).length = π.length + 1 by simp] at this
  refine hy_cl hcut rfl ?_
  rintro o w1 ⟨y, rfl, rfl, rfl⟩
  refine And.intro hpin (And.intro ?_ ?_)
  · have hv : vp_in (fr (nI π.length).toNatClampNeg) 6 := by rw [e4]; exact vn_in hx2 (by decide)
    exact hv
  · have e5 : M.1 22 (fr (nI π.length).toNatClampNeg).toNatClampNeg = nI (L x) := by rw [e4, cl_nI (by omega)]; exact (t0 x).1
    have lp := l_mayLie N F S T C M l m L lo R c (fun o w1 => ∃ v, o = some v ∧ mlv (uL l (π ++ [x]) x ≤ L x ∧ ∀ k, k < π.length → m k = m π.length → lo (π.getD k 9) = lo x) v ∧ w1 = wW N F S T C (wM (sa M 34 fr))) fr π x (uL l (π ++ [x]) x ≤ L x) hM hr hπ hx hx2 (fun v hv => ⟨v, rfl, hv, rfl⟩) π.length 0
    refine And.intro (fun q => ?_) (fun q => ?_)
    · have q : M.1 22 (fr (nI π.length).toNatClampNeg).toNatClampNeg < nI (uL l (π ++ [x]) x) := q
      rw [e5, zi_lt, zi_nI (by omega), zi_nI (by omega)] at q
      exact lp 0 (by omega) (by omega) (Or.inr ⟨rfl, fun h => by have := h.1; omega⟩)
    · have q : ¬ M.1 22 (fr (nI π.length).toNatClampNeg).toNatClampNeg < nI (uL l (π ++ [x]) x) := q
      rw [e5, zi_lt, zi_nI (by omega), zi_nI (by omega)] at q
      exact lp 1 (by omega) (by omega) (Or.inl ⟨rfl, by omega, fun k hk => by omega⟩)
end
