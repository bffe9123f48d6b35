/-! ===== what new makes ===== -/
def zB : hyB := (fun _ _ => 0, fun _ => 0)
def rt0 (i : Nat) : Nat → Int32 := fun k => if k < i then 1 + nI k else 0
theorem rt0_0 : rt0 0 = fun _ => 0 := by
  funext k
  unfold rt0
  rw [if_neg (by omega)]
theorem rt0_s {i : Nat} : rt0 (i + 1) = upd (rt0 i) i (1 + nI i) := by
  funext k
  unfold upd rt0
  by_cases e : k = i
  · rw [if_pos e, if_pos (by omega), e]
  · rw [if_neg e]
    by_cases q : k < i
    · rw [if_pos q, if_pos (by omega)]
    · rw [if_neg q, if_neg (by omega)]
def cY0 : hyC := .inr (5, hy_dflt 5)
theorem l_kN (Q : hyQ) (K : Q none (cY0 :: wN (sa zB 1 (rt0 10)))) : ∀ (j i : Nat), 10 - i = j → i ≤ 10 → hy_X none 3 mX2_init Q 0 0 (70, [some (hy_r 1), some (.inl (nI i))], [], cY0 :: wN (sa zB 1 (rt0 i))) := by
  intro j
  induction j with
  | zero =>
    intro i hj hi
    have : i = 10 := by omega
    subst this
    refine hy_go hy_pfA oX2_init [70] 60 0 0 _ ?_
    exact And.intro (fun q => K) (fun q => absurd (by decide) q)
  | succ j ih =>
    intro i hj hi
    have hcl : (nI i).toNatClampNeg = i := cl_nI (by omega)
    have hin : vp_in (nI i) 10 := vn_in (by omega) (by decide)
    refine hy_go hy_pfA oX2_init [70] 60 0 0 _ ?_
    refine And.intro (fun q => ?_) (fun q => ?_)
    · have q : nI 10 ≤ nI i := q
      rw [nI_le24 (by omega) (by omega)] at q; omega
    · refine And.intro hin ?_
      have nx := ih (i + 1) (by omega) (by omega)
      rw [rt0_s, ← nI_s] at nx
      suffices g : hy_X none 3 mX2_init Q 0 0 (70, [some (hy_r 1), some (.inl (nI i + 1))], [], cY0 :: wN (sa zB 1 (upd (rt0 i) (nI i).toNatClampNeg (1 + nI i)))) from g
      rw [hcl]
      exact nx
set_option maxRecDepth 100000 in
theorem k_N : hy_R 3 mX2_init 8 162 [hy_r 1] [cY0, .inr (2, hy_dflt 2)] (fun o w1 => o = none ∧ w1 = cY0 :: wN (sa zB 1 (rt0 10))) := by
  refine hy_Rv (L := [some (hy_r 1), none]) rfl (by decide) (hy_ple rfl) rfl ?_
  refine hy_go hy_pfA oX2_init [70] 80 8 162 _ ?_
  refine And.intro ⟨by decide, by decide⟩ ?_
  refine And.intro ⟨by decide, by decide⟩ ?_
  refine And.intro ⟨by decide, by decide⟩ ?_
  refine And.intro ⟨by decide, by decide⟩ ?_
  refine And.intro ⟨by decide, by decide⟩ ?_
  refine And.intro ⟨by decide, by decide⟩ ?_
  refine And.intro ⟨by decide, by decide⟩ ?_
  refine And.intro ⟨by decide, by decide⟩ ?_
  have h := l_kN (fun o w1 => o = none ∧ w1 = cY0 :: wN (sa zB 1 (rt0 10))) ⟨rfl, rfl⟩ 10 0 (by omega) (by omega)
  rw [rt0_0] at h
  exact h
section
variable (N F S T : hyB)
set_option maxRecDepth 100000 in
theorem k_F : hy_R 3 mX0_init 2 16 [hy_r 10] (.inr (5, [hy_r 1, .inr (.inr false), .inr (.inr false), .inr (.inr false), .inr (.inr false)]) :: (wN N ++ [.inr (0, hy_dflt 0)])) (fun o w1 => o = none ∧ w1 = .inr (5, [hy_r 1, .inr (.inr false), .inr (.inr false), .inr (.inr false), .inr (.inr false)]) :: (wN N ++ wF zB)) := by
  refine hy_Rv (L := [some (hy_r 10)]) rfl (by decide) (hy_ple rfl) rfl ?_
  refine hy_go hy_pfA oX0_init [] 80 2 16 _ ?_
  refine And.intro ⟨by decide, by decide⟩ ?_
  refine And.intro ⟨by decide, by decide⟩ ?_
  exact ⟨rfl, rfl⟩
set_option maxRecDepth 100000 in
theorem k_S : hy_R 3 mX4_init 6 42 [hy_r 13] (.inr (5, [hy_r 1, hy_r 10, .inr (.inr false), .inr (.inr false), .inr (.inr false)]) :: (wN N ++ (wF F ++ [.inr (4, hy_dflt 4)]))) (fun o w1 => o = none ∧ w1 = .inr (5, [hy_r 1, hy_r 10, .inr (.inr false), .inr (.inr false), .inr (.inr false)]) :: (wN N ++ (wF F ++ wS (ss zB 7 2)))) := by
  refine hy_Rv (L := [some (hy_r 13)]) rfl (by decide) (hy_ple rfl) rfl ?_
  refine hy_go hy_pfA oX4_init [] 80 6 42 _ ?_
  refine And.intro ⟨by decide, by decide⟩ ?_
  refine And.intro ⟨by decide, by decide⟩ ?_
  refine And.intro ⟨by decide, by decide⟩ ?_
  refine And.intro ⟨by decide, by decide⟩ ?_
  refine And.intro ⟨by decide, by decide⟩ ?_
  refine And.intro ⟨by decide, by decide⟩ ?_
  exact ⟨rfl, rfl⟩
set_option maxRecDepth 100000 in
theorem k_T : hy_R 3 mX1_init 8 564 [hy_r 20] (.inr (5, [hy_r 1, hy_r 10, hy_r 13, .inr (.inr false), .inr (.inr false)]) :: (wN N ++ (wF F ++ (wS S ++ [.inr (1, hy_dflt 1)])))) (fun o w1 => o = none ∧ w1 = .inr (5, [hy_r 1, hy_r 10, hy_r 13, .inr (.inr false), .inr (.inr false)]) :: (wN N ++ (wF F ++ (wS S ++ wT zB)))) := by
  refine hy_Rv (L := [some (hy_r 20)]) rfl (by decide) (hy_ple rfl) rfl ?_
  refine hy_go hy_pfA oX1_init [] 80 8 564 _ ?_
  refine And.intro ⟨by decide, by decide⟩ ?_
  refine And.intro ⟨by decide, by decide⟩ ?_
  refine And.intro ⟨by decide, by decide⟩ ?_
  refine And.intro ⟨by decide, by decide⟩ ?_
  refine And.intro ⟨by decide, by decide⟩ ?_
  refine And.intro ⟨by decide, by decide⟩ ?_
  refine And.intro ⟨by decide, by decide⟩ ?_
  refine And.intro ⟨by decide, by decide⟩ ?_
  exact ⟨rfl, rfl⟩
set_option maxRecDepth 100000 in
theorem k_C : hy_R 3 mX3_init 0 0 [hy_r 29] (.inr (5, [hy_r 1, hy_r 10, hy_r 13, hy_r 20, .inr (.inr false)]) :: (wN N ++ (wF F ++ (wS S ++ (wT T ++ [.inr (3, hy_dflt 3)]))))) (fun o w1 => o = none ∧ w1 = .inr (5, [hy_r 1, hy_r 10, hy_r 13, hy_r 20, .inr (.inr false)]) :: (wN N ++ (wF F ++ (wS S ++ (wT T ++ wC (ss (ss zB 0 (-200)) 1 200)))))) := by
  refine hy_Rv (L := [some (hy_r 29)]) rfl (by decide) (hy_ple rfl) rfl ?_
  refine hy_go hy_pfA oX3_init [] 80 0 0 _ ?_
  exact ⟨rfl, rfl⟩
end
theorem hy_mk {d d' kc ks mc ms : Nat} {M : hyM} {as : List hyV} {w w2 : hyW} {P : Nat → Nat → hyW → Prop} (h : hy_R d' M mc ms as w (fun o w1 => o = none ∧ w1 = w2)) (hd : Nat.ble (d' + 1) d = true) (hc : Nat.ble mc kc = true) (hs : Nat.ble ms ks = true) (k : P (kc - mc) (ks - ms) w2) : hy_make d kc ks M as w P :=
  ⟨d', mc, ms, _, h, Nat.le_of_ble_eq_true hd, Nat.le_of_ble_eq_true hc, Nat.le_of_ble_eq_true hs, fun w1 h1 => by rw [h1.2]; exact k⟩
def yN0 : hyB := sa zB 1 (rt0 10)
def yS0 : hyB := ss zB 7 2
def yC0 : hyB := ss (ss zB 0 (-200)) 1 200
def yM0 (i : Nat) : hyB := ss (ss (ss (sa zB 2 (rt0 i)) 20 2) 28 (-200)) 29 200
set_option maxRecDepth 100000 in
theorem k_Y : hy_R 4 mX5_init 29 823 [hy_r 0] [cY0] (fun o w1 => o = none ∧ w1 = wW yN0 zB yS0 zB yC0 []) := by
  refine hy_Rv (L := [some (hy_r 0)]) rfl (by decide) (hy_ple rfl) rfl ?_
  refine hy_go hy_pfA oX5_init [12] 80 29 823 _ ?_
  refine hy_mk (d := 4) (kc := 28) (ks := 812) (P := fun kc' ks' w1 => hy_X none 4 mX5_init (fun o w1 => o = none ∧ w1 = wW yN0 zB yS0 zB yC0 []) kc' ks' (12, [some (hy_r 0)], [hy_r 1, hy_r 0], w1)) k_N rfl rfl rfl ?_
  refine hy_go hy_pfA oX5_init [23] 80 20 650 _ ?_
  refine hy_mk (d := 4) (kc := 19) (ks := 647) (P := fun kc' ks' w1 => hy_X none 4 mX5_init (fun o w1 => o = none ∧ w1 = wW yN0 zB yS0 zB yC0 []) kc' ks' (23, [some (hy_r 0)], [hy_r 10, hy_r 0], w1)) (k_F yN0) rfl rfl rfl ?_
  refine hy_go hy_pfA oX5_init [34] 80 17 631 _ ?_
  refine hy_mk (d := 4) (kc := 16) (ks := 621) (P := fun kc' ks' w1 => hy_X none 4 mX5_init (fun o w1 => o = none ∧ w1 = wW yN0 zB yS0 zB yC0 []) kc' ks' (34, [some (hy_r 0)], [hy_r 13, hy_r 0], w1)) (k_S yN0 zB) rfl rfl rfl ?_
  refine hy_go hy_pfA oX5_init [45] 80 10 579 _ ?_
  refine hy_mk (d := 4) (kc := 9) (ks := 567) (P := fun kc' ks' w1 => hy_X none 4 mX5_init (fun o w1 => o = none ∧ w1 = wW yN0 zB yS0 zB yC0 []) kc' ks' (45, [some (hy_r 0)], [hy_r 20, hy_r 0], w1)) (k_T yN0 zB yS0) rfl rfl rfl ?_
  refine hy_go hy_pfA oX5_init [56] 80 1 3 _ ?_
  refine hy_mk (d := 4) (kc := 0) (ks := 0) (P := fun kc' ks' w1 => hy_X none 4 mX5_init (fun o w1 => o = none ∧ w1 = wW yN0 zB yS0 zB yC0 []) kc' ks' (56, [some (hy_r 0)], [hy_r 29, hy_r 0], w1)) (k_C yN0 zB yS0 zB) rfl rfl rfl ?_
  refine hy_go hy_pfA oX5_init [] 80 0 0 _ ?_
  exact ⟨rfl, rfl⟩
section
variable (N F S T C : hyB)
set_option maxRecDepth 100000 in
theorem l_kM (Q : hyQ) (K : Q none (wW N F S T C (wM (yM0 10)))) : ∀ (j i : Nat), 10 - i = j → i ≤ 10 → hy_X none 3 mX6_init Q 0 0 (210, [some (hy_r 30), some (.inl (nI i))], [], wW N F S T C (wM (yM0 i))) := by
  intro j
  induction j with
  | zero =>
    intro i hj hi
    have : i = 10 := by omega
    subst this
    refine hy_go hy_pfA oX6_init [210] 60 0 0 _ ?_
    exact And.intro (fun q => K) (fun q => absurd (by decide) q)
  | succ j ih =>
    intro i hj hi
    have hcl : (nI i).toNatClampNeg = i := cl_nI (by omega)
    have hin : vp_in (nI i) 10 := vn_in (by omega) (by decide)
    refine hy_go hy_pfA oX6_init [210] 60 0 0 _ ?_
    refine And.intro (fun q => ?_) (fun q => ?_)
    · have q : nI 10 ≤ nI i := q
      rw [nI_le24 (by omega) (by omega)] at q; omega
    · refine And.intro hin ?_
      have nx := ih (i + 1) (by omega) (by omega)
      unfold yM0 at nx
      rw [rt0_s, ← nI_s] at nx
      suffices g : hy_X none 3 mX6_init Q 0 0 (210, [some (hy_r 30), some (.inl (nI i + 1))], [], wW N F S T C (wM (ss (ss (ss (sa zB 2 (upd (rt0 i) (nI i).toNatClampNeg (1 + nI i))) 20 2) 28 (-200)) 29 200))) from g
      rw [hcl]
      exact nx
set_option maxRecDepth 100000 in
theorem k_M : hy_R 3 mX6_init 23 520 [hy_r 30] (wW N F S T C [.inr (6, hy_dflt 6)]) (fun o w1 => o = none ∧ w1 = wW N F S T C (wM (yM0 10))) := by
  refine hy_Rv (L := [some (hy_r 30), none]) rfl (by decide) (hy_ple rfl) rfl ?_
  refine hy_go hy_pfA oX6_init [210] 120 23 520 _ ?_
  iterate 23 refine And.intro ⟨by decide, by decide⟩ ?_
  have h := l_kM N F S T C (fun o w1 => o = none ∧ w1 = wW N F S T C (wM (yM0 10))) ⟨rfl, rfl⟩ 10 0 (by omega) (by omega)
  unfold yM0 at h
  rw [rt0_0] at h
  exact h
end
