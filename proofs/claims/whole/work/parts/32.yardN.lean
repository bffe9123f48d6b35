/-! ===== the yard's own methods on nets and finds ===== -/
section
variable (N F S T C : hyB) (R : hyW)
theorem y_salt (a v : Int32) : hy_R 5 mX5_salt 0 0 [hy_r 0, .inl a, .inl v] (wW N F S T C R) (fun o w1 => ∃ x, o = some x ∧ (((0 ≤ a ∧ a ≤ 7) ∧ (0 ≤ v ∧ v ≤ 9)) ∧ x = 1 ∧ w1 = wW (sa N 0 (upd (N.1 0) a.toNatClampNeg v)) F S T C R ∨ ¬ ((0 ≤ a ∧ a ≤ 7) ∧ (0 ≤ v ∧ v ≤ 9)) ∧ x = 0 ∧ w1 = wW N F S T C R)) := by
  refine hy_Rz (L := [some (hy_r 0), some (.inl a), some (.inl v)]) rfl (by decide) (fun x w h => ?_) (hy_ple rfl) rfl ?_
  · rcases h with ⟨-, h, -⟩ | ⟨-, h, -⟩
    · exact Or.inr h
    · exact Or.inl h
  refine hy_go hy_pfA oX5_salt [] 60 0 0 _ ?_
  refine hy_cl (r_n_setSalt N F S T C R a v) rfl ?_
  rintro o w1 ⟨x, rfl, hx⟩
  exact hy_fin hx
theorem y_ripens (a v : Int32) : hy_R 5 mX5_ripens 0 0 [hy_r 0, .inl a, .inl v] (wW N F S T C R) (fun o w1 => ∃ x, o = some x ∧ (((0 ≤ a ∧ a ≤ 9) ∧ (0 ≤ v ∧ v ≤ 50)) ∧ x = 1 ∧ w1 = wW (sa N 1 (upd (N.1 1) a.toNatClampNeg v)) F S T C R ∨ ¬ ((0 ≤ a ∧ a ≤ 9) ∧ (0 ≤ v ∧ v ≤ 50)) ∧ x = 0 ∧ w1 = wW N F S T C R)) := by
  refine hy_Rz (L := [some (hy_r 0), some (.inl a), some (.inl v)]) rfl (by decide) (fun x w h => ?_) (hy_ple rfl) rfl ?_
  · rcases h with ⟨-, h, -⟩ | ⟨-, h, -⟩
    · exact Or.inr h
    · exact Or.inl h
  refine hy_go hy_pfA oX5_ripens [] 60 0 0 _ ?_
  refine hy_cl (r_n_setRipens N F S T C R a v) rfl ?_
  rintro o w1 ⟨x, rfl, hx⟩
  exact hy_fin hx
theorem y_net (a b h g : Int32) (n : Nat) (hN : iN N n) : hy_R 5 mX5_net 0 0 [hy_r 0, .inl a, .inl b, .inl h, .inl g] (wW N F S T C R) (fun o w1 => ∃ x, o = some x ∧ (c_net a b h g n ∧ x = nI n ∧ w1 = wW (ss (sa (sa (sa (sa (sa (sa N 2 (upd (N.1 2) n a)) 3 (upd (N.1 3) n b)) 4 (upd (N.1 4) n h)) 5 (upd (N.1 5) n g)) 6 (upd (N.1 6) n 0)) 7 (upd (N.1 7) n 0)) 8 (nI (n + 1))) F S T C R ∨ ¬ c_net a b h g n ∧ x = -1 ∧ w1 = wW N F S T C R)) := by
  refine hy_Ri (L := [some (hy_r 0), some (.inl a), some (.inl b), some (.inl h), some (.inl g)]) rfl (by decide) (hy_ple rfl) rfl ?_
  refine hy_go hy_pfA oX5_net [] 60 0 0 _ ?_
  refine hy_cl (r_n_putIn N F S T C R a b h g n hN) rfl ?_
  rintro o w1 ⟨x, rfl, hx⟩
  exact hy_fin hx
theorem y_weeks (v : Int32) (n : Nat) (hN : iN N n) : hy_R 5 mX5_weeks 0 0 [hy_r 0, .inl v] (wW N F S T C R) (fun o w1 => ∃ x, o = some x ∧ (c_weeks v (N.2 9) ∧ x = N.2 9 + v ∧ w1 = wW (ss (sa N 6 (ptf (fun k => N.1 7 k = 0) (N.1 6) (rtf (N.1 1) (N.1 0) (N.1 2)) v n)) 9 (N.2 9 + v)) F S T C R ∨ ¬ c_weeks v (N.2 9) ∧ x = -1 ∧ w1 = wW N F S T C R)) := by
  refine hy_Ri (L := [some (hy_r 0), some (.inl v)]) rfl (by decide) (hy_ple rfl) rfl ?_
  refine hy_go hy_pfA oX5_weeks [] 60 0 0 _ ?_
  refine hy_cl (r_n_goBy N F S T C R v n hN) rfl ?_
  rintro o w1 ⟨x, rfl, hx⟩
  exact hy_fin hx
theorem y_pull (a : Int32) (n : Nat) (hN : iN N n) : hy_R 6 mX5_pull 0 0 [hy_r 0, .inl a] (wW N F S T C R) (fun o w1 => ∃ x, o = some x ∧ ((∃ k, c_pull N.1 a n k ∧ x = plf N.1 k ∧ w1 = wW (ss (sa N 7 (upd (N.1 7) k 1)) 10 (N.2 10 + plf N.1 k)) F S T C R) ∨ (¬ ∃ k, c_pull N.1 a n k) ∧ x = -1 ∧ w1 = wW N F S T C R)) := by
  refine hy_Ri (L := [some (hy_r 0), some (.inl a)]) rfl (by decide) (hy_ple rfl) rfl ?_
  refine hy_go hy_pfA oX5_pull [] 60 0 0 _ ?_
  refine hy_cl (r_n_takeOut N F S T C R a n hN) rfl ?_
  rintro o w1 ⟨x, rfl, hx⟩
  exact hy_fin hx
theorem y_flood (a : Int32) (n : Nat) (hN : iN N n) : hy_R 5 mX5_flood 0 0 [hy_r 0, .inl a] (wW N F S T C R) (fun o w1 => ∃ x, o = some x ∧ ((0 ≤ a ∧ a ≤ 7) ∧ x = nI (cntf (fun k => N.1 7 k = 0 ∧ N.1 2 k = a) n) ∧ w1 = wW (sa N 7 (stf (fun k => N.1 7 k = 0 ∧ N.1 2 k = a) (N.1 7) n)) F S T C R ∨ ¬ (0 ≤ a ∧ a ≤ 7) ∧ x = -1 ∧ w1 = wW N F S T C R)) := by
  refine hy_Ri (L := [some (hy_r 0), some (.inl a)]) rfl (by decide) (hy_ple rfl) rfl ?_
  refine hy_go hy_pfA oX5_flood [] 60 0 0 _ ?_
  refine hy_cl (r_n_floatOff N F S T C R a n hN) rfl ?_
  rintro o w1 ⟨x, rfl, hx⟩
  exact hy_fin hx
/-- the states once the sure are back -/
noncomputable def bbf (g : Nat → Int32) (st : Nat → Int32) (n i : Nat) : Nat → Int32 := fun k => @ite _ (k < n ∧ st k = 2 ∧ ∃ f, f < i ∧ g f = nI k) (Classical.propDecidable _) 3 (st k)
theorem bbf_0 {g st : Nat → Int32} {n : Nat} : bbf g st n 0 = st := by
  funext k
  unfold bbf
  rw [if_neg]
  rintro ⟨-, -, f, h, -⟩
  omega
theorem bbf_y {g st : Nat → Int32} {n i k : Nat} (hn : n ≤ 24) (hk : k < n) (hg : g i = nI k) (hs : bbf g st n i k = 2) : bbf g st n (i + 1) = upd (bbf g st n i) k 3 := by
  funext j
  have h2 : st k = 2 := by
    unfold bbf at hs
    split at hs
    · exact absurd hs (by decide)
    · exact hs
  unfold upd
  by_cases e : j = k
  · rw [if_pos e, e]
    unfold bbf
    rw [if_pos ⟨hk, h2, i, by omega, hg⟩]
  · rw [if_neg e]
    unfold bbf
    by_cases q : j < n ∧ st j = 2 ∧ ∃ f, f < i ∧ g f = nI j
    · obtain ⟨q1, q2, f, q3, q4⟩ := q
      rw [if_pos ⟨q1, q2, f, by omega, q4⟩, if_pos ⟨q1, q2, f, q3, q4⟩]
    · rw [if_neg q, if_neg]
      rintro ⟨q1, q2, f, q3, q4⟩
      by_cases ef : f = i
      · rw [ef, hg, zi_eq, zi_nI (by omega), zi_nI (by omega)] at q4; omega
      · exact q ⟨q1, q2, f, by omega, q4⟩
theorem bbf_n {g st : Nat → Int32} {n i : Nat} (h : ¬ ∃ k, k < n ∧ g i = nI k ∧ bbf g st n i k = 2) : bbf g st n (i + 1) = bbf g st n i := by
  funext j
  by_cases q : j < n ∧ st j = 2 ∧ ∃ f, f < i ∧ g f = nI j
  · obtain ⟨q1, q2, f, q3, q4⟩ := q
    unfold bbf
    rw [if_pos ⟨q1, q2, f, by omega, q4⟩, if_pos ⟨q1, q2, f, q3, q4⟩]
  · have e : bbf g st n i j = st j := by unfold bbf; rw [if_neg q]
    rw [e]
    unfold bbf
    rw [if_neg]
    rintro ⟨q1, q2, f, q3, q4⟩
    by_cases ef : f = i
    · rw [ef] at q4
      exact h ⟨j, q1, q4, e.trans q2⟩
    · exact q ⟨q1, q2, f, by omega, q4⟩
theorem l_bring (Q : hyQ) (s : Nat → Nat) (c n : Nat) (hN : iN N n) (hF : iF F s c) (K : Q none (wW (sa N 7 (bbf (F.1 1) (N.1 7) n c)) F S T C R)) :
    ∀ (j i : Nat), c - i = j → i ≤ c → hy_X none 6 mX5_bringBackTheSure Q 0 0 (2, [some (hy_r 0), some (.inl (nI i))], [], wW (sa N 7 (bbf (F.1 1) (N.1 7) n i)) F S T C R) := by
  obtain ⟨c1, c2, c3, c4⟩ := id hF
  intro j
  induction j with
  | zero =>
    intro i hj hi
    have : i = c := by omega
    subst this
    refine hy_go hy_pfA oX5_bringBackTheSure [2] 60 0 0 _ ?_
    refine hy_cl (r_f_count (sa N 7 (bbf (F.1 1) (N.1 7) n i)) F S T C R) rfl ?_
    rintro o w1 ⟨x, rfl, rfl, rfl⟩
    refine And.intro (fun q => K) (fun q => absurd ?_ q)
    rw [c1]; exact Int32.le_refl _
  | succ j ih =>
    intro i hj hi
    have a1 : c - (i + 1) = j := by omega
    have a2 : i + 1 ≤ c := by omega
    refine hy_go hy_pfA oX5_bringBackTheSure [2] 60 0 0 _ ?_
    refine hy_cl (r_f_count (sa N 7 (bbf (F.1 1) (N.1 7) n i)) F S T C R) rfl ?_
    rintro o w1 ⟨x, rfl, rfl, rfl⟩
    refine And.intro (fun q => ?_) (fun q => ?_)
    · rw [c1, nI_le24 (by omega) (by omega)] at q
      omega
    · refine hy_cl (r_f_sureNet (sa N 7 (bbf (F.1 1) (N.1 7) n i)) F S T C R (nI i) s c hF) rfl ?_
      rintro o w1 ⟨x, rfl, hx, rfl⟩
      have hx : x = F.1 1 i := by
        rcases hx with ⟨f, f1, f2, f3⟩ | ⟨f1, -⟩
        · have : i = f := by
            have := congrArg Int32.toInt f2
            rw [zi_nI (by omega), zi_nI (by omega)] at this; omega
          rw [this]; exact f3
        · exact absurd ⟨i, by omega, rfl⟩ f1
      subst hx
      refine hy_cl (r_n_comeBack (sa N 7 (bbf (F.1 1) (N.1 7) n i)) F S T C R (F.1 1 i) n hN) rfl ?_
      rintro o w1 ⟨rfl, hw⟩
      have nx := ih (i + 1) a1 a2
      rw [← nI_s] at nx
      rcases hw with ⟨k, k1, k2, k3, rfl⟩ | ⟨k1, rfl⟩
      · rw [bbf_y hN.2.1 k1 k2 k3] at nx
        exact nx
      · rw [bbf_n k1] at nx
        exact nx
theorem y_bring (s : Nat → Nat) (c n : Nat) (hN : iN N n) (hF : iF F s c) : hy_R 6 mX5_bringBackTheSure 0 0 [hy_r 0] (wW N F S T C R) (fun o w1 => o = none ∧ w1 = wW (sa N 7 (bbf (F.1 1) (N.1 7) n c)) F S T C R) := by
  refine hy_Rv (L := [some (hy_r 0), none]) rfl (by decide) (hy_ple rfl) rfl ?_
  refine hy_go hy_pfA oX5_bringBackTheSure [2] 60 0 0 _ ?_
  have := l_bring N F S T C R (fun o w1 => o = none ∧ w1 = wW (sa N 7 (bbf (F.1 1) (N.1 7) n c)) F S T C R) s c n hN hF ⟨rfl, rfl⟩ c 0 (by omega) (by omega)
  rw [bbf_0] at this
  exact this
/-- what telling a find does to the yard -/
def sp_findY (N F : hyB) (s : Nat → Nat) (c n x : Nat) (y no r : Int32) (N' F' : hyB) : Prop :=
  (c_find y no ∧ sp_tell F s c x r F' ∧ ((r = -1 ∧ N' = N) ∨ (¬ r = -1 ∧ N' = sa N 7 (bbf (F'.1 1) (N.1 7) n (c + 1))))) ∨ (¬ c_find y no ∧ r = -1 ∧ N' = N ∧ F' = F)
set_option maxRecDepth 100000 in
theorem y_find (y no : Int32) (s : Nat → Nat) (c n : Nat) (hN : iN N n) (hF : iF F s c) : hy_R 7 mX5_find 0 0 [hy_r 0, .inl y, .inl no] (wW N F S T C R) (fun o w1 => ∃ r, o = some r ∧ ∃ N' F', sp_findY N F s c n (bitf (fit (N.1 7) (N.1 3) y no) n) y no r N' F' ∧ w1 = wW N' F' S T C R) := by
  have hx : bitf (fit (N.1 7) (N.1 3) y no) n < 2 ^ 24 := Nat.lt_of_lt_of_le (bitf_lt _ _) (Nat.pow_le_pow_right (by omega) hN.2.1)
  refine hy_Ri (L := [some (hy_r 0), some (.inl y), some (.inl no), none]) rfl (by decide) (hy_ple rfl) rfl ?_
  refine hy_go hy_pfA oX5_find [] 60 0 0 _ ?_
  refine And.intro (fun q => ?_) (fun q => And.intro (fun q2 => ?_) (fun q2 => And.intro (fun q3 => ?_) (fun q3 => ?_)))
  · exact hy_fin ⟨N, F, Or.inr ⟨fun h => g_within_0 q h.1, rfl, rfl, rfl⟩, rfl⟩
  · exact hy_fin ⟨N, F, Or.inr ⟨fun h => g_within_0 q2 h.2.1, rfl, rfl, rfl⟩, rfl⟩
  · have hcf : c_find y no := ⟨g_within_n0 q, g_within_n0 q2, q3⟩
    refine hy_cl (r_n_afloat N F S T C R y no n hN) rfl ?_
    rintro o w1 ⟨x, rfl, rfl, rfl⟩
    generalize bitf (fit (N.1 7) (N.1 3) y no) n = x at hx ⊢
    refine hy_cl (r_f_tell N F S T C R s c x hF hx) rfl ?_
    rintro o w1 ⟨r, rfl, F', hF', rfl⟩
    refine And.intro (fun q4 => ?_) (fun q4 => ?_)
    · exact hy_fin ⟨N, F', Or.inl ⟨hcf, hF', Or.inl ⟨q4, rfl⟩⟩, rfl⟩
    · have hI : iF F' (us s c x) (c + 1) := by
        rcases hF' with ⟨h1, h2, h3, g, h4, h5⟩ | ⟨h1, h2, h3, -⟩ | ⟨h1, h2, -⟩
        · obtain ⟨d1, d2, d3, d4⟩ := iF_upd hF hx
          rw [h5]
          exact ⟨rfl, by omega, d3, d4⟩
        · exact absurd h3 q4
        · exact absurd h2 q4
      refine hy_cl (y_bring N F' S T C R (us s c x) (c + 1) n hN hI) rfl ?_
      rintro o w1 ⟨rfl, rfl⟩
      exact hy_fin ⟨_, F', Or.inl ⟨hcf, hF', Or.inr ⟨q4, rfl⟩⟩, rfl⟩
  · exact hy_fin ⟨N, F, Or.inr ⟨fun h => q3 h.2.2, rfl, rfl, rfl⟩, rfl⟩
theorem y_found (a b : Int32) (s : Nat → Nat) (c : Nat) (hF : iF F s c) : hy_R 6 mX5_found 0 0 [hy_r 0, .inl a, .inl b] (wW N F S T C R) (fun o w1 => ∃ x, o = some x ∧ ((b.toInt = 0 ∧ ((∃ f, f < c ∧ a = nI f ∧ x = nI (pcn (s f))) ∨ (¬ ∃ f, f < c ∧ a = nI f) ∧ x = -1)) ∨ (b.toInt = 1 ∧ ((∃ f, f < c ∧ a = nI f ∧ x = F.1 1 f) ∨ (¬ ∃ f, f < c ∧ a = nI f) ∧ x = -1)) ∨ (¬ b.toInt = 0 ∧ ¬ b.toInt = 1 ∧ x = -1)) ∧ w1 = wW N F S T C R) := by
  refine hy_Ri (L := [some (hy_r 0), some (.inl a), some (.inl b)]) rfl (by decide) (hy_ple rfl) rfl ?_
  refine hy_go hy_pfA oX5_found [] 60 0 0 _ ?_
  refine And.intro (fun h0 => ?_) (fun h0 => And.intro (fun h1 => ?_) (fun h1 => ?_))
  · refine hy_cl (r_f_howMany N F S T C R a s c hF) rfl ?_
    rintro o w1 ⟨x, rfl, hx, rfl⟩
    exact hy_fin ⟨Or.inl ⟨h0, hx⟩, rfl⟩
  · refine hy_cl (r_f_sureNet N F S T C R a s c hF) rfl ?_
    rintro o w1 ⟨x, rfl, hx, rfl⟩
    exact hy_fin ⟨Or.inr (Or.inl ⟨h1, hx⟩), rfl⟩
  · exact hy_fin ⟨Or.inr (Or.inr ⟨h0, h1, rfl⟩), rfl⟩
theorem y_netOf (a b : Int32) (s : Nat → Nat) (c n : Nat) (hN : iN N n) (hF : iF F s c) : hy_R 6 mX5_netOf 0 0 [hy_r 0, .inl a, .inl b] (wW N F S T C R) (fun o w1 => ∃ x, o = some x ∧ ((b = 6 ∧ sp_sf (F.1 1) c a x) ∨ (¬ b = 6 ∧ ((∃ k, k < n ∧ a = nI k ∧ x = tlf N.1 b.toInt k) ∨ (¬ ∃ k, k < n ∧ a = nI k) ∧ x = -1))) ∧ w1 = wW N F S T C R) := by
  refine hy_Ri (L := [some (hy_r 0), some (.inl a), some (.inl b)]) rfl (by decide) (hy_ple rfl) rfl ?_
  refine hy_go hy_pfA oX5_netOf [] 60 0 0 _ ?_
  refine And.intro (fun h0 => ?_) (fun h0 => ?_)
  · refine hy_cl (r_f_sureFind N F S T C R a s c hF) rfl ?_
    rintro o w1 ⟨x, rfl, hx, rfl⟩
    exact hy_fin ⟨Or.inl ⟨h0, hx⟩, rfl⟩
  · refine hy_cl (r_n_tellOf N F S T C R a b n hN) rfl ?_
    rintro o w1 ⟨x, rfl, hx, rfl⟩
    exact hy_fin ⟨Or.inr ⟨h0, hx⟩, rfl⟩
theorem y_reading (x y : Int32) (hC : iC C) : hy_R 5 mX5_reading 0 0 [hy_r 0, .inl x, .inl y] (wW N F S T C R) (fun o w1 => ∃ r, o = some r ∧ ∃ lo' hi' cn', sp_reading (C.2 0) (C.2 1) (C.2 2) x y r lo' hi' cn' ∧ w1 = wW N F S T (ss (ss (ss C 0 lo') 1 hi') 2 cn') R) := by
  refine hy_Ri (L := [some (hy_r 0), some (.inl x), some (.inl y)]) rfl (by decide) (hy_ple rfl) rfl ?_
  refine hy_go hy_pfA oX5_reading [] 60 0 0 _ ?_
  refine hy_cl (r_sc_tell N F S T C R x y hC) rfl ?_
  rintro o w1 ⟨x, rfl, hx⟩
  exact hy_fin hx
theorem y_errs (h : Int32) : hy_R 4 mX5_errs 0 0 [hy_r 0, .inl h] (wW N F S T C R) (fun o w1 => ∃ x, o = some x ∧ x = (if h = 0 then C.2 0 else C.2 1) ∧ w1 = wW N F S T C R) := by
  refine hy_Ri (L := [some (hy_r 0), some (.inl h)]) rfl (by decide) (hy_ple rfl) rfl ?_
  refine hy_go hy_pfA oX5_errs [] 60 0 0 _ ?_
  refine hy_cl (r_sc_bound N F S T C R h) rfl ?_
  rintro o w1 ⟨x, rfl, hx⟩
  exact hy_fin hx
theorem y_back (y h : Int32) (hC : iC C) : hy_R 6 mX5_back 0 0 [hy_r 0, .inl y, .inl h] (wW N F S T C R) (fun o w1 => ∃ r, o = some r ∧ sp_back (C.2 0) (C.2 1) y h r ∧ w1 = wW N F S T C R) := by
  refine hy_Ri (L := [some (hy_r 0), some (.inl y), some (.inl h)]) rfl (by decide) (hy_ple rfl) rfl ?_
  refine hy_go hy_pfA oX5_back [] 60 0 0 _ ?_
  refine hy_cl (r_sc_weightFor N F S T C R y h hC) rfl ?_
  rintro o w1 ⟨x, rfl, hx⟩
  exact hy_fin hx
end
