/-! ===== the scale ===== -/
def rd (w e : Int) : Int := w * (1000 + e) / 1000
theorem zi_mb {a b A B : Int} (h1 : 0 ≤ a) (h2 : a ≤ A) (h3 : 0 ≤ b) (h4 : b ≤ B) : 0 ≤ a * b ∧ a * b ≤ A * B :=
  ⟨Int.mul_nonneg h1 h3, Int.mul_le_mul h2 h4 h3 (Int.le_trans h1 h2)⟩
theorem rd_mono {w e e' : Int} (hw : 0 ≤ w) (h : e ≤ e') : rd w e ≤ rd w e' :=
  Int.ediv_le_ediv (by omega) (Int.mul_le_mul_of_nonneg_left (by omega) hw)
theorem rd_I {x e : Int32} (h1 : 1 ≤ x.toInt) (h2 : x.toInt ≤ 10000) (h3 : -200 ≤ e.toInt) (h4 : e.toInt ≤ 200) : (g_readBy [x, e]).toInt = rd x.toInt e.toInt := by
  have a1 : (1000 + e).toInt = 1000 + e.toInt := by
    rw [zi_add]
    · rfl
    · show -2147483648 ≤ 1000 + e.toInt; omega
    · show 1000 + e.toInt < 2147483648; omega
  have hb := zi_mb (a := x.toInt) (b := 1000 + e.toInt) (A := 10000) (B := 1200) (by omega) h2 (by omega) (by omega)
  have a2 : (x * (1000 + e)).toInt = x.toInt * (1000 + e.toInt) := by
    rw [zi_mul]
    · rw [a1]
    · rw [a1]; omega
    · rw [a1]; omega
  show (x * (1000 + e) / 1000).toInt = _
  rw [zi_div (by rw [a2]; exact hb.1) (by decide), a2]
  rfl
/-- what a scale knows -/
def iC (C : hyB) : Prop := -200 ≤ (C.2 0).toInt ∧ (C.2 0).toInt ≤ (C.2 1).toInt ∧ (C.2 1).toInt ≤ 200 ∧ 0 ≤ (C.2 2).toInt ∧ (C.2 2).toInt ≤ 20
section
variable (N F S T C : hyB) (R : hyW)
theorem r_sc_count : hy_R 3 mX3_count 0 0 [hy_r 29] (wW N F S T C R) (fun o w1 => ∃ x, o = some x ∧ x = C.2 2 ∧ w1 = wW N F S T C R) := by
  refine hy_Ri (L := [some (hy_r 29)]) rfl (by decide) (hy_ple rfl) rfl ?_
  refine hy_go hy_pfA oX3_count [] 60 0 0 _ ?_
  exact hy_fin ⟨rfl, rfl⟩
theorem r_sc_bound (h : Int32) : hy_R 3 mX3_bound 0 0 [hy_r 29, .inl h] (wW N F S T C R) (fun o w1 => ∃ x, o = some x ∧ x = (if h = 0 then C.2 0 else C.2 1) ∧ w1 = wW N F S T C R) := by
  refine hy_Ri (L := [some (hy_r 29), some (.inl h)]) rfl (by decide) (hy_ple rfl) rfl ?_
  refine hy_go hy_pfA oX3_bound [] 60 0 0 _ ?_
  refine And.intro (fun q => ?_) (fun q => ?_)
  · exact hy_fin ⟨(if_pos q).symm, rfl⟩
  · exact hy_fin ⟨(if_neg q).symm, rfl⟩
/-- what a reading does: the least and the greatest error by which it is so, or none -/
def sp_reading (lo hi cn x y : Int32) (r lo' hi' cn' : Int32) : Prop :=
  (((1 ≤ x.toInt ∧ x.toInt ≤ 10000) ∧ (0 ≤ y.toInt ∧ y.toInt ≤ 20000) ∧ cn.toInt < 20) ∧ (∃ e, lo.toInt ≤ e ∧ e ≤ hi.toInt ∧ rd x.toInt e = y.toInt) ∧ r = cn + 1 ∧ cn' = cn + 1 ∧ lo.toInt ≤ lo'.toInt ∧ lo'.toInt ≤ hi'.toInt ∧ hi'.toInt ≤ hi.toInt ∧ rd x.toInt lo'.toInt = y.toInt ∧ rd x.toInt hi'.toInt = y.toInt ∧ ∀ e, lo.toInt ≤ e → e ≤ hi.toInt → rd x.toInt e = y.toInt → lo'.toInt ≤ e ∧ e ≤ hi'.toInt) ∨
  (¬ (((1 ≤ x.toInt ∧ x.toInt ≤ 10000) ∧ (0 ≤ y.toInt ∧ y.toInt ≤ 20000) ∧ cn.toInt < 20) ∧ (∃ e, lo.toInt ≤ e ∧ e ≤ hi.toInt ∧ rd x.toInt e = y.toInt)) ∧ r = -1 ∧ lo' = lo ∧ hi' = hi ∧ cn' = cn)
theorem sp_reading_eq {lo hi cn x y r lo' hi' cn' r2 lo2 hi2 cn2 : Int32} (h : sp_reading lo hi cn x y r lo' hi' cn') (h2 : sp_reading lo hi cn x y r2 lo2 hi2 cn2) : r = r2 ∧ lo' = lo2 ∧ hi' = hi2 ∧ cn' = cn2 := by
  rcases h with ⟨a1, a2, rfl, rfl, a5, a6, a7, a8, a9, a10⟩ | ⟨a1, rfl, rfl, rfl, rfl⟩
  · rcases h2 with ⟨b1, b2, rfl, rfl, b5, b6, b7, b8, b9, b10⟩ | ⟨b1, b2⟩
    · have c1 := a10 lo2.toInt b5 (by omega) b8
      have c2 := b10 lo'.toInt a5 (by omega) a8
      have c3 := a10 hi2.toInt (by omega) b7 b9
      have c4 := b10 hi'.toInt (by omega) a7 a9
      refine ⟨rfl, zi_eq.mpr (by omega), zi_eq.mpr (by omega), rfl⟩
    · exact absurd ⟨a1, a2⟩ b1
  · rcases h2 with ⟨b1, b2, b3⟩ | ⟨b1, rfl, rfl, rfl, rfl⟩
    · exact absurd ⟨b1, b2⟩ a1
    · exact ⟨rfl, rfl, rfl, rfl⟩
theorem g_within_I {v lo hi : Int32} (h : g_within [v, lo, hi] = 0) : ¬ (lo.toInt ≤ v.toInt ∧ v.toInt ≤ hi.toInt) := fun q => g_within_0 h ⟨zi_le.mpr q.1, zi_le.mpr q.2⟩
theorem g_within_nI {v lo hi : Int32} (h : ¬ g_within [v, lo, hi] = 0) : lo.toInt ≤ v.toInt ∧ v.toInt ≤ hi.toInt := ⟨zi_le.mp (g_within_n0 h).1, zi_le.mp (g_within_n0 h).2⟩
theorem l_sc_tell1 (Q : hyQ) (x y : Int32) (hC : iC C) (hx : 1 ≤ x.toInt ∧ x.toInt ≤ 10000)
    (K : ∀ f : Int32, (C.2 0).toInt ≤ f.toInt → f.toInt ≤ (C.2 1).toInt + 1 → (∀ e, (C.2 0).toInt ≤ e → e < f.toInt → rd x.toInt e < y.toInt) → (f.toInt ≤ (C.2 1).toInt → y.toInt ≤ rd x.toInt f.toInt) → hy_X none 4 mX3_tell Q 0 0 (61, [some (hy_r 29), some (.inl x), some (.inl y), some (.inl f), none], [], wW N F S T C R)) :
    ∀ (k : Nat) (f : Int32), ((C.2 1).toInt + 1 - f.toInt).toNat = k → (C.2 0).toInt ≤ f.toInt → f.toInt ≤ (C.2 1).toInt + 1 → (∀ e, (C.2 0).toInt ≤ e → e < f.toInt → rd x.toInt e < y.toInt) → hy_X none 4 mX3_tell Q 0 0 (38, [some (hy_r 29), some (.inl x), some (.inl y), some (.inl f), none], [], wW N F S T C R) := by
  obtain ⟨c1, c2, c3, -⟩ := hC
  intro k
  induction k with
  | zero =>
    intro f hk h1 h2 h3
    refine hy_go hy_pfA oX3_tell [61, 38] 60 0 0 _ ?_
    refine And.intro (fun q => ?_) (fun q => ?_)
    · exact K f h1 h2 h3 (fun h => by omega)
    · exact absurd (zi_lt.mpr (by omega)) q
  | succ k ih =>
    intro f hk h1 h2 h3
    refine hy_go hy_pfA oX3_tell [61, 38] 60 0 0 _ ?_
    refine And.intro (fun q => ?_) (fun q => ?_)
    · have q := zi_lt.mp q
      omega
    · have hr : (g_readBy [x, f]).toInt = rd x.toInt f.toInt := rd_I hx.1 hx.2 (by omega) (by omega)
      refine And.intro (fun q2 => ?_) (fun q2 => ?_)
      · have q2 := zi_le.mp q2
        exact K f h1 h2 h3 (fun _ => by rw [← hr]; exact q2)
      · have q2 : (g_readBy [x, f]).toInt < y.toInt := Int.not_le.mp (fun h => q2 (zi_le.mpr h))
        have e1 : (f + 1).toInt = f.toInt + 1 := zi_add (by show -2147483648 ≤ f.toInt + 1; omega) (by show f.toInt + 1 < 2147483648; omega)
        refine ih (f + 1) (by rw [e1]; omega) (by rw [e1]; omega) (by rw [e1]; omega) (fun e g1 g2 => ?_)
        rw [e1] at g2
        by_cases g3 : e < f.toInt
        · exact h3 e g1 g3
        · have : e = f.toInt := by omega
          rw [this, ← hr]; exact q2
theorem l_sc_tell2 (Q : hyQ) (x y f : Int32) (hC : iC C) (hx : 1 ≤ x.toInt ∧ x.toInt ≤ 10000)
    (K : ∀ g : Int32, (C.2 0).toInt - 1 ≤ g.toInt → g.toInt ≤ (C.2 1).toInt → (∀ e, g.toInt < e → e ≤ (C.2 1).toInt → y.toInt < rd x.toInt e) → ((C.2 0).toInt ≤ g.toInt → rd x.toInt g.toInt ≤ y.toInt) → hy_X none 4 mX3_tell Q 0 0 (92, [some (hy_r 29), some (.inl x), some (.inl y), some (.inl f), some (.inl g)], [], wW N F S T C R)) :
    ∀ (k : Nat) (g : Int32), (g.toInt + 1 - (C.2 0).toInt).toNat = k → (C.2 0).toInt - 1 ≤ g.toInt → g.toInt ≤ (C.2 1).toInt → (∀ e, g.toInt < e → e ≤ (C.2 1).toInt → y.toInt < rd x.toInt e) → hy_X none 4 mX3_tell Q 0 0 (67, [some (hy_r 29), some (.inl x), some (.inl y), some (.inl f), some (.inl g)], [], wW N F S T C R) := by
  obtain ⟨c1, c2, c3, -⟩ := hC
  intro k
  induction k with
  | zero =>
    intro g hk h1 h2 h3
    refine hy_go hy_pfA oX3_tell [92, 67] 60 0 0 _ ?_
    refine And.intro (fun q => ?_) (fun q => ?_)
    · exact K g h1 h2 h3 (fun h => by omega)
    · exact absurd (zi_lt.mpr (by omega)) q
  | succ k ih =>
    intro g hk h1 h2 h3
    refine hy_go hy_pfA oX3_tell [92, 67] 60 0 0 _ ?_
    refine And.intro (fun q => ?_) (fun q => ?_)
    · have q := zi_lt.mp q
      omega
    · have hr : (g_readBy [x, g]).toInt = rd x.toInt g.toInt := rd_I hx.1 hx.2 (by omega) (by omega)
      refine And.intro (fun q2 => ?_) (fun q2 => ?_)
      · have q2 := zi_le.mp q2
        exact K g h1 h2 h3 (fun _ => by rw [← hr]; exact q2)
      · have q2 : y.toInt < (g_readBy [x, g]).toInt := Int.not_le.mp (fun h => q2 (zi_le.mpr h))
        have e1 : (g + (-1)).toInt = g.toInt - 1 := zi_add (by show -2147483648 ≤ g.toInt + (-1); omega) (by show g.toInt + (-1) < 2147483648; omega)
        refine ih (g + (-1)) (by rw [e1]; omega) (by rw [e1]; omega) (by rw [e1]; omega) (fun e g1 g2 => ?_)
        rw [e1] at g1
        by_cases g3 : g.toInt < e
        · exact h3 e g3 g2
        · have : e = g.toInt := by omega
          rw [this, ← hr]; exact q2
set_option maxRecDepth 100000 in
theorem r_sc_tell (x y : Int32) (hC : iC C) : hy_R 4 mX3_tell 0 0 [hy_r 29, .inl x, .inl y] (wW N F S T C R) (fun o w1 => ∃ r, o = some r ∧ ∃ lo' hi' cn', sp_reading (C.2 0) (C.2 1) (C.2 2) x y r lo' hi' cn' ∧ w1 = wW N F S T (ss (ss (ss C 0 lo') 1 hi') 2 cn') R) := by
  refine hy_Ri (L := [some (hy_r 29), some (.inl x), some (.inl y), none, none]) rfl (by decide) (hy_ple rfl) rfl ?_
  refine hy_go hy_pfA oX3_tell [38] 60 0 0 _ ?_
  have hno : ¬ ((1 ≤ x.toInt ∧ x.toInt ≤ 10000) ∧ (0 ≤ y.toInt ∧ y.toInt ≤ 20000) ∧ (C.2 2).toInt < 20) → ∃ r, some (-1 : Int32) = some r ∧ ∃ lo' hi' cn', sp_reading (C.2 0) (C.2 1) (C.2 2) x y r lo' hi' cn' ∧ wW N F S T C R = wW N F S T (ss (ss (ss C 0 lo') 1 hi') 2 cn') R := fun h => ⟨-1, rfl, C.2 0, C.2 1, C.2 2, Or.inr ⟨fun q => h q.1, rfl, rfl, rfl, rfl⟩, rfl⟩
  refine And.intro (fun q => ?_) (fun q => And.intro (fun q2 => ?_) (fun q2 => And.intro (fun q3 => ?_) (fun q3 => ?_)))
  · exact hno (fun h => g_within_I q h.1)
  · exact hno (fun h => g_within_I q2 h.2.1)
  · have hx : 1 ≤ x.toInt ∧ x.toInt ≤ 10000 := g_within_nI q
    have hy : 0 ≤ y.toInt ∧ y.toInt ≤ 20000 := g_within_nI q2
    have hc : (C.2 2).toInt < 20 := zi_lt.mp q3
    obtain ⟨c1, c2, c3, c4, c5⟩ := id hC
    refine l_sc_tell1 N F S T C R _ x y hC hx (fun f f1 f2 f3 f4 => ?_) _ _ rfl (Int.le_refl _) (by omega) (fun e a b => absurd b (by omega))
    refine hy_go hy_pfA oX3_tell [67] 60 0 0 _ ?_
    refine l_sc_tell2 N F S T C R _ x y f hC hx (fun g g1 g2 g3 g4 => ?_) _ _ rfl (by omega) (Int.le_refl _) (fun e a b => absurd b (by omega))
    refine hy_go hy_pfA oX3_tell [] 60 0 0 _ ?_
    refine And.intro (fun p => ?_) (fun p => ?_)
    · have p := zi_le.mp p
      have hf : rd x.toInt f.toInt = y.toInt := by
        have a1 := f4 (by omega)
        have a2 := g4 (by omega)
        have a3 := rd_mono (w := x.toInt) (by omega) p
        omega
      have hg : rd x.toInt g.toInt = y.toInt := by
        have a1 := f4 (by omega)
        have a2 := g4 (by omega)
        have a3 := rd_mono (w := x.toInt) (by omega) p
        omega
      refine Exists.intro _ (And.intro rfl (Exists.intro f (Exists.intro g (Exists.intro (C.2 2 + 1) (And.intro (Or.inl ⟨⟨hx, hy, hc⟩, ⟨f.toInt, f1, by omega, hf⟩, rfl, rfl, f1, p, g2, hf, hg, fun e e1 e2 e3 => ⟨?_, ?_⟩⟩) rfl)))))
      · exact Int.not_lt.mp (fun h => by have := f3 e e1 h; omega)
      · exact Int.not_lt.mp (fun h => by have := g3 e h e2; omega)
    · have p : g.toInt < f.toInt := Int.not_le.mp (fun h => p (zi_le.mpr h))
      refine Exists.intro _ (And.intro rfl (Exists.intro (C.2 0) (Exists.intro (C.2 1) (Exists.intro (C.2 2) (And.intro (Or.inr ⟨fun h => ?_, rfl, rfl, rfl, rfl⟩) rfl)))))
      obtain ⟨-, e, e1, e2, e3⟩ := h
      have a1 : f.toInt ≤ e := Int.not_lt.mp (fun h => by have := f3 e e1 h; omega)
      have a2 : e ≤ g.toInt := Int.not_lt.mp (fun h => by have := g3 e h e2; omega)
      omega
  · exact hno (fun h => q3 (zi_lt.mpr h.2.2))
end
