/-! ===== the reference's scale ===== -/
def iCM (M : hyB) : Prop := -200 ≤ (M.2 28).toInt ∧ (M.2 28).toInt ≤ (M.2 29).toInt ∧ (M.2 29).toInt ≤ 200 ∧ 0 ≤ (M.2 27).toInt ∧ (M.2 27).toInt ≤ 20
def iv_rd (lo x y e : Int) (a b : Int32) : Prop := (a = 1000000000 ∧ ∀ e', lo ≤ e' → e' < e → rd x e' ≠ y) ∨ (lo ≤ a.toInt ∧ a.toInt ≤ b.toInt ∧ b.toInt < e ∧ rd x a.toInt = y ∧ rd x b.toInt = y ∧ ∀ e', lo ≤ e' → e' < e → rd x e' = y → a.toInt ≤ e' ∧ e' ≤ b.toInt)
section
variable (N F S T C M : hyB)
theorem m_errs (h : Int32) : hy_R 3 mX6_errs 0 0 [hy_r 30, .inl h] (wW N F S T C (wM M)) (fun o w1 => ∃ x, o = some x ∧ x = (if h = 0 then M.2 28 else M.2 29) ∧ w1 = wW N F S T C (wM M)) := by
  refine hy_Ri (L := [some (hy_r 30), some (.inl h)]) rfl (by decide) (hy_ple rfl) rfl ?_
  refine hy_go hy_pfA oX6_errs [] 60 0 0 _ ?_
  refine And.intro (fun q => ?_) (fun q => ?_)
  · exact hy_fin ⟨(if_pos q).symm, rfl⟩
  · exact hy_fin ⟨(if_neg q).symm, rfl⟩
theorem l_m_reading (Q : hyQ) (x y : Int32) (hC : iCM M) (hx : 1 ≤ x.toInt ∧ x.toInt ≤ 10000)
    (K : ∀ a b e : Int32, iv_rd (M.2 28).toInt x.toInt y.toInt ((M.2 29).toInt + 1) a b → hy_X none 4 mX6_reading Q 0 0 (88, [some (hy_r 30), some (.inl x), some (.inl y), some (.inl a), some (.inl b), some (.inl e)], [], wW N F S T C (wM M))) :
    ∀ (k : Nat) (a b e : Int32), ((M.2 29).toInt + 1 - e.toInt).toNat = k → (M.2 28).toInt ≤ e.toInt → e.toInt ≤ (M.2 29).toInt + 1 → iv_rd (M.2 28).toInt x.toInt y.toInt e.toInt a b → hy_X none 4 mX6_reading Q 0 0 (46, [some (hy_r 30), some (.inl x), some (.inl y), some (.inl a), some (.inl b), some (.inl e)], [], wW N F S T C (wM M)) := by
  obtain ⟨c1, c2, c3, -⟩ := hC
  intro k
  induction k with
  | zero =>
    intro a b e hk h1 h2 h3
    refine hy_go hy_pfA oX6_reading [46, 88] 60 0 0 _ ?_
    refine And.intro (fun q => ?_) (fun q => ?_)
    · have : e.toInt = (M.2 29).toInt + 1 := by omega
      rw [this] at h3
      exact K a b e h3
    · exact absurd (zi_lt.mpr (by omega)) q
  | succ k ih =>
    intro a b e hk h1 h2 h3
    refine hy_go hy_pfA oX6_reading [46, 88] 60 0 0 _ ?_
    have e1 : (e + 1).toInt = e.toInt + 1 := zi_add (by show -2147483648 ≤ e.toInt + 1; omega) (by show e.toInt + 1 < 2147483648; omega)
    have hr : (g_readBy [x, e]).toInt = rd x.toInt e.toInt := by
      by_cases q : e.toInt ≤ 200
      · exact rd_I hx.1 hx.2 (by omega) q
      · omega
    have nx : ∀ a' b' : Int32, iv_rd (M.2 28).toInt x.toInt y.toInt (e.toInt + 1) a' b' → hy_X none 4 mX6_reading Q 0 0 (46, [some (hy_r 30), some (.inl x), some (.inl y), some (.inl a'), some (.inl b'), some (.inl (e + 1))], [], wW N F S T C (wM M)) := fun a' b' hb => ih a' b' (e + 1) (by rw [e1]; omega) (by rw [e1]; omega) (by rw [e1]; omega) (by rw [e1]; exact hb)
    have ext : ∀ {e' : Int}, e' < e.toInt + 1 → e' < e.toInt ∨ e' = e.toInt := fun h => by omega
    refine And.intro (fun q => ?_) (fun q => And.intro (fun q2 => ?_) (fun q2 => ?_))
    · have q := zi_lt.mp q
      omega
    · have hy : rd x.toInt e.toInt = y.toInt := by rw [← hr]; exact zi_eq.mp q2
      refine And.intro (fun q3 => ?_) (fun q3 => ?_)
      · refine nx e e (Or.inr ⟨h1, Int.le_refl _, by omega, hy, hy, fun e' g1 g2 g3 => ?_⟩)
        rcases h3 with ⟨p1, p2⟩ | ⟨p1, p2, p3, -⟩
        · rcases ext g2 with g4 | g4
          · exact absurd g3 (p2 e' g1 g4)
          · omega
        · have q3 := zi_eq.mp q3
          have : (1000000000 : Int32).toInt = 1000000000 := rfl
          omega
      · rcases h3 with ⟨p1, p2⟩ | ⟨p1, p2, p3, p4, p5, p6⟩
        · exact absurd p1 q3
        · refine nx a e (Or.inr ⟨p1, by omega, by omega, p4, hy, fun e' g1 g2 g3 => ?_⟩)
          rcases ext g2 with g4 | g4
          · have := p6 e' g1 g4 g3
            omega
          · omega
    · have hy : rd x.toInt e.toInt ≠ y.toInt := fun h => q2 (zi_eq.mpr (by rw [hr]; exact h))
      refine nx a b ?_
      rcases h3 with ⟨p1, p2⟩ | ⟨p1, p2, p3, p4, p5, p6⟩
      · refine Or.inl ⟨p1, fun e' g1 g2 => ?_⟩
        rcases ext g2 with g4 | g4
        · exact p2 e' g1 g4
        · rw [g4]; exact hy
      · refine Or.inr ⟨p1, p2, by omega, p4, p5, fun e' g1 g2 g3 => ?_⟩
        rcases ext g2 with g4 | g4
        · exact p6 e' g1 g4 g3
        · rw [g4] at g3; exact absurd g3 hy
set_option maxRecDepth 100000 in
theorem m_reading (x y : Int32) (hC : iCM M) : hy_R 4 mX6_reading 0 0 [hy_r 30, .inl x, .inl y] (wW N F S T C (wM M)) (fun o w1 => ∃ r, o = some r ∧ ∃ lo' hi' cn', sp_reading (M.2 28) (M.2 29) (M.2 27) x y r lo' hi' cn' ∧ w1 = wW N F S T C (wM (ss (ss (ss M 28 lo') 29 hi') 27 cn'))) := by
  refine hy_Ri (L := [some (hy_r 30), some (.inl x), some (.inl y), none, none, none]) rfl (by decide) (hy_ple rfl) rfl ?_
  refine hy_go hy_pfA oX6_reading [46] 60 0 0 _ ?_
  have hno : ¬ ((1 ≤ x.toInt ∧ x.toInt ≤ 10000) ∧ (0 ≤ y.toInt ∧ y.toInt ≤ 20000) ∧ (M.2 27).toInt < 20) → ∃ r, some (-1 : Int32) = some r ∧ ∃ lo' hi' cn', sp_reading (M.2 28) (M.2 29) (M.2 27) x y r lo' hi' cn' ∧ wW N F S T C (wM M) = wW N F S T C (wM (ss (ss (ss M 28 lo') 29 hi') 27 cn')) := fun h => ⟨-1, rfl, M.2 28, M.2 29, M.2 27, Or.inr ⟨fun q => h q.1, rfl, rfl, rfl, rfl⟩, rfl⟩
  refine And.intro (fun q => ?_) (fun q => And.intro (fun q2 => ?_) (fun q2 => And.intro (fun q3 => ?_) (fun q3 => ?_)))
  · exact hno (fun h => g_within_I q h.1)
  · exact hno (fun h => g_within_I q2 h.2.1)
  · refine hno (fun h => ?_)
    have : (20 : Int32).toInt = 20 := rfl
    have := zi_eq.mp q3
    omega
  · have hx : 1 ≤ x.toInt ∧ x.toInt ≤ 10000 := g_within_nI q
    have hy : 0 ≤ y.toInt ∧ y.toInt ≤ 20000 := g_within_nI q2
    obtain ⟨c1, c2, c3, c4, c5⟩ := id hC
    have hc : (M.2 27).toInt < 20 := by
      have : (20 : Int32).toInt = 20 := rfl
      have : ¬ (M.2 27).toInt = 20 := fun h => q3 (zi_eq.mpr h)
      omega
    refine l_m_reading N F S T C M _ x y hC hx (fun a b e h => ?_) _ _ _ _ rfl (Int.le_refl _) (by omega) (Or.inl ⟨rfl, fun e' g1 g2 => absurd g2 (by omega)⟩)
    refine hy_go hy_pfA oX6_reading [] 60 0 0 _ ?_
    refine And.intro (fun p => ?_) (fun p => ?_)
    · refine Exists.intro _ (And.intro rfl (Exists.intro (M.2 28) (Exists.intro (M.2 29) (Exists.intro (M.2 27) (And.intro (Or.inr ⟨fun h5 => ?_, rfl, rfl, rfl, rfl⟩) rfl)))))
      obtain ⟨-, e, e1, e2, e3⟩ := h5
      rcases h with ⟨p1, p2⟩ | ⟨p1, p2, p3, -⟩
      · exact p2 e e1 (by omega) e3
      · have : (1000000000 : Int32).toInt = 1000000000 := rfl
        have := zi_eq.mp p
        omega
    · rcases h with ⟨p1, p2⟩ | ⟨p1, p2, p3, p4, p5, p6⟩
      · exact absurd p1 p
      · refine Exists.intro _ (And.intro rfl (Exists.intro a (Exists.intro b (Exists.intro (M.2 27 + 1) (And.intro (Or.inl ⟨⟨hx, hy, hc⟩, ⟨a.toInt, p1, by omega, p4⟩, rfl, rfl, p1, p2, by omega, p4, p5, fun e e1 e2 e3 => p6 e e1 (by omega) e3⟩) rfl)))))
theorem m_one {y e : Int32} (h1 : 0 ≤ y.toInt) (h2 : y.toInt ≤ 20000) (h3 : -200 ≤ e.toInt) (h4 : e.toInt ≤ 200) : ¬ (1000 + e) = 0 ∧ 0 ≤ ((1000 * y + 999 + e) / (1000 + e)).toInt ∧ ((1000 * y + 999 + e) / (1000 + e)).toInt ≤ 30000 ∧ (∀ w, 1 ≤ w → (y.toInt ≤ rd w e.toInt ↔ ((1000 * y + 999 + e) / (1000 + e)).toInt ≤ w)) ∧ 0 ≤ ((1000 * y + 999) / (1000 + e)).toInt ∧ ((1000 * y + 999) / (1000 + e)).toInt ≤ 30000 ∧ (∀ w, 1 ≤ w → (rd w e.toInt ≤ y.toInt ↔ w ≤ ((1000 * y + 999) / (1000 + e)).toInt)) := by
  have a1 : (1000 + e).toInt = 1000 + e.toInt := by
    rw [zi_add]
    · rfl
    · show -2147483648 ≤ 1000 + e.toInt; omega
    · show 1000 + e.toInt < 2147483648; omega
  have a2 : (1000 * y).toInt = 1000 * y.toInt := zi_mul (by show -2147483648 ≤ 1000 * y.toInt; omega) (by show 1000 * y.toInt < 2147483648; omega)
  have a3 : (1000 * y + 999).toInt = 1000 * y.toInt + 999 := by
    rw [zi_add]
    · rw [a2]; rfl
    · rw [a2]; show -2147483648 ≤ 1000 * y.toInt + 999; omega
    · rw [a2]; show 1000 * y.toInt + 999 < 2147483648; omega
  have a4 : (1000 * y + 999 + e).toInt = 1000 * y.toInt + 999 + e.toInt := by
    rw [zi_add]
    · rw [a3]
    · rw [a3]; omega
    · rw [a3]; omega
  have a5 : ((1000 * y + 999 + e) / (1000 + e)).toInt = (1000 * y.toInt + 999 + e.toInt) / (1000 + e.toInt) := by
    rw [zi_div (by rw [a4]; omega) (by rw [a1]; omega), a4, a1]
  have a6 : ((1000 * y + 999) / (1000 + e)).toInt = (1000 * y.toInt + 999) / (1000 + e.toInt) := by
    rw [zi_div (by rw [a3]; omega) (by rw [a1]; omega), a3, a1]
  have b1 := zi_mb (a := 30001) (b := 1000 + e.toInt) (A := 30001) (B := 1200) (by omega) (by omega) (by omega) (by omega)
  have b2 : 30001 * 800 ≤ 30001 * (1000 + e.toInt) := by omega
  rw [a5, a6]
  refine ⟨fun h => ?_, Int.ediv_nonneg (by omega) (by omega), ?_, fun w hw => ?_, Int.ediv_nonneg (by omega) (by omega), ?_, fun w hw => ?_⟩
  · have := zi_eq.mp h
    rw [a1, zi_lit0] at this; omega
  · have : (1000 * y.toInt + 999 + e.toInt) / (1000 + e.toInt) < 30001 := by
      rw [Int.ediv_lt_iff_lt_mul (by omega)]; omega
    omega
  · have h5 : y.toInt ≤ rd w e.toInt ↔ ¬ w * (1000 + e.toInt) < 1000 * y.toInt := by rw [← rd_lt]; omega
    have h6 : (1000 * y.toInt + 999 + e.toInt) / (1000 + e.toInt) ≤ w ↔ (1000 * y.toInt + 999 + e.toInt) / (1000 + e.toInt) < w + 1 := by omega
    rw [h5, h6, Int.ediv_lt_iff_lt_mul (by omega), Int.add_mul]
    omega
  · have : (1000 * y.toInt + 999) / (1000 + e.toInt) < 30001 := by
      rw [Int.ediv_lt_iff_lt_mul (by omega)]; omega
    omega
  · rw [rd_le, Int.le_ediv_iff_mul_le (by omega)]
theorem l_m_back (Q : hyQ) (y h : Int32) (hC : iCM M) (hy : 0 ≤ y.toInt ∧ y.toInt ≤ 20000)
    (K : ∀ r : Int32, bk h (M.2 28).toInt y.toInt ((M.2 29).toInt + 1) r → Q (some r) (wW N F S T C (wM M))) :
    ∀ (k : Nat) (r e : Int32) (x1 x2 : Option hyV), ((M.2 29).toInt + 1 - e.toInt).toNat = k → (M.2 28).toInt ≤ e.toInt → e.toInt ≤ (M.2 29).toInt + 1 → bk h (M.2 28).toInt y.toInt e.toInt r → hy_X none 4 mX6_back Q 0 0 (21, [some (hy_r 30), some (.inl y), some (.inl h), some (.inl r), some (.inl e), x1, x2], [], wW N F S T C (wM M)) := by
  obtain ⟨c1, c2, c3, -⟩ := hC
  intro k
  induction k with
  | zero =>
    intro r e x1 x2 hk h1 h2 h3
    refine hy_go hy_pfA oX6_back [21] 60 0 0 _ ?_
    refine And.intro (fun q => ?_) (fun q => ?_)
    · have : e.toInt = (M.2 29).toInt + 1 := by omega
      rw [this] at h3
      exact K r h3
    · exact absurd (zi_lt.mpr (by omega)) q
  | succ k ih =>
    intro r e x1 x2 hk h1 h2 h3
    refine hy_go hy_pfA oX6_back [21, 101] 60 0 0 _ ?_
    refine And.intro (fun q => ?_) (fun q => ?_)
    · have q := zi_lt.mp q
      omega
    · have e1 : (e + 1).toInt = e.toInt + 1 := zi_add (by show -2147483648 ≤ e.toInt + 1; omega) (by show e.toInt + 1 < 2147483648; omega)
      obtain ⟨o0, o1, o2, o3, o4, o5, o6⟩ := m_one (y := y) (e := e) hy.1 hy.2 (by omega) (by omega)
      have nx : ∀ (r' : Int32) (x' x'' : Option hyV), bk h (M.2 28).toInt y.toInt (e.toInt + 1) r' → hy_X none 4 mX6_back Q 0 0 (21, [some (hy_r 30), some (.inl y), some (.inl h), some (.inl r'), some (.inl (e + 1)), x', x''], [], wW N F S T C (wM M)) := fun r' x' x'' hb => ih r' (e + 1) x' x'' (by rw [e1]; omega) (by rw [e1]; omega) (by rw [e1]; omega) (by rw [e1]; exact hb)
      have key : ∀ a b : Int32, a.toInt = (if ((1000 * y + 999 + e) / (1000 + e)).toInt < 1 then 1 else ((1000 * y + 999 + e) / (1000 + e)).toInt) → b.toInt = (if 10000 < ((1000 * y + 999) / (1000 + e)).toInt then 10000 else ((1000 * y + 999) / (1000 + e)).toInt) → hy_X none 4 mX6_back Q 0 0 (101, [some (hy_r 30), some (.inl y), some (.inl h), some (.inl r), some (.inl e), some (.inl a), some (.inl b)], [], wW N F S T C (wM M)) := by
        intro a b ha hb
        have hv : ∀ w, vw y.toInt w e.toInt ↔ a.toInt ≤ w ∧ w ≤ b.toInt := fun w => by
          constructor
          · rintro ⟨p1, p2, p3⟩
            have p4 := (o3 w p1).mp (by omega)
            have p5 := (o6 w p1).mp (by omega)
            constructor
            · rw [ha]; split <;> omega
            · rw [hb]; split <;> omega
          · rintro ⟨p1, p2⟩
            rw [ha] at p1
            rw [hb] at p2
            have g1 : 1 ≤ w := by split at p1 <;> omega
            have g2 : w ≤ 10000 := by split at p2 <;> omega
            have g3 := (o3 w g1).mpr (by split at p1 <;> omega)
            have g4 := (o6 w g1).mpr (by split at p2 <;> omega)
            exact ⟨g1, g2, by omega⟩
        have hma : h = 0 → ∀ w, vw y.toInt w e.toInt → (h = 0 → a.toInt ≤ w) ∧ (¬ h = 0 → w ≤ a.toInt) := fun h0 w hw => ⟨fun _ => ((hv w).mp hw).1, fun h5 => absurd h0 h5⟩
        have hmb : ¬ h = 0 → ∀ w, vw y.toInt w e.toInt → (h = 0 → b.toInt ≤ w) ∧ (¬ h = 0 → w ≤ b.toInt) := fun h0 w hw => ⟨fun h5 => absurd h5 h0, fun _ => ((hv w).mp hw).2⟩
        refine hy_go hy_pfA oX6_back [21] 60 0 0 _ ?_
        refine And.intro (fun q2 => ?_) (fun q2 => ?_)
        · have q2 := zi_lt.mp q2
          exact nx r _ _ (bk_none h3 (fun w hw => by have := (hv w).mp hw; omega))
        · have q2 : a.toInt ≤ b.toInt := Int.not_lt.mp (fun h => q2 (zi_lt.mpr h))
          have hva := (hv a.toInt).mpr ⟨Int.le_refl _, q2⟩
          have hvb := (hv b.toInt).mpr ⟨q2, Int.le_refl _⟩
          refine And.intro (fun q3 => ?_) (fun q3 => ?_)
          · have q3 : r = -1 := by
              have q3 := zi_lt.mp q3
              rw [zi_lit0] at q3
              rcases bk_pos h3 with p | p
              · exact p
              · omega
            refine And.intro (fun q4 => ?_) (fun q4 => ?_)
            · exact nx a _ _ (bk_new h3 h1 hva (hma q4) (Or.inl q3))
            · exact nx b _ _ (bk_new h3 h1 hvb (hmb q4) (Or.inl q3))
          · have q3 : ¬ r = -1 := fun p => q3 (by rw [p]; decide)
            refine And.intro (fun q4 => And.intro (fun q5 => ?_) (fun q5 => And.intro (fun q6 => ?_) (fun q6 => absurd q4 q6))) (fun q4 => And.intro (fun q5 => ?_) (fun q5 => And.intro (fun q6 => absurd q6 q4) (fun q6 => ?_)))
            · exact nx r _ _ (bk_old h3 q3 (hma q4) ⟨fun _ => zi_le.mp q5, fun h5 => absurd q4 h5⟩)
            · exact nx a _ _ (bk_new h3 h1 hva (hma q4) (Or.inr ⟨fun _ => Int.le_of_lt (Int.not_le.mp (fun h => q5 (zi_le.mpr h))), fun h5 => absurd q4 h5⟩))
            · exact nx r _ _ (bk_old h3 q3 (hmb q4) ⟨fun h5 => absurd h5 q4, fun _ => zi_le.mp q5⟩)
            · exact nx b _ _ (bk_new h3 h1 hvb (hmb q4) (Or.inr ⟨fun h5 => absurd h5 q4, fun _ => Int.le_of_lt (Int.not_le.mp (fun h => q5 (zi_le.mpr h)))⟩))
      refine And.intro o0 (And.intro o0 ?_)
      refine And.intro (fun p1 => And.intro (fun p2 => key _ _ ?_ ?_) (fun p2 => key _ _ ?_ ?_)) (fun p1 => And.intro (fun p2 => key _ _ ?_ ?_) (fun p2 => key _ _ ?_ ?_))
      all_goals (first | (have p1 : (1 : Int) ≤ ((1000 * y + 999 + e) / (1000 + e)).toInt := zi_le.mp p1; rw [if_neg (by omega)]; done) | (have p1 : ¬ (1 : Int) ≤ ((1000 * y + 999 + e) / (1000 + e)).toInt := (fun h => p1 (zi_le.mpr h)); rw [if_pos (by omega)]; rfl; done) | (have p2 : ((1000 * y + 999) / (1000 + e)).toInt ≤ 10000 := zi_le.mp p2; rw [if_neg (by omega)]; done) | (have p2 : ¬ ((1000 * y + 999) / (1000 + e)).toInt ≤ 10000 := (fun h => p2 (zi_le.mpr h)); rw [if_pos (by omega)]; rfl; done))
theorem m_back (y h : Int32) (hC : iCM M) : hy_R 4 mX6_back 0 0 [hy_r 30, .inl y, .inl h] (wW N F S T C (wM M)) (fun o w1 => ∃ r, o = some r ∧ sp_back (M.2 28) (M.2 29) y h r ∧ w1 = wW N F S T C (wM M)) := by
  refine hy_Ri (L := [some (hy_r 30), some (.inl y), some (.inl h), none, none, none, none]) rfl (by decide) (hy_ple rfl) rfl ?_
  refine hy_go hy_pfA oX6_back [21] 60 0 0 _ ?_
  refine And.intro (fun q => ?_) (fun q => ?_)
  · exact hy_fin ⟨Or.inl ⟨g_within_I q, rfl⟩, rfl⟩
  · have hy : 0 ≤ y.toInt ∧ y.toInt ≤ 20000 := g_within_nI q
    obtain ⟨c1, c2, c3, -⟩ := id hC
    exact l_m_back N F S T C M _ y h hC hy (fun r hr => ⟨r, rfl, Or.inr ⟨hy, hr⟩, rfl⟩) _ (-1) (M.2 28) none none rfl (Int.le_refl _) (by omega) bk_0
end
