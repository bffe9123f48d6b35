/-! ===== the scale: back; the reference's scale ===== -/
/-- weights that are read as y by the error e -/
def vw (y w e : Int) : Prop := 1 ≤ w ∧ w ≤ 10000 ∧ rd w e = y
theorem rd_lt {w e y : Int} : rd w e < y ↔ w * (1000 + e) < 1000 * y := by
  unfold rd
  rw [Int.ediv_lt_iff_lt_mul (by omega : (0 : Int) < 1000), Int.mul_comm y 1000]
theorem rd_le {w e y : Int} : rd w e ≤ y ↔ w * (1000 + e) ≤ 1000 * y + 999 := by
  have : rd w e ≤ y ↔ rd w e < y + 1 := by omega
  rw [this, rd_lt]; omega
/-- weights up to b are read as less than y -/
theorem wb_I {y e : Int32} (h1 : 0 ≤ y.toInt) (h2 : y.toInt ≤ 20001) (h3 : -200 ≤ e.toInt) (h4 : e.toInt ≤ 200) : 0 ≤ (g_weightsBelow [y, e]).toInt ∧ (g_weightsBelow [y, e]).toInt ≤ 30000 ∧ ∀ w, 1 ≤ w → (rd w e.toInt < y.toInt ↔ w ≤ (g_weightsBelow [y, e]).toInt) := by
  have a1 : (1000 + e).toInt = 1000 + e.toInt := by
    rw [zi_add]
    · rfl
    · show -2147483648 ≤ 1000 + e.toInt; omega
    · show 1000 + e.toInt < 2147483648; omega
  by_cases hy : y.toInt = 0
  · have : g_weightsBelow [y, e] = 0 := if_pos (Or.inl (zi_le.mpr (by rw [hy]; decide)))
    rw [this]
    refine ⟨by decide, by decide, fun w hw => ?_⟩
    rw [rd_lt, hy]
    have := zi_mb (a := w) (b := 1000 + e.toInt) (A := w) (B := 1200) (by omega) (by omega) (by omega) (by omega)
    show _ ↔ w ≤ 0
    omega
  · have c1 : ¬ (y ≤ 0 ∨ ¬ 0 < 1000 + e) := by
      rintro (q | q)
      · have := zi_le.mp q
        rw [zi_lit0] at this; omega
      · exact q (zi_lt.mpr (by rw [a1, zi_lit0]; omega))
    have : g_weightsBelow [y, e] = (y * 1000 - 1) / (1000 + e) := if_neg c1
    rw [this]
    have a2 : (y * 1000).toInt = y.toInt * 1000 := zi_mul (by show -2147483648 ≤ y.toInt * 1000; omega) (by show y.toInt * 1000 < 2147483648; omega)
    have a3 : (y * 1000 - 1).toInt = y.toInt * 1000 - 1 := by
      rw [zi_sub]
      · rw [a2]; rfl
      · rw [a2]; show -2147483648 ≤ y.toInt * 1000 - 1; omega
      · rw [a2]; show y.toInt * 1000 - 1 < 2147483648; omega
    have a4 : ((y * 1000 - 1) / (1000 + e)).toInt = (y.toInt * 1000 - 1) / (1000 + e.toInt) := by
      rw [zi_div (by rw [a3]; omega) (by rw [a1]; omega), a3, a1]
    rw [a4]
    refine ⟨Int.ediv_nonneg (by omega) (by omega), ?_, fun w hw => ?_⟩
    · have : (y.toInt * 1000 - 1) / (1000 + e.toInt) < 30001 := by
        rw [Int.ediv_lt_iff_lt_mul (by omega)]
        have := zi_mb (a := 30001) (b := 1000 + e.toInt) (A := 30001) (B := 1200) (by omega) (by omega) (by omega) (by omega)
        omega
      omega
    · rw [rd_lt, Int.le_ediv_iff_mul_le (by omega)]; omega
theorem iso_I {x y e : Int32} (h3 : -200 ≤ e.toInt) (h4 : e.toInt ≤ 200) : (g_isReadSo [x, y, e] = 0 → ¬ vw y.toInt x.toInt e.toInt) ∧ (¬ g_isReadSo [x, y, e] = 0 → vw y.toInt x.toInt e.toInt) := by
  constructor
  · intro h q
    have : g_isReadSo [x, y, e] = 1 := if_pos ⟨⟨zi_le.mpr q.1, zi_le.mpr q.2.1⟩, zi_eq.mpr (by rw [rd_I q.1 q.2.1 h3 h4]; exact q.2.2)⟩
    rw [this] at h
    exact absurd h (by decide)
  · intro h
    by_cases q : (1 ≤ x ∧ x ≤ 10000) ∧ g_readBy [x, e] = y
    · have q1 : 1 ≤ x.toInt := zi_le.mp q.1.1
      have q2 : x.toInt ≤ 10000 := zi_le.mp q.1.2
      exact ⟨q1, q2, by rw [← rd_I q1 q2 h3 h4, q.2]⟩
    · exact absurd (if_neg q) h
/-- the best weight over the errors from lo up to e (least for h = 0, else greatest) -/
def bk (h : Int32) (lo y e : Int) (r : Int32) : Prop :=
  (r = -1 ∧ ∀ w e', lo ≤ e' → e' < e → ¬ vw y w e') ∨ (∃ e', lo ≤ e' ∧ e' < e ∧ vw y r.toInt e') ∧ ∀ w e', lo ≤ e' → e' < e → vw y w e' → (h = 0 → r.toInt ≤ w) ∧ (¬ h = 0 → w ≤ r.toInt)
theorem bk_none {h : Int32} {lo y e : Int} {r : Int32} (b : bk h lo y e r) (hn : ∀ w, ¬ vw y w e) : bk h lo y (e + 1) r := by
  have key : ∀ w e', lo ≤ e' → e' < e + 1 → vw y w e' → e' < e := fun w e' a1 a2 a3 => by
    by_cases q : e' < e
    · exact q
    · have : e' = e := by omega
      exact absurd (this ▸ a3) (hn w)
  rcases b with ⟨b1, b2⟩ | ⟨⟨e1, b1, b2, b3⟩, b4⟩
  · exact Or.inl ⟨b1, fun w e' a1 a2 a3 => b2 w e' a1 (key w e' a1 a2 a3) a3⟩
  · exact Or.inr ⟨⟨e1, b1, by omega, b3⟩, fun w e' a1 a2 a3 => b4 w e' a1 (key w e' a1 a2 a3) a3⟩
theorem bk_new {h : Int32} {lo y e : Int} {r c : Int32} (b : bk h lo y e r) (hl : lo ≤ e) (hc : vw y c.toInt e) (hm : ∀ w, vw y w e → (h = 0 → c.toInt ≤ w) ∧ (¬ h = 0 → w ≤ c.toInt)) (hb : r = -1 ∨ ((h = 0 → c.toInt ≤ r.toInt) ∧ (¬ h = 0 → r.toInt ≤ c.toInt))) : bk h lo y (e + 1) c := by
  refine Or.inr ⟨⟨e, hl, by omega, hc⟩, fun w e' a1 a2 a3 => ?_⟩
  by_cases q : e' < e
  · rcases b with ⟨b1, b2⟩ | ⟨⟨e1, b1, b2, b3⟩, b4⟩
    · exact absurd a3 (b2 w e' a1 q)
    · have b5 := b4 w e' a1 q a3
      rcases hb with hb | hb
      · rw [hb] at b3
        have := b3.1
        rw [zi_m1] at this; omega
      · exact ⟨fun h0 => Int.le_trans (hb.1 h0) (b5.1 h0), fun h0 => Int.le_trans (b5.2 h0) (hb.2 h0)⟩
  · have : e' = e := by omega
    exact hm w (this ▸ a3)
theorem bk_old {h : Int32} {lo y e : Int} {r c : Int32} (b : bk h lo y e r) (hr : ¬ r = -1) (hm : ∀ w, vw y w e → (h = 0 → c.toInt ≤ w) ∧ (¬ h = 0 → w ≤ c.toInt)) (hb : (h = 0 → r.toInt ≤ c.toInt) ∧ (¬ h = 0 → c.toInt ≤ r.toInt)) : bk h lo y (e + 1) r := by
  rcases b with ⟨b1, b2⟩ | ⟨⟨e1, b1, b2, b3⟩, b4⟩
  · exact absurd b1 hr
  · refine Or.inr ⟨⟨e1, b1, by omega, b3⟩, fun w e' a1 a2 a3 => ?_⟩
    by_cases q : e' < e
    · exact b4 w e' a1 q a3
    · have : e' = e := by omega
      have b5 := hm w (this ▸ a3)
      exact ⟨fun h0 => Int.le_trans (hb.1 h0) (b5.1 h0), fun h0 => Int.le_trans (b5.2 h0) (hb.2 h0)⟩
theorem bk_pos {h : Int32} {lo y e : Int} {r : Int32} (b : bk h lo y e r) : r = -1 ∨ (1 ≤ r.toInt ∧ r.toInt ≤ 10000) := by
  rcases b with ⟨b1, b2⟩ | ⟨⟨e1, b1, b2, b3⟩, b4⟩
  · exact Or.inl b1
  · exact Or.inr ⟨b3.1, b3.2.1⟩
theorem bk_eq {h : Int32} {lo y e : Int} {r r2 : Int32} (b : bk h lo y e r) (b2 : bk h lo y e r2) : r = r2 := by
  rcases b with ⟨b1, b3⟩ | ⟨⟨e1, b1, b3, b4⟩, b5⟩
  · rcases b2 with ⟨c1, c3⟩ | ⟨⟨e1, c1, c3, c4⟩, c5⟩
    · rw [b1, c1]
    · exact absurd c4 (b3 _ e1 c1 c3)
  · rcases b2 with ⟨c1, c3⟩ | ⟨⟨e2, c1, c3, c4⟩, c5⟩
    · exact absurd b4 (c3 _ e1 b1 b3)
    · have d1 := b5 _ e2 c1 c3 c4
      have d2 := c5 _ e1 b1 b3 b4
      rw [zi_eq]
      by_cases q : h = 0
      · have := d1.1 q; have := d2.1 q; omega
      · have := d1.2 q; have := d2.2 q; omega
/-- what back answers -/
def sp_back (lo hi y h r : Int32) : Prop := (¬ (0 ≤ y.toInt ∧ y.toInt ≤ 20000) ∧ r = -1) ∨ ((0 ≤ y.toInt ∧ y.toInt ≤ 20000) ∧ bk h lo.toInt y.toInt (hi.toInt + 1) r)
theorem sp_back_eq {lo hi y h r r2 : Int32} (a : sp_back lo hi y h r) (b : sp_back lo hi y h r2) : r = r2 := by
  rcases a with ⟨a1, a2⟩ | ⟨a1, a2⟩
  · rcases b with ⟨b1, b2⟩ | ⟨b1, b2⟩
    · rw [a2, b2]
    · exact absurd b1 a1
  · rcases b with ⟨b1, b2⟩ | ⟨b1, b2⟩
    · exact absurd a1 b1
    · exact bk_eq a2 b2
section
variable (N F S T C : hyB) (R : hyW)
theorem l_sc_least (Q : hyQ) (y : Int32) (hC : iC C) (hy : 0 ≤ y.toInt ∧ y.toInt ≤ 20000)
    (K : ∀ r : Int32, bk 0 (C.2 0).toInt y.toInt ((C.2 1).toInt + 1) r → Q (some r) (wW N F S T C R)) :
    ∀ (k : Nat) (r e : Int32) (x : Option hyV), ((C.2 1).toInt + 1 - e.toInt).toNat = k → (C.2 0).toInt ≤ e.toInt → e.toInt ≤ (C.2 1).toInt + 1 → bk 0 (C.2 0).toInt y.toInt e.toInt r → hy_X none 4 mX3_leastWeight Q 0 0 (7, [some (hy_r 29), some (.inl y), some (.inl r), some (.inl e), x], [], wW N F S T C R) := by
  obtain ⟨c1, c2, c3, -⟩ := hC
  intro k
  induction k with
  | zero =>
    intro r e x hk h1 h2 h3
    refine hy_go hy_pfA oX3_leastWeight [7] 60 0 0 _ ?_
    refine And.intro (fun q => ?_) (fun q => ?_)
    · have : e.toInt = (C.2 1).toInt + 1 := by omega
      rw [this] at h3
      exact K r h3
    · exact absurd (zi_lt.mpr (by omega)) q
  | succ k ih =>
    intro r e x hk h1 h2 h3
    refine hy_go hy_pfA oX3_leastWeight [7] 60 0 0 _ ?_
    refine And.intro (fun q => ?_) (fun q => ?_)
    · have q := zi_lt.mp q
      omega
    · obtain ⟨w1, w2, w3⟩ := wb_I (y := y) (e := e) hy.1 (by omega) (by omega) (by omega)
      have e1 : (e + 1).toInt = e.toInt + 1 := zi_add (by show -2147483648 ≤ e.toInt + 1; omega) (by show e.toInt + 1 < 2147483648; omega)
      have e2 : (g_weightsBelow [y, e] + 1).toInt = (g_weightsBelow [y, e]).toInt + 1 := zi_add (by show -2147483648 ≤ (g_weightsBelow [y, e]).toInt + 1; omega) (by show (g_weightsBelow [y, e]).toInt + 1 < 2147483648; omega)
      have hmin : ∀ w, vw y.toInt w e.toInt → (g_weightsBelow [y, e] + 1).toInt ≤ w := fun w hw => by
        have := w3 w hw.1
        have h5 := hw.2.2
        rw [e2]; omega
      have hm : ∀ w, vw y.toInt w e.toInt → ((0 : Int32) = 0 → (g_weightsBelow [y, e] + 1).toInt ≤ w) ∧ (¬ (0 : Int32) = 0 → w ≤ (g_weightsBelow [y, e] + 1).toInt) := fun w hw => ⟨fun _ => hmin w hw, fun h => absurd rfl h⟩
      have nx : ∀ (r' : Int32) (x' : Option hyV), bk 0 (C.2 0).toInt y.toInt (e.toInt + 1) r' → hy_X none 4 mX3_leastWeight Q 0 0 (7, [some (hy_r 29), some (.inl y), some (.inl r'), some (.inl (e + 1)), x'], [], wW N F S T C R) := fun r' x' hb => ih r' (e + 1) x' (by rw [e1]; omega) (by rw [e1]; omega) (by rw [e1]; omega) (by rw [e1]; exact hb)
      refine And.intro (fun q2 => ?_) (fun q2 => ?_)
      · refine nx r _ (bk_none h3 (fun w hw => ?_))
        have hq := (iso_I (x := g_weightsBelow [y, e] + 1) (y := y) (e := e) (by omega) (by omega)).1 q2
        apply hq
        have h4 := hmin w hw
        have h5 : ¬ rd (g_weightsBelow [y, e] + 1).toInt e.toInt < y.toInt := by
          rw [w3 _ (by omega)]; omega
        have h6 : rd (g_weightsBelow [y, e] + 1).toInt e.toInt ≤ rd w e.toInt := Int.ediv_le_ediv (by omega) (Int.mul_le_mul_of_nonneg_right h4 (by omega))
        exact ⟨by omega, by have := hw.2.1; omega, by have := hw.2.2; omega⟩
      · have hv := (iso_I (x := g_weightsBelow [y, e] + 1) (y := y) (e := e) (by omega) (by omega)).2 q2
        refine And.intro (fun q3 => ?_) (fun q3 => And.intro (fun q4 => ?_) (fun q4 => ?_))
        · exact nx _ _ (bk_new h3 h1 hv hm (Or.inl q3))
        · exact nx _ _ (bk_old h3 q3 hm ⟨fun _ => zi_le.mp q4, fun h => absurd rfl h⟩)
        · exact nx _ _ (bk_new h3 h1 hv hm (Or.inr ⟨fun _ => Int.le_of_lt (Int.not_le.mp (fun h => q4 (zi_le.mpr h))), fun h => absurd rfl h⟩))
theorem l_sc_great (Q : hyQ) (y h : Int32) (hh : ¬ h = 0) (hC : iC C) (hy : 0 ≤ y.toInt ∧ y.toInt ≤ 20000)
    (K : ∀ r : Int32, bk h (C.2 0).toInt y.toInt ((C.2 1).toInt + 1) r → Q (some r) (wW N F S T C R)) :
    ∀ (k : Nat) (r e : Int32) (x : Option hyV), ((C.2 1).toInt + 1 - e.toInt).toNat = k → (C.2 0).toInt ≤ e.toInt → e.toInt ≤ (C.2 1).toInt + 1 → bk h (C.2 0).toInt y.toInt e.toInt r → hy_X none 4 mX3_greatestWeight Q 0 0 (7, [some (hy_r 29), some (.inl y), some (.inl r), some (.inl e), x], [], wW N F S T C R) := by
  obtain ⟨c1, c2, c3, -⟩ := hC
  intro k
  induction k with
  | zero =>
    intro r e x hk h1 h2 h3
    refine hy_go hy_pfA oX3_greatestWeight [7] 60 0 0 _ ?_
    refine And.intro (fun q => ?_) (fun q => ?_)
    · have : e.toInt = (C.2 1).toInt + 1 := by omega
      rw [this] at h3
      exact K r h3
    · exact absurd (zi_lt.mpr (by omega)) q
  | succ k ih =>
    intro r e x hk h1 h2 h3
    refine hy_go hy_pfA oX3_greatestWeight [7] 60 0 0 _ ?_
    refine And.intro (fun q => ?_) (fun q => ?_)
    · have q := zi_lt.mp q
      omega
    · have e0 : (y + 1).toInt = y.toInt + 1 := zi_add (by show -2147483648 ≤ y.toInt + 1; omega) (by show y.toInt + 1 < 2147483648; omega)
      obtain ⟨w1, w2, w3⟩ := wb_I (y := y + 1) (e := e) (by omega) (by omega) (by omega) (by omega)
      have e1 : (e + 1).toInt = e.toInt + 1 := zi_add (by show -2147483648 ≤ e.toInt + 1; omega) (by show e.toInt + 1 < 2147483648; omega)
      obtain ⟨c, hc⟩ : ∃ c : Int32, c = (if g_weightsBelow [y + 1, e] < 10000 then g_weightsBelow [y + 1, e] else 10000) := ⟨_, rfl⟩
      have hcI : c.toInt = if (g_weightsBelow [y + 1, e]).toInt < 10000 then (g_weightsBelow [y + 1, e]).toInt else 10000 := by
        rw [hc]
        by_cases q5 : g_weightsBelow [y + 1, e] < 10000
        · have q6 : (g_weightsBelow [y + 1, e]).toInt < 10000 := zi_lt.mp q5
          rw [if_pos q5, if_pos q6]
        · have q6 : ¬ (g_weightsBelow [y + 1, e]).toInt < 10000 := fun h => q5 (zi_lt.mpr h)
          rw [if_neg q5, if_neg q6]; rfl
      have hmax : ∀ w, vw y.toInt w e.toInt → w ≤ c.toInt := fun w hw => by
        have h4 := (w3 w hw.1).mp (by rw [hw.2.2, e0]; omega)
        have h5 := hw.2.1
        rw [hcI]; split <;> omega
      have hm : ∀ w, vw y.toInt w e.toInt → (h = 0 → c.toInt ≤ w) ∧ (¬ h = 0 → w ≤ c.toInt) := fun w hw => ⟨fun h0 => absurd h0 hh, fun _ => hmax w hw⟩
      have nx : ∀ (r' : Int32) (x' : Option hyV), bk h (C.2 0).toInt y.toInt (e.toInt + 1) r' → hy_X none 4 mX3_greatestWeight Q 0 0 (7, [some (hy_r 29), some (.inl y), some (.inl r'), some (.inl (e + 1)), x'], [], wW N F S T C R) := fun r' x' hb => ih r' (e + 1) x' (by rw [e1]; omega) (by rw [e1]; omega) (by rw [e1]; omega) (by rw [e1]; exact hb)
      have hiso := iso_I (x := c) (y := y) (e := e) (by omega) (by omega)
      have g1 : g_isReadSo [c, y, e] = 0 → bk h (C.2 0).toInt y.toInt (e.toInt + 1) r := fun q2 => bk_none h3 (fun w hw => by
        apply hiso.1 q2
        have h4 := hmax w hw
        have h5 : rd c.toInt e.toInt < (y + 1).toInt := (w3 _ (by have := hw.1; omega)).mpr (by rw [hcI]; split <;> omega)
        have h6 : rd w e.toInt ≤ rd c.toInt e.toInt := Int.ediv_le_ediv (by omega) (Int.mul_le_mul_of_nonneg_right h4 (by omega))
        exact ⟨by have := hw.1; omega, by rw [hcI]; split <;> omega, by have := hw.2.2; omega⟩)
      have g2 : ¬ g_isReadSo [c, y, e] = 0 → c ≤ r → bk h (C.2 0).toInt y.toInt (e.toInt + 1) r := fun q2 q3 => by
        have hv := hiso.2 q2
        have q3 := zi_le.mp q3
        refine bk_old h3 (fun q4 => ?_) hm ⟨fun h0 => absurd h0 hh, fun _ => q3⟩
        rw [q4, zi_m1] at q3
        have := hv.1; omega
      have g3 : ¬ g_isReadSo [c, y, e] = 0 → ¬ c ≤ r → bk h (C.2 0).toInt y.toInt (e.toInt + 1) c := fun q2 q3 => bk_new h3 h1 (hiso.2 q2) hm (Or.inr ⟨fun h0 => absurd h0 hh, fun _ => Int.le_of_lt (Int.not_le.mp (fun h => q3 (zi_le.mpr h)))⟩)
      rw [hc] at g1 g2 g3
      refine And.intro (fun q2 => ?_) (fun q2 => And.intro (fun q3 => ?_) (fun q3 => ?_))
      · exact nx r _ (g1 q2)
      · exact nx r _ (g2 q2 q3)
      · exact nx _ _ (g3 q2 q3)
theorem bk_0 {h : Int32} {lo y : Int} : bk h lo y lo (-1) := Or.inl ⟨rfl, fun w e' a1 a2 => absurd a2 (by omega)⟩
theorem r_sc_least (y : Int32) (hC : iC C) (hy : 0 ≤ y.toInt ∧ y.toInt ≤ 20000) : hy_R 4 mX3_leastWeight 0 0 [hy_r 29, .inl y] (wW N F S T C R) (fun o w1 => ∃ r, o = some r ∧ bk 0 (C.2 0).toInt y.toInt ((C.2 1).toInt + 1) r ∧ w1 = wW N F S T C R) := by
  refine hy_Ri (L := [some (hy_r 29), some (.inl y), none, none, none]) rfl (by decide) (hy_ple rfl) rfl ?_
  refine hy_go hy_pfA oX3_leastWeight [7] 60 0 0 _ ?_
  obtain ⟨c1, c2, c3, -⟩ := id hC
  exact l_sc_least N F S T C R _ y hC hy (fun r hr => ⟨r, rfl, hr, rfl⟩) _ (-1) (C.2 0) none rfl (Int.le_refl _) (by omega) bk_0
theorem r_sc_great (y h : Int32) (hh : ¬ h = 0) (hC : iC C) (hy : 0 ≤ y.toInt ∧ y.toInt ≤ 20000) : hy_R 4 mX3_greatestWeight 0 0 [hy_r 29, .inl y] (wW N F S T C R) (fun o w1 => ∃ r, o = some r ∧ bk h (C.2 0).toInt y.toInt ((C.2 1).toInt + 1) r ∧ w1 = wW N F S T C R) := by
  refine hy_Ri (L := [some (hy_r 29), some (.inl y), none, none, none]) rfl (by decide) (hy_ple rfl) rfl ?_
  refine hy_go hy_pfA oX3_greatestWeight [7] 60 0 0 _ ?_
  obtain ⟨c1, c2, c3, -⟩ := id hC
  exact l_sc_great N F S T C R _ y h hh hC hy (fun r hr => ⟨r, rfl, hr, rfl⟩) _ (-1) (C.2 0) none rfl (Int.le_refl _) (by omega) bk_0
theorem r_sc_weightFor (y h : Int32) (hC : iC C) : hy_R 5 mX3_weightFor 0 0 [hy_r 29, .inl y, .inl h] (wW N F S T C R) (fun o w1 => ∃ r, o = some r ∧ sp_back (C.2 0) (C.2 1) y h r ∧ w1 = wW N F S T C R) := by
  refine hy_Ri (L := [some (hy_r 29), some (.inl y), some (.inl h)]) rfl (by decide) (hy_ple rfl) rfl ?_
  refine hy_go hy_pfA oX3_weightFor [] 60 0 0 _ ?_
  refine And.intro (fun q => ?_) (fun q => And.intro (fun q2 => ?_) (fun q2 => ?_))
  · exact hy_fin ⟨Or.inl ⟨g_within_I q, rfl⟩, rfl⟩
  · have hy : 0 ≤ y.toInt ∧ y.toInt ≤ 20000 := g_within_nI q
    refine hy_cl (r_sc_least N F S T C R y hC hy) rfl ?_
    rintro o w1 ⟨r, rfl, hr, rfl⟩
    exact hy_fin ⟨Or.inr ⟨hy, q2 ▸ hr⟩, rfl⟩
  · have hy : 0 ≤ y.toInt ∧ y.toInt ≤ 20000 := g_within_nI q
    refine hy_cl (r_sc_great N F S T C R y h q2 hC hy) rfl ?_
    rintro o w1 ⟨r, rfl, hr, rfl⟩
    exact hy_fin ⟨Or.inr ⟨hy, hr⟩, rfl⟩
end
