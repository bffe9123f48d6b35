/-! ===== mats to lots ===== -/
def cs (mm : Nat → Nat) (n Y : Nat) : Nat := bitf (fun j => Y.testBit (mm j) = true) n
theorem cs_t {mm : Nat → Nat} {n Y j : Nat} : (cs mm n Y).testBit j = true ↔ j < n ∧ Y.testBit (mm j) = true := by
  unfold cs
  rw [bitf_test, decide_eq_true_eq]
theorem cs_lt (mm : Nat → Nat) (n Y : Nat) : cs mm n Y < 2 ^ n := bitf_lt _ _
theorem zero_sub {P : Nat} (h : sub P 0) : P = 0 := by
  apply Nat.eq_of_testBit_eq
  intro i
  cases hb : P.testBit i with
  | false => simp
  | true => have := h i hb; simp at this
section
variable (l : Nat → Nat) (n : Nat) (rs pr lo mm fm g : Nat → Nat) (F R : Nat)
def okL (P t : Nat) : Prop := ∀ i, i < F → P.testBit (fm i) = true → g i = t
def JF (Y T v : Nat) : Prop := ∃ μ ψ : Nat → Nat, (∀ a, Y.testBit a = true → μ a < T) ∧ (∀ i, i < F → Y.testBit (fm i) = true → g i = μ (fm i)) ∧ (∀ j, j < n → Y.testBit (mm j) = true → ψ j < R ∧ lo (ψ j) = μ (mm j)) ∧ (∀ r, r < R → lo r < T → lnP l n (cs mm n Y) ψ r ≤ rs r) ∧ v = sumf (fun r => if lo r < T ∧ 0 < lnP l n (cs mm n Y) ψ r then pr r else 0) R
theorem JF_0 {Y v : Nat} : JF l n rs pr lo mm fm g F R Y 0 v ↔ Y = 0 ∧ v = 0 := by
  constructor
  · rintro ⟨μ, ψ, h1, -, -, -, h5⟩
    refine ⟨?_, ?_⟩
    · apply Nat.eq_of_testBit_eq
      intro i
      cases h : Y.testBit i with
      | false => simp
      | true => have := h1 i h; omega
    · rw [h5]; exact sumf_zero (fun r _ => if_neg (by omega))
  · rintro ⟨rfl, rfl⟩
    exact ⟨fun _ => 0, fun _ => 0, fun a ha => by simp at ha, fun i _ h => by simp at h, fun j _ h => by simp at h, fun r _ h => by omega, (sumf_zero (fun r _ => if_neg (by omega))).symm⟩
theorem JF_bd {Y T v : Nat} (hp : ∀ r, pr r ≤ 1000) (h : JF l n rs pr lo mm fm g F R Y T v) : v ≤ 1000 * R := by
  obtain ⟨μ, ψ, -, -, -, -, h3⟩ := h
  rw [h3]
  exact sumf_bd (fun r _ => by split; exact hp r; omega)
theorem JF_s {Y T v : Nat} : JF l n rs pr lo mm fm g F R Y (T + 1) v ↔ JF l n rs pr lo mm fm g F R Y T v ∨ ∃ P, 1 ≤ P ∧ sub P Y ∧ okL fm g F P T ∧ ∃ v1 v2, JF l n rs pr lo mm fm g F R (Y ^^^ P) T v1 ∧ PF l n rs pr lo T (cs mm n P) R v2 ∧ v = v1 + v2 := by
  constructor
  · rintro ⟨μ, ψ, h1, h2, h3, h4, h5⟩
    obtain ⟨b, hb⟩ : ∃ b, Y < 2 ^ b := ⟨Y, Nat.lt_two_pow_self⟩
    obtain ⟨P, -, p2⟩ := set_num (fun a => Y.testBit a && decide (μ a = T)) b (fun a ha => by
      rw [Bool.and_eq_true] at ha
      exact tb_lt hb ha.1)
    have hPY : sub P Y := fun i hi => by
      rw [p2, Bool.and_eq_true] at hi
      exact hi.1
    have hPk : ∀ a, P.testBit a = true ↔ Y.testBit a = true ∧ μ a = T := fun a => by
      rw [p2, Bool.and_eq_true, decide_eq_true_eq]
    have hX : ∀ a, (Y ^^^ P).testBit a = true ↔ Y.testBit a = true ∧ μ a ≠ T := fun a => by
      rw [xor_sub hPY, Bool.and_eq_true, Bool.not_eq_true', Bool.eq_false_iff]
      constructor
      · rintro ⟨q1, q2⟩
        exact ⟨q1, fun e => q2 ((hPk a).mpr ⟨q1, e⟩)⟩
      · rintro ⟨q1, q2⟩
        exact ⟨q1, fun e => q2 ((hPk a).mp e).2⟩
    have eA : ∀ r, lo r ≠ T → lnP l n (cs mm n Y) ψ r = lnP l n (cs mm n (Y ^^^ P)) ψ r := fun r hr => sumf_congr (fun j hj => by
      by_cases q : (cs mm n (Y ^^^ P)).testBit j = true ∧ ψ j = r
      · rw [if_pos q, if_pos]
        exact ⟨cs_t.mpr ⟨hj, ((hX _).mp (cs_t.mp q.1).2).1⟩, q.2⟩
      · rw [if_neg q, if_neg]
        rintro ⟨z1, z2⟩
        have z1 := (cs_t.mp z1).2
        refine q ⟨cs_t.mpr ⟨hj, (hX _).mpr ⟨z1, fun e => hr ?_⟩⟩, z2⟩
        rw [← z2, (h3 j hj z1).2, e])
    have eB : ∀ r, lo r = T → lnP l n (cs mm n Y) ψ r = lnP l n (cs mm n P) ψ r := fun r hr => sumf_congr (fun j hj => by
      by_cases q : (cs mm n P).testBit j = true ∧ ψ j = r
      · rw [if_pos q, if_pos]
        exact ⟨cs_t.mpr ⟨hj, ((hPk _).mp (cs_t.mp q.1).2).1⟩, q.2⟩
      · rw [if_neg q, if_neg]
        rintro ⟨z1, z2⟩
        have z1 := (cs_t.mp z1).2
        refine q ⟨cs_t.mpr ⟨hj, (hPk _).mpr ⟨z1, ?_⟩⟩, z2⟩
        rw [← (h3 j hj z1).2, z2, hr])
    by_cases hP : P = 0
    · have hμ : ∀ a, Y.testBit a = true → μ a ≠ T := fun a ha e => by
        have := (hPk a).mpr ⟨ha, e⟩
        rw [hP] at this; simp at this
      have hz : ∀ r, lo r = T → lnP l n (cs mm n Y) ψ r = 0 := fun r hr => by
        rw [eB r hr]
        exact lnP_none l n (fun j hj => by
          have := (cs_t.mp hj).2
          rw [hP] at this; simp at this)
      refine Or.inl ⟨μ, ψ, fun a ha => ?_, h2, h3, fun r hr hlr => h4 r hr (by omega), ?_⟩
      · have := h1 a ha; have := hμ a ha; omega
      · rw [h5]
        refine sumf_congr (fun r hr => ?_)
        by_cases q : lo r < T ∧ 0 < lnP l n (cs mm n Y) ψ r
        · rw [if_pos q, if_pos ⟨by omega, q.2⟩]
        · rw [if_neg q, if_neg]
          rintro ⟨z1, z2⟩
          by_cases e : lo r = T
          · rw [hz r e] at z2; omega
          · exact q ⟨by omega, z2⟩
    · refine Or.inr ⟨P, by omega, hPY, fun i hi hpi => ?_, sumf (fun r => if lo r < T ∧ 0 < lnP l n (cs mm n (Y ^^^ P)) ψ r then pr r else 0) R, sumf (fun r => if lo r = T ∧ 0 < lnP l n (cs mm n P) ψ r then pr r else 0) R, ⟨μ, ψ, fun a ha => ?_, fun i hi h => h2 i hi ((hX _).mp h).1, fun j hj h => h3 j hj ((hX _).mp h).1, fun r hr hlr => ?_, rfl⟩, ⟨ψ, fun j hj => ?_, fun r hr hlr => ?_, rfl⟩, ?_⟩
      · have := (hPk _).mp hpi
        rw [h2 i hi this.1, this.2]
      · have := (hX a).mp ha
        have := h1 a this.1
        omega
      · rw [← eA r (by omega)]; exact h4 r hr (by omega)
      · have hj := cs_t.mp hj
        have hq := (hPk _).mp hj.2
        have := h3 j hj.1 hq.1
        exact ⟨this.1, by rw [this.2, hq.2]⟩
      · rw [← eB r hlr]; exact h4 r hr (by omega)
      · rw [h5, ← sumf_two]
        refine sumf_congr (fun r hr => ?_)
        by_cases e : lo r = T
        · rw [eB r e, if_neg (show ¬ (lo r < T ∧ 0 < lnP l n (cs mm n (Y ^^^ P)) ψ r) by omega), Nat.zero_add]
          by_cases q : 0 < lnP l n (cs mm n P) ψ r
          · rw [if_pos ⟨by omega, q⟩, if_pos ⟨e, q⟩]
          · rw [if_neg (fun z => q z.2), if_neg (fun z => q z.2)]
        · rw [eA r e, if_neg (show ¬ (lo r = T ∧ 0 < lnP l n (cs mm n P) ψ r) from fun z => e z.1), Nat.add_zero]
          by_cases q : lo r < T ∧ 0 < lnP l n (cs mm n (Y ^^^ P)) ψ r
          · rw [if_pos q, if_pos ⟨by omega, q.2⟩]; rfl
          · rw [if_neg q, if_neg (fun z => q ⟨by omega, z.2⟩)]
  · rintro (⟨μ, ψ, h1, h2, h3, h4, h5⟩ | ⟨P, p1, p2, p3, v1, v2, ⟨μ, ψ, h1, h2, h3, h4, rfl⟩, ⟨χ, k1, k2, rfl⟩, rfl⟩)
    · have hz : ∀ r, lo r = T → lnP l n (cs mm n Y) ψ r = 0 := fun r hr => lnP_none l n (fun j hj e => by
        have hj := cs_t.mp hj
        have := h3 j hj.1 hj.2
        have := h1 _ hj.2
        rw [e] at *
        omega)
      refine ⟨μ, ψ, fun a ha => by have := h1 a ha; omega, h2, h3, fun r hr hlr => ?_, ?_⟩
      · by_cases e : lo r = T
        · rw [hz r e]; exact Nat.zero_le _
        · exact h4 r hr (by omega)
      · rw [h5]
        refine sumf_congr (fun r hr => ?_)
        by_cases q : lo r < T ∧ 0 < lnP l n (cs mm n Y) ψ r
        · rw [if_pos q, if_pos ⟨by omega, q.2⟩]
        · rw [if_neg q, if_neg]
          rintro ⟨z1, z2⟩
          by_cases e : lo r = T
          · rw [hz r e] at z2; omega
          · exact q ⟨by omega, z2⟩
    · have hX : ∀ a, (Y ^^^ P).testBit a = true ↔ Y.testBit a = true ∧ ¬ P.testBit a = true := fun a => by
        rw [xor_sub p2, Bool.and_eq_true, Bool.not_eq_true', Bool.eq_false_iff]
      have ePs : ∀ j, P.testBit (mm j) = true → (if P.testBit (mm j) = true then χ j else ψ j) = χ j := fun j h => if_pos h
      have eNs : ∀ j, ¬ P.testBit (mm j) = true → (if P.testBit (mm j) = true then χ j else ψ j) = ψ j := fun j h => if_neg h
      have eA : ∀ r, lo r < T → lnP l n (cs mm n Y) (fun j => if P.testBit (mm j) = true then χ j else ψ j) r = lnP l n (cs mm n (Y ^^^ P)) ψ r := fun r hr => sumf_congr (fun j hj => by
        show (if (cs mm n Y).testBit j = true ∧ (if P.testBit (mm j) = true then χ j else ψ j) = r then l j else 0) = _
        by_cases q : P.testBit (mm j) = true
        · rw [ePs j q, if_neg, if_neg]
          · rintro ⟨z1, -⟩
            exact ((hX _).mp (cs_t.mp z1).2).2 q
          · rintro ⟨-, z2⟩
            have := (k1 j (cs_t.mpr ⟨hj, q⟩)).2
            rw [z2] at this
            omega
        · rw [eNs j q]
          by_cases q2 : (cs mm n Y).testBit j = true ∧ ψ j = r
          · rw [if_pos q2, if_pos ⟨cs_t.mpr ⟨hj, (hX _).mpr ⟨(cs_t.mp q2.1).2, q⟩⟩, q2.2⟩]
          · rw [if_neg q2, if_neg (fun z => q2 ⟨cs_t.mpr ⟨hj, ((hX _).mp (cs_t.mp z.1).2).1⟩, z.2⟩)])
      have eB : ∀ r, lo r = T → lnP l n (cs mm n Y) (fun j => if P.testBit (mm j) = true then χ j else ψ j) r = lnP l n (cs mm n P) χ r := fun r hr => sumf_congr (fun j hj => by
        show (if (cs mm n Y).testBit j = true ∧ (if P.testBit (mm j) = true then χ j else ψ j) = r then l j else 0) = _
        by_cases q : P.testBit (mm j) = true
        · rw [ePs j q]
          by_cases q2 : χ j = r
          · rw [if_pos ⟨cs_t.mpr ⟨hj, p2 _ q⟩, q2⟩, if_pos ⟨cs_t.mpr ⟨hj, q⟩, q2⟩]
          · rw [if_neg (fun z => q2 z.2), if_neg (fun z => q2 z.2)]
        · rw [eNs j q, if_neg, if_neg]
          · rintro ⟨z1, -⟩
            exact q (cs_t.mp z1).2
          · rintro ⟨z1, z2⟩
            have hy := (hX _).mpr ⟨(cs_t.mp z1).2, q⟩
            have a1 := (h3 j hj hy).2
            have a2 := h1 _ hy
            rw [z2] at a1
            omega)
      refine ⟨fun a => if P.testBit a = true then T else μ a, fun j => if P.testBit (mm j) = true then χ j else ψ j, fun a ha => ?_, fun i hi h => ?_, fun j hj h => ?_, fun r hr hlr => ?_, ?_⟩
      · show (if P.testBit a = true then T else μ a) < T + 1
        by_cases q : P.testBit a = true
        · rw [if_pos q]; omega
        · rw [if_neg q]
          have := h1 a ((hX a).mpr ⟨ha, q⟩)
          omega
      · show g i = (if P.testBit (fm i) = true then T else μ (fm i))
        by_cases q : P.testBit (fm i) = true
        · rw [if_pos q]; exact p3 i hi q
        · rw [if_neg q]; exact h2 i hi ((hX _).mpr ⟨h, q⟩)
      · show (if P.testBit (mm j) = true then χ j else ψ j) < R ∧ lo (if P.testBit (mm j) = true then χ j else ψ j) = (if P.testBit (mm j) = true then T else μ (mm j))
        by_cases q : P.testBit (mm j) = true
        · rw [if_pos q, if_pos q]
          exact k1 j (cs_t.mpr ⟨hj, q⟩)
        · rw [if_neg q, if_neg q]
          exact h3 j hj ((hX _).mpr ⟨h, q⟩)
      · by_cases e : lo r = T
        · rw [eB r e]; exact k2 r hr e
        · rw [eA r (by omega)]; exact h4 r hr (by omega)
      · rw [← sumf_two]
        refine sumf_congr (fun r hr => ?_)
        by_cases e : lo r = T
        · rw [eB r e, if_neg (show ¬ (lo r < T ∧ 0 < lnP l n (cs mm n (Y ^^^ P)) ψ r) by omega), Nat.zero_add]
          by_cases q : 0 < lnP l n (cs mm n P) χ r
          · have a1 : lo r < T + 1 ∧ 0 < lnP l n (cs mm n P) χ r := ⟨by omega, q⟩
            rw [if_pos a1, if_pos (show lo r = T ∧ 0 < lnP l n (cs mm n P) χ r from ⟨e, q⟩)]
          · rw [if_neg (fun z => q z.2), if_neg (fun z => q z.2)]
        · by_cases e2 : lo r < T
          · rw [eA r e2, if_neg (show ¬ (lo r = T ∧ 0 < lnP l n (cs mm n P) χ r) from fun z => e z.1), Nat.add_zero]
            by_cases q : 0 < lnP l n (cs mm n (Y ^^^ P)) ψ r
            · rw [if_pos ⟨by omega, q⟩, if_pos ⟨by omega, q⟩]
            · rw [if_neg (fun z => q z.2), if_neg (fun z => q z.2)]
          · rw [if_neg (by omega), if_neg (by omega), if_neg (by omega)]
end
