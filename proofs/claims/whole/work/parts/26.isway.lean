/-! ===== the reference's ways: net by net, over sets of finds ===== -/
def cst (fd nt : Int32) (f n : Nat) : Prop := ¬ nI f = fd ∨ nI n = nt
/-- the finds of X led to different nets below m -/
def mt (s : Nat → Nat) (fd nt : Int32) (m X : Nat) : Prop := ∃ φ : Nat → Nat, (∀ f, X.testBit f = true → φ f < m ∧ (s f).testBit (φ f) = true ∧ cst fd nt f (φ f)) ∧ ∀ f g, X.testBit f = true → X.testBit g = true → φ f = φ g → f = g
def xo (Y f : Nat) : Nat := Y ^^^ 2 ^ f
theorem xo_bit (Y f g : Nat) : (xo Y f).testBit g = (Y.testBit g ^^ decide (f = g)) := by
  unfold xo; rw [Nat.testBit_xor, Nat.testBit_two_pow]
theorem xo_ne {Y f g : Nat} (h : g ≠ f) : (xo Y f).testBit g = Y.testBit g := by
  rw [xo_bit, decide_eq_false (fun e => h e.symm), Bool.xor_false]
theorem xo_lt {Y f : Nat} (h : Y.testBit f = true) : xo Y f < Y := by
  have hq : Y / 2 ^ f % 2 = 1 := by
    have := Nat.toNat_testBit Y f
    rw [h] at this
    exact this.symm
  have hp : 0 < 2 ^ f := Nat.pow_pos (by omega)
  have hr : Y % 2 ^ f < 2 ^ f := Nat.mod_lt _ hp
  have hY : 2 ^ f * (Y / 2 ^ f) + Y % 2 ^ f = Y := Nat.div_add_mod _ _
  generalize Y % 2 ^ f = r at hr hY
  generalize Y / 2 ^ f = a at hq hY
  obtain ⟨q, rfl⟩ : ∃ q, a = 2 * q + 1 := ⟨a / 2, by omega⟩
  have e : xo Y f = 2 ^ f * (2 * q) + r := by
    apply Nat.eq_of_testBit_eq
    intro j
    rw [xo_bit, ← hY, Nat.testBit_two_pow_mul_add _ hr, Nat.testBit_two_pow_mul_add _ hr]
    by_cases h1 : j < f
    · have : ¬ f = j := by omega
      simp [h1, this]
    · rw [if_neg h1, if_neg h1]
      by_cases h2 : j = f
      · subst h2
        simp
      · obtain ⟨i, hi⟩ : ∃ i, j - f = i + 1 := ⟨j - f - 1, by omega⟩
        have h3 : ¬ f = j := by omega
        rw [hi, Nat.testBit_succ, Nat.testBit_succ, decide_eq_false h3, Bool.xor_false]
        congr 1
        omega
  rw [e, ← hY, Nat.mul_add, Nat.mul_one]
  omega
theorem xo_or {k f : Nat} (h : k.testBit f = false) : (k ||| 2 ^ f).testBit f = true ∧ xo (k ||| 2 ^ f) f = k := by
  constructor
  · rw [Nat.testBit_or, Nat.testBit_two_pow]; simp
  · apply Nat.eq_of_testBit_eq
    intro j
    rw [xo_bit, Nat.testBit_or, Nat.testBit_two_pow]
    by_cases e : f = j
    · subst e; rw [h]; simp
    · simp [e]
theorem xo_back {Y k f : Nat} (h : Y.testBit f = true) (h2 : xo Y f = k) : Y = k ||| 2 ^ f ∧ k.testBit f = false := by
  subst h2
  constructor
  · apply Nat.eq_of_testBit_eq
    intro j
    rw [Nat.testBit_or, xo_bit, Nat.testBit_two_pow]
    by_cases e : f = j
    · subst e; rw [h]; simp
    · simp [e]
  · rw [xo_bit, h]; simp
theorem mt_0 {s : Nat → Nat} {fd nt : Int32} {X : Nat} : mt s fd nt 0 X ↔ X = 0 := by
  constructor
  · rintro ⟨φ, h1, -⟩
    apply Nat.eq_of_testBit_eq
    intro j
    cases hx : X.testBit j with
    | false => simp
    | true => have := (h1 j hx).1; omega
  · rintro rfl
    exact ⟨fun _ => 0, fun f hf => by simp at hf, fun f g hf => by simp at hf⟩
theorem mt_s {s : Nat → Nat} {fd nt : Int32} {m X : Nat} : mt s fd nt (m + 1) X ↔ mt s fd nt m X ∨ ∃ f, X.testBit f = true ∧ (s f).testBit m = true ∧ cst fd nt f m ∧ mt s fd nt m (xo X f) := by
  constructor
  · rintro ⟨φ, h1, h2⟩
    by_cases h : ∃ f, X.testBit f = true ∧ φ f = m
    · obtain ⟨f, f1, f2⟩ := h
      obtain ⟨a1, a2, a3⟩ := h1 f f1
      rw [f2] at a2 a3
      refine Or.inr ⟨f, f1, a2, a3, φ, fun g hg => ?_, fun g g' hg hg' => ?_⟩
      · have e : g ≠ f := fun e => by rw [e, xo_bit, f1] at hg; simp at hg
        rw [xo_ne e] at hg
        obtain ⟨b1, b2⟩ := h1 g hg
        refine ⟨?_, b2⟩
        have : φ g ≠ m := fun q => e (h2 g f hg f1 (q.trans f2.symm))
        omega
      · have e : g ≠ f := fun e => by rw [e, xo_bit, f1] at hg; simp at hg
        have e' : g' ≠ f := fun e => by rw [e, xo_bit, f1] at hg'; simp at hg'
        rw [xo_ne e] at hg
        rw [xo_ne e'] at hg'
        exact h2 g g' hg hg'
    · refine Or.inl ⟨φ, fun f hf => ?_, h2⟩
      obtain ⟨b1, b2⟩ := h1 f hf
      exact ⟨by have : φ f ≠ m := (fun q => h ⟨f, hf, q⟩); omega, b2⟩
  · rintro (⟨φ, h1, h2⟩ | ⟨f, f1, f2, f3, φ, h1, h2⟩)
    · exact ⟨φ, fun f hf => ⟨by have := (h1 f hf).1; omega, (h1 f hf).2⟩, h2⟩
    · refine ⟨fun g => if g = f then m else φ g, fun g hg => ?_, fun g g' hg hg' he => ?_⟩
      · dsimp only
        by_cases e : g = f
        · rw [if_pos e, e]; exact ⟨by omega, f2, f3⟩
        · rw [if_neg e]
          obtain ⟨b1, b2⟩ := h1 g (by rw [xo_ne e]; exact hg)
          exact ⟨by omega, b2⟩
      · dsimp only at he
        by_cases e : g = f
        · by_cases e' : g' = f
          · rw [e, e']
          · rw [if_pos e, if_neg e'] at he
            have := (h1 g' (by rw [xo_ne e']; exact hg')).1
            omega
        · by_cases e' : g' = f
          · rw [if_neg e, if_pos e'] at he
            have := (h1 g (by rw [xo_ne e]; exact hg)).1
            omega
          · rw [if_neg e, if_neg e'] at he
            exact h2 g g' (by rw [xo_ne e]; exact hg) (by rw [xo_ne e']; exact hg') he
theorem ones_bit {c k : Nat} : (2 ^ c - 1).testBit k = decide (k < c) := Nat.testBit_two_pow_sub_one c k
theorem mt_way {s : Nat → Nat} {c n : Nat} (hs : ∀ f, f < c → s f < 2 ^ n) : mt s (-1) (-1) n (2 ^ c - 1) ∧ c ≤ 8 ↔ (∃ φ, way s c φ) ∧ c ≤ 8 := by
  constructor
  · rintro ⟨⟨φ, h1, h2⟩, hc⟩
    exact ⟨⟨φ, fun f hf => (h1 f (by rw [ones_bit]; simpa using hf)).2.1, fun f g hf hg => h2 f g (by rw [ones_bit]; simpa using hf) (by rw [ones_bit]; simpa using hg)⟩, hc⟩
  · rintro ⟨⟨φ, h1, h2⟩, hc⟩
    refine ⟨⟨φ, fun f hf => ?_, fun f g hf hg => ?_⟩, hc⟩
    · rw [ones_bit] at hf
      have hf : f < c := by simpa using hf
      refine ⟨tb_lt (hs f hf) (h1 f hf), h1 f hf, Or.inl (fun e => ?_)⟩
      rw [zi_eq, zi_nI (by omega), zi_m1] at e; omega
    · rw [ones_bit] at hf hg
      exact h2 f g (by simpa using hf) (by simpa using hg)
theorem mt_way2 {s : Nat → Nat} {c n f k : Nat} (hs : ∀ f, f < c → s f < 2 ^ n) (hc : c ≤ 8) (hn : n ≤ 24) (hf : f < c) (hk : k < n) : mt s (nI f) (nI k) n (2 ^ c - 1) ↔ ∃ φ, way s c φ ∧ φ f = k := by
  constructor
  · rintro ⟨φ, h1, h2⟩
    have hb : ∀ g, g < c → (2 ^ c - 1).testBit g = true := fun g hg => by rw [ones_bit]; simpa using hg
    refine ⟨φ, ⟨fun g hg => (h1 g (hb g hg)).2.1, fun g h hg hh => h2 g h (hb g hg) (hb h hh)⟩, ?_⟩
    obtain ⟨a1, -, a3⟩ := h1 f (hb f hf)
    rcases a3 with a3 | a3
    · exact absurd rfl a3
    · rw [zi_eq, zi_nI (by omega), zi_nI (by omega)] at a3; omega
  · rintro ⟨φ, ⟨h1, h2⟩, h3⟩
    refine ⟨φ, fun g hg => ?_, fun g h hg hh => ?_⟩
    · rw [ones_bit] at hg
      have hg : g < c := by simpa using hg
      refine ⟨tb_lt (hs g hg) (h1 g hg), h1 g hg, ?_⟩
      by_cases e : g = f
      · rw [e, h3]; exact Or.inr rfl
      · refine Or.inl (fun q => e ?_)
        rw [zi_eq, zi_nI (by omega), zi_nI (by omega)] at q; omega
    · rw [ones_bit] at hg hh
      exact h2 g h (by simpa using hg) (by simpa using hh)
/-- a row of booleans that holds P -/
def cnP (P : Nat → Prop) (c : Nat) (a : Nat → Int32) : Prop := ∀ X, X < 2 ^ c → (a X = 1 ∧ P X) ∨ (a X = 0 ∧ ¬ P X)
theorem cnP_iff {P P' : Nat → Prop} {c : Nat} {a : Nat → Int32} (h : ∀ X, X < 2 ^ c → (P X ↔ P' X)) (hp : cnP P c a) : cnP P' c a := fun X hX => by
  rcases hp X hX with ⟨h1, h2⟩ | ⟨h1, h2⟩
  · exact Or.inl ⟨h1, (h X hX).mp h2⟩
  · exact Or.inr ⟨h1, fun q => h2 ((h X hX).mpr q)⟩
theorem cnP_upd {P P' : Nat → Prop} {c k : Nat} {a : Nat → Int32} (h : ∀ X, X < 2 ^ c → X ≠ k → (P X ↔ P' X)) (hk : P' k) (hp : cnP P c a) : cnP P' c (upd a k (vp_nar .boolean 1)) := fun X hX => by
  unfold upd
  by_cases e : X = k
  · rw [if_pos e, e]; exact Or.inl ⟨by decide, hk⟩
  · rw [if_neg e]
    rcases hp X hX with ⟨h1, h2⟩ | ⟨h1, h2⟩
    · exact Or.inl ⟨h1, (h X hX e).mp h2⟩
    · exact Or.inr ⟨h1, fun q => h2 ((h X hX e).mpr q)⟩
/-- while a net is looked at: sets from t on are through -/
def bs (s : Nat → Nat) (fd nt : Int32) (m t Y : Nat) : Prop := mt s fd nt m Y ∨ ∃ f, Y.testBit f = true ∧ (s f).testBit m = true ∧ cst fd nt f m ∧ mt s fd nt m (xo Y f) ∧ t ≤ xo Y f
def bj (s : Nat → Nat) (fd nt : Int32) (m k j Y : Nat) : Prop := bs s fd nt m (k + 1) Y ∨ ∃ f, f < j ∧ Y.testBit f = true ∧ (s f).testBit m = true ∧ cst fd nt f m ∧ mt s fd nt m k ∧ xo Y f = k
theorem bs_k {s : Nat → Nat} {fd nt : Int32} {m k j : Nat} : bj s fd nt m k j k ↔ mt s fd nt m k := by
  constructor
  · rintro ((h | ⟨f, f1, f2, f3, f4, f5⟩) | ⟨f, f0, f1, f2, f3, f4, f5⟩)
    · exact h
    · have := xo_lt f1; omega
    · exact f4
  · exact fun h => Or.inl (Or.inl h)
theorem bj_0 {s : Nat → Nat} {fd nt : Int32} {m k Y : Nat} : bj s fd nt m k 0 Y ↔ bs s fd nt m (k + 1) Y := by
  constructor
  · rintro (h | ⟨f, f0, -⟩)
    · exact h
    · omega
  · exact Or.inl
theorem bj_c {s : Nat → Nat} {fd nt : Int32} {m k c Y : Nat} (hY : Y < 2 ^ c) : bj s fd nt m k c Y ↔ bs s fd nt m k Y := by
  constructor
  · rintro ((h | ⟨f, f1, f2, f3, f4, f5⟩) | ⟨f, f0, f1, f2, f3, f4, f5⟩)
    · exact Or.inl h
    · exact Or.inr ⟨f, f1, f2, f3, f4, by omega⟩
    · exact Or.inr ⟨f, f1, f2, f3, f5.symm ▸ f4, by omega⟩
  · rintro (h | ⟨f, f1, f2, f3, f4, f5⟩)
    · exact Or.inl (Or.inl h)
    · by_cases e : xo Y f = k
      · exact Or.inr ⟨f, tb_lt hY f1, f1, f2, f3, e ▸ f4, e⟩
      · exact Or.inl (Or.inr ⟨f, f1, f2, f3, f4, by omega⟩)
theorem bj_no {s : Nat → Nat} {fd nt : Int32} {m k j c Y : Nat} (hY : Y < 2 ^ c) (h : ¬ mt s fd nt m k) : bj s fd nt m k j Y ↔ bs s fd nt m k Y := by
  rw [← bj_c (s := s) (fd := fd) (nt := nt) (m := m) (k := k) hY]
  constructor
  · rintro (q | ⟨f, f0, f1, f2, f3, f4, f5⟩)
    · exact Or.inl q
    · exact absurd f4 h
  · rintro (q | ⟨f, f0, f1, f2, f3, f4, f5⟩)
    · exact Or.inl q
    · exact absurd f4 h
theorem bj_keep {s : Nat → Nat} {fd nt : Int32} {m k j Y : Nat} (h : ¬ (k.testBit j = false ∧ (s j).testBit m = true ∧ cst fd nt j m)) : bj s fd nt m k j Y ↔ bj s fd nt m k (j + 1) Y := by
  constructor
  · rintro (q | ⟨f, f0, f1⟩)
    · exact Or.inl q
    · exact Or.inr ⟨f, by omega, f1⟩
  · rintro (q | ⟨f, f0, f1, f2, f3, f4, f5⟩)
    · exact Or.inl q
    · by_cases e : f = j
      · rw [e] at f1 f2 f3 f5
        exact absurd ⟨(xo_back f1 f5).2, f2, f3⟩ h
      · exact Or.inr ⟨f, by omega, f1, f2, f3, f4, f5⟩
theorem bj_put {s : Nat → Nat} {fd nt : Int32} {m k j Y : Nat} (h : k.testBit j = false ∧ (s j).testBit m = true ∧ cst fd nt j m) (hm : mt s fd nt m k) : (Y ≠ k ||| 2 ^ j → (bj s fd nt m k j Y ↔ bj s fd nt m k (j + 1) Y)) ∧ bj s fd nt m k (j + 1) (k ||| 2 ^ j) := by
  constructor
  · intro hne
    constructor
    · rintro (q | ⟨f, f0, f1⟩)
      · exact Or.inl q
      · exact Or.inr ⟨f, by omega, f1⟩
    · rintro (q | ⟨f, f0, f1, f2, f3, f4, f5⟩)
      · exact Or.inl q
      · by_cases e : f = j
        · rw [e] at f1 f5
          exact absurd (xo_back f1 f5).1 hne
        · exact Or.inr ⟨f, by omega, f1, f2, f3, f4, f5⟩
  · exact Or.inr ⟨j, by omega, (xo_or h.1).1, h.2.1, h.2.2, hm, (xo_or h.1).2⟩
/-- the reference's finds -/
def iFM (M : hyB) (s : Nat → Nat) (c n : Nat) : Prop := M.2 10 = nI c ∧ c ≤ 8 ∧ (∀ f, M.1 11 f = nI (s f)) ∧ (∀ f, s f < 2 ^ 24) ∧ M.2 3 = nI n ∧ n ≤ 24 ∧ ∀ f, f < c → s f < 2 ^ n
section
variable (N F S T C M : hyB)
theorem m_fits (s : Nat → Nat) (c n f k : Nat) (hM : iFM M s c n) (hf : f < 8) (hk : k < 24) : hy_R 3 mX6_fits 0 0 [hy_r 30, .inl (nI f), .inl (nI k)] (wW N F S T C (wM M)) (fun o w1 => ∃ x, o = some x ∧ (((s f).testBit k = true ∧ x = 1) ∨ ((s f).testBit k = false ∧ x = 0)) ∧ w1 = wW N F S T C (wM M)) := by
  have hcl : (nI f).toNatClampNeg = f := cl_nI (by omega)
  have hlt := hM.2.2.2.1 f
  refine hy_Rz (L := [some (hy_r 30), some (.inl (nI f)), some (.inl (nI k))]) rfl (by decide) (fun x w h => ?_) (hy_ple rfl) rfl ?_
  · rcases h.1 with h | h
    · exact Or.inr h.2
    · exact Or.inl h.2
  refine hy_go hy_pfA oX6_fits [] 60 0 0 _ ?_
  refine And.intro (vn_in hf (by decide)) ?_
  have e : (M.1 11 (nI f).toNatClampNeg >>> (nI k &&& 31)) &&& 1 = nI ((s f).testBit k).toNat := by
    rw [hcl, hM.2.2.1 f]; exact bit_I (by omega) (by omega)
  refine And.intro (fun q => ?_) (fun q => ?_)
  · rw [e] at q
    cases hb : (s f).testBit k with
    | true => exact hy_fin ⟨Or.inl ⟨rfl, rfl⟩, rfl⟩
    | false => rw [hb] at q; exact absurd q (by decide)
  · rw [e] at q
    cases hb : (s f).testBit k with
    | true => rw [hb] at q; exact absurd (by decide) q
    | false => exact hy_fin ⟨Or.inr ⟨rfl, rfl⟩, rfl⟩
end
