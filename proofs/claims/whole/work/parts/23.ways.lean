/-! ===== ways: all finds led to different nets ===== -/
def way (s : Nat → Nat) (c : Nat) (φ : Nat → Nat) : Prop := (∀ f, f < c → (s f).testBit (φ f) = true) ∧ ∀ f g, f < c → g < c → φ f = φ g → f = g
def fS (s : Nat → Nat) : Nat → Nat → Bool := fun f n => (s f).testBit n
def pcn (x : Nat) : Nat := cb (fun k => x.testBit k) 24
/-- all that the finds of X fit -/
def orU (s : Nat → Nat) (X : Nat) : Nat → Nat
  | 0 => 0
  | j + 1 => if X.testBit j then orU s X j ||| s j else orU s X j
theorem orU_bit (s : Nat → Nat) (X n : Nat) : ∀ j, (orU s X j).testBit n = nb (fS s) (fun k => X.testBit k) j n
  | 0 => by simp [orU, nb]
  | j + 1 => by
    have := orU_bit s X n j
    unfold orU nb
    cases hx : X.testBit j with
    | true => rw [if_pos rfl, Nat.testBit_or, this]; simp [fS]
    | false => rw [if_neg (by simp), this]; simp
theorem or_lt24 {a b : Nat} (ha : a < 2 ^ 24) (hb : b < 2 ^ 24) : a ||| b < 2 ^ 24 := Nat.or_lt_two_pow ha hb
theorem orU_lt {s : Nat → Nat} (hs : ∀ f, s f < 2 ^ 24) (X : Nat) : ∀ j, orU s X j < 2 ^ 24
  | 0 => by show 0 < 2 ^ 24; decide
  | j + 1 => by
    have := orU_lt hs X j
    unfold orU
    split
    · exact or_lt24 this (hs j)
    · exact this
theorem tb_lt {x n i : Nat} (hx : x < 2 ^ n) (h : x.testBit i = true) : i < n := by
  apply Classical.byContradiction
  intro q
  have : x < 2 ^ i := Nat.lt_of_lt_of_le hx (Nat.pow_le_pow_right (by omega) (by omega))
  rw [Nat.testBit_lt_two_pow this] at h
  cases h
theorem cb_more {X : Nat → Bool} {c : Nat} (h : ∀ k, c ≤ k → X k = false) : ∀ r, cb X (c + r) = cb X c
  | 0 => rfl
  | r + 1 => by
    have := cb_more h r
    show cb X (c + r) + (X (c + r)).toNat = _
    rw [this, h (c + r) (by omega)]; rfl
theorem cb_to {X : Nat → Bool} {c m : Nat} (h : ∀ k, c ≤ k → X k = false) (hm : c ≤ m) : cb X m = cb X c := by
  have := cb_more h (m - c)
  rwa [show c + (m - c) = m by omega] at this
/-- sets of finds as numbers -/
theorem set_num (Y : Nat → Bool) (c : Nat) (hY : ∀ k, Y k = true → k < c) : ∃ X, X < 2 ^ c ∧ ∀ k, X.testBit k = Y k := by
  refine ⟨bitf (fun k => Y k = true) c, bitf_lt _ _, fun k => ?_⟩
  rw [bitf_test]
  cases hy : Y k with
  | true => simp [hY k hy]
  | false => simp
def hallC (s : Nat → Nat) (c : Nat) : Prop := ∀ X, 1 ≤ X → X < 2 ^ c → pcn X ≤ pcn (orU s X 8)
theorem hall_gen {s : Nat → Nat} {c : Nat} (hc : c ≤ 8) {S : Nat → Nat → Bool} (I : Nat → Bool) (hI : ∀ k, I k = true → k < c) (h : ∀ X, 1 ≤ X → X < 2 ^ c → (∀ k, X.testBit k = true → I k = true) → pcn X ≤ cb (nb S (fun k => X.testBit k) c) 24) : ∃ φ : Nat → Nat, (∀ f, f < c → I f = true → φ f < 24 ∧ S f (φ f) = true) ∧ ∀ f g, f < c → g < c → I f = true → I g = true → φ f = φ g → f = g := by
  refine hall 24 c c I S (cb_le _ _) (fun Y hY => ?_)
  by_cases hz : cb Y c = 0
  · omega
  · obtain ⟨X, x1, x2⟩ := set_num Y c (fun k hk => hI k (hY k hk))
    obtain ⟨k0, k1, k2⟩ := cb_pos (X := Y) (n := c) (by omega)
    have hX : 1 ≤ X := by
      apply Classical.byContradiction
      intro q
      have : X = 0 := by omega
      have h3 := x2 k0
      rw [this, k2] at h3
      simp at h3
    have h1 := h X hX x1 (fun k hk => hY k (by rw [← x2]; exact hk))
    have e1 : (fun k => X.testBit k) = Y := funext x2
    have e2 : pcn X = cb Y c := by
      unfold pcn
      rw [e1]
      refine cb_to (fun k hk => ?_) (by omega)
      cases hy : Y k with
      | false => rfl
      | true => have := hI k (hY k hy); omega
    rw [e1, e2] at h1
    exact h1
theorem nb_8 {s : Nat → Nat} {X c : Nat} (hX : X < 2 ^ c) (hc : c ≤ 8) (n : Nat) : (orU s X 8).testBit n = nb (fS s) (fun k => X.testBit k) c n := by
  rw [orU_bit]
  apply Bool.eq_iff_iff.mpr
  rw [nb_iff, nb_iff]
  constructor
  · rintro ⟨f, h1, h2, h3⟩
    exact ⟨f, tb_lt hX h2, h2, h3⟩
  · rintro ⟨f, h1, h2, h3⟩
    exact ⟨f, by omega, h2, h3⟩
theorem pcn_nb {s : Nat → Nat} {X c : Nat} (hX : X < 2 ^ c) (hc : c ≤ 8) : pcn (orU s X 8) = cb (nb (fS s) (fun k => X.testBit k) c) 24 := cb_congr (fun n _ => nb_8 hX hc n)
theorem hall_way {s : Nat → Nat} {c : Nat} (hs : ∀ f, s f < 2 ^ 24) (hc : c ≤ 8) : hallC s c ↔ ∃ φ, way s c φ := by
  constructor
  · intro h
    obtain ⟨φ, p1, p2⟩ := hall_gen (s := s) hc (S := fS s) (fun k => decide (k < c)) (fun k hk => by simpa using hk) (fun X h1 h2 _ => by
      have := h X h1 h2
      rwa [pcn_nb h2 hc] at this)
    exact ⟨φ, fun f hf => (p1 f hf (by simpa using hf)).2, fun f g hf hg => p2 f g hf hg (by simpa using hf) (by simpa using hg)⟩
  · rintro ⟨φ, p1, p2⟩ X h1 h2
    have e : pcn X = cb (fun k => X.testBit k) c := cb_to (fun k hk => by
      cases hx : X.testBit k with
      | false => rfl
      | true => have := tb_lt h2 hx; omega) (by omega)
    rw [e]
    refine cb_inj (φ := φ) (fun f hf hx => ⟨tb_lt (hs f) (p1 f hf), ?_⟩) (fun f g hf hg _ _ => p2 f g hf hg)
    rw [nb_8 h2 hc]
    exact nb_iff.mpr ⟨f, hf, hx, p1 f hf⟩
/-- the nets to which some way leads a find -/
def rch (s : Nat → Nat) (c f n : Nat) : Prop := (s f).testBit n = true ∧ ∀ X, 1 ≤ X → X < 2 ^ c → X.testBit f = false → pcn (orU s X 8) = pcn X → (orU s X 8).testBit n = false
theorem rch_way {s : Nat → Nat} {c f n : Nat} (hs : ∀ f, s f < 2 ^ 24) (hc : c ≤ 8) (hh : hallC s c) (hf : f < c) : rch s c f n ↔ ∃ φ, way s c φ ∧ φ f = n := by
  constructor
  · rintro ⟨r1, r2⟩
    have hn : n < 24 := tb_lt (hs f) r1
    obtain ⟨φ, p1, p2⟩ := hall_gen (s := s) hc (S := fun g => wo (fS s g) n) (fun k => decide (k < c) && !(Nat.beq k f)) (fun k hk => by simp at hk; exact hk.1) (fun X h1 h2 h3 => by
      have hXf : X.testBit f = false := by
        cases hx : X.testBit f with
        | false => rfl
        | true => have := h3 f hx; simp at this
      have h4 := hh X h1 h2
      have h5 : cb (wo (nb (fS s) (fun k => X.testBit k) c) n) 24 ≤ cb (nb (fun g => wo (fS s g) n) (fun k => X.testBit k) c) 24 := cb_mono (fun j _ hj => by
        obtain ⟨g1, g2⟩ := wo_imp hj
        obtain ⟨g, e1, e2, e3⟩ := nb_iff.mp g1
        exact nb_iff.mpr ⟨g, e1, e2, by rw [wo_ne g2]; exact e3⟩)
      rw [pcn_nb h2 hc] at h4
      by_cases hnn : nb (fS s) (fun k => X.testBit k) c n = true
      · have h6 := cb_wo_in hn hnn
        have h7 : pcn (orU s X 8) ≠ pcn X := fun q => by
          have := r2 X h1 h2 hXf q
          rw [nb_8 h2 hc, hnn] at this
          cases this
        rw [pcn_nb h2 hc] at h7
        omega
      · have h6 := cb_wo_out (X := nb (fS s) (fun k => X.testBit k) c) (a := n) (n := 24) (Or.inl (by simpa using hnn))
        omega)
    have hI : ∀ g, g < c → g ≠ f → (decide (g < c) && !(Nat.beq g f)) = true := fun g h1 h2 => by
      have : Nat.beq g f = false := by
        cases hb : Nat.beq g f with
        | false => rfl
        | true => exact absurd (Nat.eq_of_beq_eq_true hb) h2
      simp [h1, this]
    refine ⟨fun g => if g = f then n else φ g, ⟨fun g hg => ?_, fun g h hg hh he => ?_⟩, if_pos rfl⟩
    · dsimp only
      by_cases e : g = f
      · rw [if_pos e, e]; exact r1
      · rw [if_neg e]
        exact (wo_imp (p1 g hg (hI g hg e)).2).1
    · dsimp only at he
      by_cases e : g = f
      · by_cases e2 : h = f
        · rw [e, e2]
        · rw [if_pos e, if_neg e2] at he
          exact absurd he.symm (wo_imp (p1 h hh (hI h hh e2)).2).2
      · by_cases e2 : h = f
        · rw [if_neg e, if_pos e2] at he
          exact absurd he (wo_imp (p1 g hg (hI g hg e)).2).2
        · rw [if_neg e, if_neg e2] at he
          exact p2 g h hg hh (hI g hg e) (hI h hh e2) he
  · rintro ⟨φ, ⟨p1, p2⟩, rfl⟩
    refine ⟨p1 f hf, fun X h1 h2 h3 h4 => ?_⟩
    cases hb : (orU s X 8).testBit (φ f) with
    | false => rfl
    | true =>
      have e : pcn X = cb (fun k => X.testBit k) c := cb_to (fun k hk => by
        cases hx : X.testBit k with
        | false => rfl
        | true => have := tb_lt h2 hx; omega) (by omega)
      have h5 : cb (fun k => X.testBit k) c ≤ cb (wo (fun k => (orU s X 8).testBit k) (φ f)) 24 := cb_inj (φ := φ) (fun g hg hx => ⟨tb_lt (hs g) (p1 g hg), by
        rw [wo_ne]
        · rw [nb_8 h2 hc]; exact nb_iff.mpr ⟨g, hg, hx, p1 g hg⟩
        · intro q
          have : g = f := p2 g f hg hf q
          rw [this] at hx
          have hx : X.testBit f = true := hx
          rw [h3] at hx; cases hx⟩) (fun g h hg hh _ _ => p2 g h hg hh)
      have h6 := cb_wo_in (X := fun k => (orU s X 8).testBit k) (a := φ f) (n := 24) (tb_lt (hs f) (p1 f hf)) hb
      have h7 : pcn (orU s X 8) = cb (fun k => (orU s X 8).testBit k) 24 := rfl
      omega
/-- of which net a find is sure -/
def sureP (s : Nat → Nat) (c f : Nat) (r : Int32) : Prop := (∃ k, k < 24 ∧ r = nI k ∧ ∀ n, (∃ φ, way s c φ ∧ φ f = n) ↔ n = k) ∨ (r = -1 ∧ ¬ ∃ k, ∀ n, (∃ φ, way s c φ ∧ φ f = n) ↔ n = k)
theorem sureP_eq {s : Nat → Nat} {c f : Nat} {r r2 : Int32} (h : sureP s c f r) (h2 : sureP s c f r2) : r = r2 := by
  rcases h with ⟨k, a1, a2, a3⟩ | ⟨a1, a2⟩
  · rcases h2 with ⟨k2, b1, b2, b3⟩ | ⟨b1, b2⟩
    · have := (b3 k).mp ((a3 k).mpr rfl)
      rw [a2, b2, this]
    · exact absurd ⟨k, a3⟩ b2
  · rcases h2 with ⟨k2, b1, b2, b3⟩ | ⟨b1, b2⟩
    · exact absurd ⟨k2, b3⟩ a2
    · rw [a1, b1]
theorem pow_bit {x k : Nat} : x = 2 ^ k ↔ ∀ n, x.testBit n = true ↔ n = k := by
  constructor
  · rintro rfl n
    rw [Nat.testBit_two_pow]
    simp only [decide_eq_true_eq]
    exact ⟨fun h => h.symm, fun h => h.symm⟩
  · intro h
    apply Nat.eq_of_testBit_eq
    intro n
    rw [Nat.testBit_two_pow]
    apply Bool.eq_iff_iff.mpr
    rw [h n]
    simp only [decide_eq_true_eq]
    exact ⟨fun h => h.symm, fun h => h.symm⟩
theorem pcn_1 {x : Nat} (hx : x < 2 ^ 24) : pcn x = 1 ↔ ∃ k, k < 24 ∧ x = 2 ^ k := by
  constructor
  · intro h
    unfold pcn at h
    obtain ⟨k, h1, h2⟩ := cb_pos (X := fun k => x.testBit k) (n := 24) (by omega)
    refine ⟨k, h1, pow_bit.mpr (fun n => ⟨fun hn => ?_, fun hn => hn ▸ h2⟩)⟩
    apply Classical.byContradiction
    intro q
    have h3 := cb_wo_in (X := fun k => x.testBit k) (a := k) (n := 24) h1 h2
    have h4 := cb_zero (X := wo (fun k => x.testBit k) k) (n := 24) (by omega) n (tb_lt hx hn)
    rw [wo_ne q] at h4
    have h4 : x.testBit n = false := h4
    rw [h4] at hn; cases hn
  · rintro ⟨k, h1, rfl⟩
    unfold pcn
    have h2 : (2 ^ k).testBit k = true := by rw [Nat.testBit_two_pow]; simp
    have h3 := cb_wo_in (X := fun j => (2 ^ k).testBit j) (a := k) (n := 24) h1 h2
    have h4 : cb (wo (fun j => (2 ^ k).testBit j) k) 24 = cb (fun _ => false) 24 := cb_congr (fun j _ => by
      by_cases e : j = k
      · subst e; exact wo_self _ _
      · rw [wo_ne e, Nat.testBit_two_pow]
        simp only [decide_eq_false_iff_not]
        exact fun q => e q.symm)
    have h5 : cb (fun _ => false) 24 = 0 := by decide
    omega
/-- more finds make fewer ways -/
theorem way_sub {s s' : Nat → Nat} {c : Nat} {φ : Nat → Nat} (h : way s' (c + 1) φ) (he : ∀ f, f < c → s' f = s f) : way s c φ :=
  ⟨fun f hf => by rw [← he f hf]; exact h.1 f (by omega), fun f g hf hg => h.2 f g (by omega) (by omega)⟩
theorem sure_stays {s s' : Nat → Nat} {c f k : Nat} (hk : ∀ n, (∃ φ, way s c φ ∧ φ f = n) ↔ n = k) (he : ∀ f, f < c → s' f = s f) (hw : ∃ φ, way s' (c + 1) φ) : ∀ n, (∃ φ, way s' (c + 1) φ ∧ φ f = n) ↔ n = k := by
  intro n
  constructor
  · rintro ⟨φ, h1, h2⟩
    exact (hk n).mp ⟨φ, way_sub h1 he, h2⟩
  · rintro rfl
    obtain ⟨φ, h1⟩ := hw
    exact ⟨φ, h1, (hk _).mp ⟨φ, way_sub h1 he, rfl⟩⟩
