/-! ===== sets, their numbers, and Hall's rule ===== -/
theorem cb_mono {X Y : Nat → Bool} : ∀ {n : Nat}, (∀ k, k < n → X k = true → Y k = true) → cb X n ≤ cb Y n
  | 0, _ => Nat.le_refl 0
  | n + 1, h => by
    have h1 := cb_mono (X := X) (Y := Y) (n := n) (fun k hk => h k (by omega))
    have h2 : (X n).toNat ≤ (Y n).toNat := by
      cases hx : X n with
      | false => exact Nat.zero_le _
      | true => rw [h n (by omega) hx]; exact Nat.le_refl _
    show cb X n + (X n).toNat ≤ cb Y n + (Y n).toNat
    omega
/-- a set without one -/
def wo (X : Nat → Bool) (a : Nat) : Nat → Bool := fun k => X k && !(Nat.beq k a)
theorem wo_self (X : Nat → Bool) (a : Nat) : wo X a a = false := by simp [wo]
theorem wo_ne {X : Nat → Bool} {a k : Nat} (h : k ≠ a) : wo X a k = X k := by
  have : Nat.beq k a = false := by
    cases hb : Nat.beq k a with
    | false => rfl
    | true => exact absurd (Nat.eq_of_beq_eq_true hb) h
  simp [wo, this]
theorem wo_imp {X : Nat → Bool} {a k : Nat} (h : wo X a k = true) : X k = true ∧ k ≠ a := by
  by_cases e : k = a
  · subst e; rw [wo_self] at h; cases h
  · rw [wo_ne e] at h; exact ⟨h, e⟩
theorem cb_wo_out {X : Nat → Bool} {a : Nat} : ∀ {n : Nat}, (X a = false ∨ n ≤ a) → cb (wo X a) n = cb X n := fun {n} h => by
  refine cb_congr (fun k hk => ?_)
  by_cases e : k = a
  · subst e
    rcases h with h | h
    · rw [wo_self, h]
    · omega
  · exact wo_ne e
theorem cb_wo_in {X : Nat → Bool} {a : Nat} : ∀ {n : Nat}, a < n → X a = true → cb (wo X a) n + 1 = cb X n
  | 0, h, _ => absurd h (by omega)
  | n + 1, h, hx => by
    show cb (wo X a) n + (wo X a n).toNat + 1 = cb X n + (X n).toNat
    by_cases e : a = n
    · subst e
      rw [wo_self, hx, cb_wo_out (Or.inr (Nat.le_refl _))]; rfl
    · have := cb_wo_in (n := n) (by omega) hx
      rw [wo_ne (by omega : n ≠ a)]
      omega
theorem cb_pos {X : Nat → Bool} : ∀ {n : Nat}, 0 < cb X n → ∃ k, k < n ∧ X k = true
  | 0, h => absurd h (by show ¬ 0 < 0; omega)
  | n + 1, h => by
    cases hx : X n with
    | true => exact ⟨n, by omega, hx⟩
    | false =>
      have h1 : 0 < cb X n := by
        have : 0 < cb X n + (X n).toNat := h
        rw [hx] at this
        simpa using this
      obtain ⟨k, h2, h3⟩ := cb_pos h1
      exact ⟨k, by omega, h3⟩
theorem cb_zero {X : Nat → Bool} {n : Nat} (h : cb X n = 0) : ∀ k, k < n → X k = false := by
  intro k hk
  cases hx : X k with
  | false => rfl
  | true =>
    have := cb_wo_in hk hx
    omega
/-- of two sets: those of the one that aren't in the other -/
def df (X Y : Nat → Bool) : Nat → Bool := fun k => X k && !(Y k)
def un (X Y : Nat → Bool) : Nat → Bool := fun k => X k || Y k
theorem cb_un (X Y : Nat → Bool) : ∀ n, cb (un X Y) n = cb (df X Y) n + cb Y n
  | 0 => rfl
  | n + 1 => by
    have := cb_un X Y n
    show cb (un X Y) n + (un X Y n).toNat = cb (df X Y) n + (df X Y n).toNat + (cb Y n + (Y n).toNat)
    have h : (un X Y n).toNat = (df X Y n).toNat + (Y n).toNat := by
      unfold un df
      cases X n <;> cases Y n <;> rfl
    omega
/-- a map that keeps apart: so many at least -/
theorem cb_inj {m : Nat} {φ : Nat → Nat} : ∀ {c : Nat} {X Y : Nat → Bool}, (∀ f, f < c → X f = true → φ f < m ∧ Y (φ f) = true) → (∀ f g, f < c → g < c → X f = true → X g = true → φ f = φ g → f = g) → cb X c ≤ cb Y m
  | 0, _, _, _, _ => Nat.zero_le _
  | c + 1, X, Y, h, hi => by
    show cb X c + (X c).toNat ≤ cb Y m
    cases hx : X c with
    | false =>
      have := cb_inj (c := c) (X := X) (Y := Y) (fun f hf => h f (by omega)) (fun f g hf hg => hi f g (by omega) (by omega))
      simpa using this
    | true =>
      obtain ⟨h1, h2⟩ := h c (by omega) hx
      have := cb_inj (c := c) (X := X) (Y := wo Y (φ c)) (fun f hf hX => by
        obtain ⟨a1, a2⟩ := h f (by omega) hX
        refine ⟨a1, ?_⟩
        rw [wo_ne]
        · exact a2
        · intro e
          have := hi f c (by omega) (by omega) hX hx e
          omega) (fun f g hf hg => hi f g (by omega) (by omega))
      have h3 := cb_wo_in h1 h2
      show cb X c + 1 ≤ cb Y m
      omega
/-- the places that the ones of X fit -/
def nb (S : Nat → Nat → Bool) (X : Nat → Bool) : Nat → Nat → Bool
  | 0, _ => false
  | c + 1, n => nb S X c n || (X c && S c n)
theorem nb_iff {S : Nat → Nat → Bool} {X : Nat → Bool} {n : Nat} : ∀ {c : Nat}, nb S X c n = true ↔ ∃ f, f < c ∧ X f = true ∧ S f n = true
  | 0 => by
    constructor
    · intro h; cases h
    · rintro ⟨f, h, -⟩; omega
  | c + 1 => by
    show (nb S X c n || (X c && S c n)) = true ↔ _
    rw [Bool.or_eq_true, Bool.and_eq_true, nb_iff]
    constructor
    · rintro (⟨f, h1, h2⟩ | h)
      · exact ⟨f, by omega, h2⟩
      · exact ⟨c, by omega, h⟩
    · rintro ⟨f, h1, h2⟩
      by_cases e : f = c
      · subst e; exact Or.inr h2
      · exact Or.inl ⟨f, by omega, h2⟩
/-- Hall's rule -/
theorem hall (m c : Nat) : ∀ (k : Nat) (I : Nat → Bool) (S : Nat → Nat → Bool), cb I c ≤ k → (∀ X : Nat → Bool, (∀ f, X f = true → I f = true) → cb X c ≤ cb (nb S X c) m) → ∃ φ : Nat → Nat, (∀ f, f < c → I f = true → φ f < m ∧ S f (φ f) = true) ∧ ∀ f g, f < c → g < c → I f = true → I g = true → φ f = φ g → f = g := by
  intro k
  induction k with
  | zero =>
    intro I S hk h
    have hz := cb_zero (X := I) (n := c) (by omega)
    exact ⟨fun _ => 0, fun f hf hI => (by rw [hz f hf] at hI; cases hI), fun f g hf hg hI => (by rw [hz f hf] at hI; cases hI)⟩
  | succ k ih =>
    intro I S hk h
    by_cases hsmall : cb I c ≤ k
    · exact ih I S hsmall h
    · have hI : cb I c = k + 1 := by omega
      by_cases ht : ∃ X : Nat → Bool, (∀ f, X f = true → I f = true) ∧ 0 < cb X c ∧ cb X c < cb I c ∧ cb (nb S X c) m ≤ cb X c
      · obtain ⟨X, x1, x2, x3, x4⟩ := ht
        obtain ⟨φ1, p1, p2⟩ := ih X S (by omega) (fun Y hY => h Y (fun f hf => x1 f (hY f hf)))
        have hun : cb (un I X) c = cb I c := cb_congr (fun j _ => by
          unfold un
          cases hi : I j with
          | true => rfl
          | false =>
            cases hx : X j with
            | false => rfl
            | true => rw [x1 j hx] at hi; cases hi)
        have hd : cb (df I X) c + cb X c = cb I c := by rw [← cb_un, hun]
        obtain ⟨φ2, q1, q2⟩ := ih (df I X) (fun f => df (S f) (nb S X c)) (by omega) (fun Y hY => by
          have h1 := h (un Y X) (fun f hf => by
            unfold un at hf
            rcases Bool.or_eq_true_iff.mp hf with h | h
            · have := hY f h
              unfold df at this
              exact (Bool.and_eq_true_iff.mp this).1
            · exact x1 f h)
          rw [cb_un] at h1
          have h2 : cb (df Y X) c = cb Y c := cb_congr (fun j _ => by
            unfold df
            cases hy : Y j with
            | false => rfl
            | true =>
              have := hY j hy
              unfold df at this
              rw [(Bool.and_eq_true_iff.mp this).2]; rfl)
          have h3 : cb (nb S (un Y X) c) m ≤ cb (un (nb (fun f => df (S f) (nb S X c)) Y c) (nb S X c)) m := cb_mono (fun j _ hj => by
            unfold un
            cases hn : nb S X c j with
            | true => simp
            | false =>
              simp only [Bool.or_false]
              obtain ⟨f, f1, f2, f3⟩ := nb_iff.mp hj
              refine nb_iff.mpr ⟨f, f1, ?_, ?_⟩
              · rcases Bool.or_eq_true_iff.mp f2 with h | h
                · exact h
                · rw [nb_iff.mpr ⟨f, f1, h, f3⟩] at hn; cases hn
              · unfold df
                rw [f3, hn]; rfl)
          have h4 : cb (un (nb (fun f => df (S f) (nb S X c)) Y c) (nb S X c)) m ≤ cb (nb (fun f => df (S f) (nb S X c)) Y c) m + cb (nb S X c) m := by
            rw [cb_un]
            have : cb (df (nb (fun f => df (S f) (nb S X c)) Y c) (nb S X c)) m ≤ cb (nb (fun f => df (S f) (nb S X c)) Y c) m := cb_mono (fun j _ hj => by
              unfold df at hj
              exact (Bool.and_eq_true_iff.mp hj).1)
            omega
          omega)
        refine ⟨fun f => if X f = true then φ1 f else φ2 f, fun f hf hI1 => ?_, fun f g hf hg hI1 hI2 he => ?_⟩
        · dsimp only
          by_cases hx : X f = true
          · rw [if_pos hx]; exact p1 f hf hx
          · rw [if_neg hx]
            have hd1 : df I X f = true := by
              unfold df
              rw [hI1]
              cases hxx : X f with
              | true => exact absurd hxx hx
              | false => rfl
            obtain ⟨a1, a2⟩ := q1 f hf hd1
            unfold df at a2
            exact ⟨a1, (Bool.and_eq_true_iff.mp a2).1⟩
        · dsimp only at he
          have key : ∀ f g, f < c → g < c → I g = true → X f = true → ¬ X g = true → φ1 f = φ2 g → False := fun f g hf hg hI2 hx hy he => by
            have hd1 : df I X g = true := by
              unfold df
              rw [hI2]
              cases hxx : X g with
              | true => exact absurd hxx hy
              | false => rfl
            obtain ⟨a1, a2⟩ := q1 g hg hd1
            obtain ⟨b1, b2⟩ := p1 f hf hx
            unfold df at a2
            have a3 := (Bool.and_eq_true_iff.mp a2).2
            rw [← he, nb_iff.mpr ⟨f, hf, hx, b2⟩] at a3
            cases a3
          by_cases hx : X f = true
          · by_cases hy : X g = true
            · rw [if_pos hx, if_pos hy] at he
              exact p2 f g hf hg hx hy he
            · rw [if_pos hx, if_neg hy] at he
              exact (key f g hf hg hI2 hx hy he).elim
          · by_cases hy : X g = true
            · rw [if_neg hx, if_pos hy] at he
              exact (key g f hg hf hI1 hy hx he.symm).elim
            · rw [if_neg hx, if_neg hy] at he
              have d1 : df I X f = true := by
                unfold df
                rw [hI1]
                cases hxx : X f with
                | true => exact absurd hxx hx
                | false => rfl
              have d2 : df I X g = true := by
                unfold df
                rw [hI2]
                cases hxx : X g with
                | true => exact absurd hxx hy
                | false => rfl
              exact q2 f g hf hg d1 d2 he
      · obtain ⟨a, ha1, ha2⟩ := cb_pos (X := I) (n := c) (by omega)
        have hone := h (fun j => Nat.beq j a) (fun f hf => by rw [Nat.eq_of_beq_eq_true hf]; exact ha2)
        have h1 : 0 < cb (nb S (fun j => Nat.beq j a) c) m := by
          have : 0 < cb (fun j => Nat.beq j a) c := by
            have := cb_wo_in (X := fun j => Nat.beq j a) (a := a) (n := c) ha1 (Nat.beq_refl a)
            omega
          omega
        obtain ⟨y, hy1, hy2⟩ := cb_pos h1
        obtain ⟨f0, f1, f2, f3⟩ := nb_iff.mp hy2
        have hf0 : f0 = a := Nat.eq_of_beq_eq_true f2
        subst hf0
        have hc1 := cb_wo_in ha1 ha2
        obtain ⟨φ, p1, p2⟩ := ih (wo I f0) (fun f => wo (S f) y) (by omega) (fun Y hY => by
          by_cases hz : cb Y c = 0
          · omega
          · have h2 : ∀ f, Y f = true → I f = true := fun f hf => (wo_imp (hY f hf)).1
            have h3 : cb Y c ≤ cb (wo I f0) c := cb_mono (fun j _ hj => hY j hj)
            have h4 : ¬ cb (nb S Y c) m ≤ cb Y c := fun q => ht ⟨Y, h2, by omega, by omega, q⟩
            have h5 : cb (wo (nb S Y c) y) m ≤ cb (nb (fun f => wo (S f) y) Y c) m := cb_mono (fun j _ hj => by
              obtain ⟨g1, g2⟩ := wo_imp hj
              obtain ⟨f, e1, e2, e3⟩ := nb_iff.mp g1
              exact nb_iff.mpr ⟨f, e1, e2, by rw [wo_ne g2]; exact e3⟩)
            have h6 : cb (nb S Y c) m ≤ cb (wo (nb S Y c) y) m + 1 := by
              cases hn : nb S Y c y with
              | false => rw [cb_wo_out (Or.inl hn)]; omega
              | true => rw [cb_wo_in hy1 hn]; exact Nat.le_refl _
            omega)
        refine ⟨fun f => if f = f0 then y else φ f, fun f hf hI1 => ?_, fun f g hf hg hI1 hI2 he => ?_⟩
        · dsimp only
          by_cases e : f = f0
          · rw [if_pos e, e]; exact ⟨hy1, f3⟩
          · rw [if_neg e]
            obtain ⟨a1, a2⟩ := p1 f hf (by rw [wo_ne e]; exact hI1)
            exact ⟨a1, (wo_imp a2).1⟩
        · dsimp only at he
          have key : ∀ f, f < c → I f = true → f ≠ f0 → y = φ f → False := fun f hf hI1 e he => by
            obtain ⟨a1, a2⟩ := p1 f hf (by rw [wo_ne e]; exact hI1)
            exact (wo_imp a2).2 he.symm
          by_cases e : f = f0
          · by_cases e2 : g = f0
            · rw [e, e2]
            · rw [if_pos e, if_neg e2] at he
              exact (key g hg hI2 e2 he).elim
          · by_cases e2 : g = f0
            · rw [if_neg e, if_pos e2] at he
              exact (key f hf hI1 e he.symm).elim
            · rw [if_neg e, if_neg e2] at he
              exact p2 f g hf hg (by rw [wo_ne e]; exact hI1) (by rw [wo_ne e2]; exact hI2) he
