/-! ===== lays ===== -/
def sumf (f : Nat → Nat) : Nat → Nat
  | 0 => 0
  | k + 1 => sumf f k + f k
theorem sumf_congr {f g : Nat → Nat} : ∀ {n : Nat}, (∀ k, k < n → f k = g k) → sumf f n = sumf g n
  | 0, _ => rfl
  | n + 1, h => by
    have := sumf_congr (f := f) (g := g) (n := n) (fun k hk => h k (by omega))
    show sumf f n + f n = sumf g n + g n
    rw [this, h n (by omega)]
theorem sumf_le {f g : Nat → Nat} : ∀ {n : Nat}, (∀ k, k < n → f k ≤ g k) → sumf f n ≤ sumf g n
  | 0, _ => Nat.le_refl 0
  | n + 1, h => by
    have := sumf_le (f := f) (g := g) (n := n) (fun k hk => h k (by omega))
    have h2 := h n (by omega)
    show sumf f n + f n ≤ sumf g n + g n
    omega
theorem sumf_bd {f : Nat → Nat} {b : Nat} : ∀ {n : Nat}, (∀ k, k < n → f k ≤ b) → sumf f n ≤ b * n
  | 0, _ => by show 0 ≤ b * 0; omega
  | n + 1, h => by
    have := sumf_bd (f := f) (n := n) (fun k hk => h k (by omega))
    have h2 := h n (by omega)
    show sumf f n + f n ≤ b * (n + 1)
    rw [Nat.mul_add, Nat.mul_one]
    omega
theorem sumf_add (f : Nat → Nat) (m : Nat) : ∀ n, sumf f (m + n) = sumf f m + sumf (fun k => f (m + k)) n
  | 0 => rfl
  | n + 1 => by
    have := sumf_add f m n
    show sumf f (m + n) + f (m + n) = sumf f m + (sumf (fun k => f (m + k)) n + f (m + n))
    omega
theorem sumf_pos {f : Nat → Nat} : ∀ {n : Nat}, 0 < sumf f n → ∃ k, k < n ∧ 0 < f k
  | 0, h => absurd h (by show ¬ 0 < 0; omega)
  | n + 1, h => by
    by_cases q : 0 < f n
    · exact ⟨n, by omega, q⟩
    · have h2 : 0 < sumf f n := by
        have : 0 < sumf f n + f n := h
        omega
      obtain ⟨k, h3, h4⟩ := sumf_pos h2
      exact ⟨k, by omega, h4⟩
theorem sumf_one {f : Nat → Nat} : ∀ {n k : Nat}, k < n → f k ≤ sumf f n
  | 0, _, h => absurd h (by omega)
  | n + 1, k, h => by
    show f k ≤ sumf f n + f n
    by_cases e : k = n
    · rw [e]; omega
    · have := sumf_one (f := f) (n := n) (k := k) (by omega)
      omega
section
variable (l m L lo : Nat → Nat) (R c : Nat)
/-- what is cut of a roll by the lay p -/
def uL (p : List Nat) (r : Nat) : Nat := sumf (fun i => if p.getD i 9 = r then l i else 0) p.length
/-- what is opened by it -/
def oL (p : List Nat) : Nat := sumf (fun r => if 0 < uL l p r then L r else 0) R
def lyP (p : List Nat) : Prop := (∀ i, i < p.length → p.getD i 9 < R) ∧ (∀ r, r < R → uL l p r ≤ L r) ∧ ∀ i j, i < p.length → j < p.length → m i = m j → lo (p.getD i 9) = lo (p.getD j 9)
theorem gd_app {π q : List Nat} {i : Nat} (h : i < π.length) : (π ++ q).getD i 9 = π.getD i 9 := by
  rw [List.getD_eq_getElem?_getD, List.getD_eq_getElem?_getD, List.getElem?_append_left h]
theorem gd_last {π : List Nat} {x : Nat} : (π ++ [x]).getD π.length 9 = x := by
  rw [List.getD_eq_getElem?_getD]; simp
theorem uL_app (π q : List Nat) (r : Nat) : uL l π r ≤ uL l (π ++ q) r := by
  unfold uL
  rw [List.length_append, sumf_add]
  have : sumf (fun i => if (π ++ q).getD i 9 = r then l i else 0) π.length = sumf (fun i => if π.getD i 9 = r then l i else 0) π.length := sumf_congr (fun i hi => by rw [gd_app hi])
  omega
theorem uL_s (π : List Nat) (x r : Nat) : uL l (π ++ [x]) r = uL l π r + (if x = r then l π.length else 0) := by
  unfold uL
  rw [List.length_append, List.length_singleton]
  show sumf (fun i => if (π ++ [x]).getD i 9 = r then l i else 0) π.length + (if (π ++ [x]).getD π.length 9 = r then l π.length else 0) = _
  rw [gd_last]
  congr 1
  exact sumf_congr (fun i hi => by rw [gd_app hi])
theorem oL_app (π q : List Nat) : oL l L R π ≤ oL l L R (π ++ q) := sumf_le (fun r _ => by
  have := uL_app l π q r
  by_cases h : 0 < uL l π r
  · rw [if_pos h, if_pos (by omega)]; exact Nat.le_refl _
  · rw [if_neg h]; exact Nat.zero_le _)
theorem lyP_pre {π q : List Nat} (h : lyP l m L lo R (π ++ q)) : lyP l m L lo R π := by
  obtain ⟨h1, h2, h3⟩ := h
  have hl : (π ++ q).length = π.length + q.length := List.length_append
  refine ⟨fun i hi => ?_, fun r hr => Nat.le_trans (uL_app l π q r) (h2 r hr), fun i j hi hj hm => ?_⟩
  · have := h1 i (by omega)
    rwa [gd_app hi] at this
  · have := h3 i j (by omega) (by omega) hm
    rwa [gd_app hi, gd_app hj] at this
theorem lyP_s {π : List Nat} {x : Nat} : lyP l m L lo R (π ++ [x]) ↔ lyP l m L lo R π ∧ x < R ∧ uL l (π ++ [x]) x ≤ L x ∧ ∀ k, k < π.length → m k = m π.length → lo (π.getD k 9) = lo x := by
  constructor
  · intro h
    refine ⟨lyP_pre l m L lo R h, ?_, ?_, fun k hk hm => ?_⟩
    · have := h.1 π.length (by simp)
      rwa [gd_last] at this
    · have := h.1 π.length (by simp)
      rw [gd_last] at this
      exact h.2.1 x this
    · have := h.2.2 k π.length (by simp; omega) (by simp) hm
      rwa [gd_app hk, gd_last] at this
  · rintro ⟨⟨h1, h2, h3⟩, h4, h5, h6⟩
    have hl : (π ++ [x]).length = π.length + 1 := by simp
    have key : ∀ i, i < π.length + 1 → (i < π.length ∧ (π ++ [x]).getD i 9 = π.getD i 9) ∨ (i = π.length ∧ (π ++ [x]).getD i 9 = x) := fun i hi => by
      by_cases e : i = π.length
      · exact Or.inr ⟨e, by rw [e]; exact gd_last⟩
      · exact Or.inl ⟨by omega, gd_app (by omega)⟩
    refine ⟨fun i hi => ?_, fun r hr => ?_, fun i j hi hj hm => ?_⟩
    · rcases key i (by omega) with ⟨a, b⟩ | ⟨a, b⟩
      · rw [b]; exact h1 i a
      · rw [b]; exact h4
    · by_cases e : x = r
      · rw [← e]; exact h5
      · rw [uL_s, if_neg e, Nat.add_zero]; exact h2 r hr
    · rcases key i (by omega) with ⟨a, b⟩ | ⟨a, b⟩
      · rcases key j (by omega) with ⟨a', b'⟩ | ⟨a', b'⟩
        · rw [b, b']; exact h3 i j a a' hm
        · rw [b, b']; exact h6 i a (by rw [hm, a'])
      · rcases key j (by omega) with ⟨a', b'⟩ | ⟨a', b'⟩
        · rw [b, b']; exact (h6 j a' (by rw [← hm, a])).symm
        · rw [b, b']
/-- the lays of all c cuts that begin so -/
def eL (π p : List Nat) : Prop := p.length = c ∧ lyP l m L lo R p ∧ ∃ q, p = π ++ q
def eLj (j : Nat) (π p : List Nat) : Prop := ∃ x, x < j ∧ eL l m L lo R c (π ++ [x]) p
theorem eL_split {π p : List Nat} (hπ : π.length < c) : eL l m L lo R c π p ↔ eLj l m L lo R c R π p := by
  constructor
  · rintro ⟨h1, h2, q, rfl⟩
    match q, h1, h2 with
    | [], h1, h2 => simp at h1; omega
    | x :: q, h1, h2 =>
      have e : π ++ x :: q = (π ++ [x]) ++ q := by simp
      refine ⟨x, ?_, h1, h2, q, e⟩
      rw [e] at h2
      exact ((lyP_s l m L lo R).mp (lyP_pre l m L lo R h2)).2.1
  · rintro ⟨x, -, h1, h2, q, h3⟩
    exact ⟨h1, h2, x :: q, by rw [h3]; simp⟩
theorem eLj_s {j : Nat} {π p : List Nat} : eLj l m L lo R c (j + 1) π p ↔ eLj l m L lo R c j π p ∨ eL l m L lo R c (π ++ [j]) p := by
  constructor
  · rintro ⟨x, h1, h2⟩
    by_cases e : x = j
    · subst e; exact Or.inr h2
    · exact Or.inl ⟨x, by omega, h2⟩
  · rintro (⟨x, h1, h2⟩ | h2)
    · exact ⟨x, by omega, h2⟩
    · exact ⟨j, by omega, h2⟩
theorem lyP_sm {p : List Nat} (hR : R ≤ 8) (h : lyP l m L lo R p) : sm p := fun x hx => by
  obtain ⟨i, hi, rfl⟩ := List.mem_iff_getElem.mp hx
  have := h.1 i hi
  rw [List.getD_eq_getElem?_getD, List.getElem?_eq_getElem hi] at this
  have : p[i] < R := this
  omega
theorem eLj_rv {j : Nat} {π p q : List Nat} (hR : R ≤ 8) (h1 : eLj l m L lo R c j π p) (h2 : eL l m L lo R c (π ++ [j]) q) : rv p ≤ rv q := by
  obtain ⟨o, o1, p0, p1, p2, rfl⟩ := h1
  obtain ⟨q0, q1, q2, rfl⟩ := h2
  have hl : p2.length = q2.length := by simp at p0 q0; omega
  have hs : sm p2 := fun x hx => lyP_sm l m L lo R hR p1 x (List.mem_append_right _ hx)
  have h3 : rv (π ++ (o :: p2)) < rv (π ++ (j :: q2)) := (rv_pre (by simp [hl])).1.mpr (rv_head hl hs o1)
  simp only [List.append_assoc, List.singleton_append]
  omega
theorem eL_no {π : List Nat} {x : Nat} (h : ¬ lyP l m L lo R (π ++ [x])) (p : List Nat) : ¬ eL l m L lo R c (π ++ [x]) p := by
  rintro ⟨-, h2, q, rfl⟩
  exact h (lyP_pre l m L lo R h2)
theorem eL_low {π p : List Nat} (h : eL l m L lo R c π p) : oL l L R π ≤ oL l L R p := by
  obtain ⟨-, -, q, rfl⟩ := h
  exact oL_app l L R π q
/-- THE LEAST of all lays -/
def leastL (B : Nat) (b : List Nat) : Prop := eL l m L lo R c [] b ∧ oL l L R b = B ∧ ∀ p, eL l m L lo R c [] p → B ≤ oL l L R p ∧ (oL l L R p = B → rv b ≤ rv p)
theorem leastL_eq {B B2 : Nat} {b b2 : List Nat} (hR : R ≤ 8) (h : leastL l m L lo R c B b) (h2 : leastL l m L lo R c B2 b2) : B = B2 ∧ b = b2 := by
  obtain ⟨a1, a2, a3⟩ := h
  obtain ⟨c1, c2, c3⟩ := h2
  have e1 := a3 b2 c1
  have e2 := c3 b a1
  have e : B = B2 := by omega
  refine ⟨e, rv_inj (by rw [a1.1, c1.1]) (lyP_sm l m L lo R hR a1.2.1) (lyP_sm l m L lo R hR c1.2.1) ?_⟩
  have h1 := e1.2 (by omega)
  have h2 := e2.2 (by omega)
  omega
end
