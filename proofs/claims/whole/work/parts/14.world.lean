/-! ===== numbers as whole numbers ===== -/
theorem zi_add {a b : Int32} (h1 : -2147483648 ≤ a.toInt + b.toInt) (h2 : a.toInt + b.toInt < 2147483648) : (a + b).toInt = a.toInt + b.toInt := by
  rw [Int32.toInt_add]; apply Int.bmod_eq_of_le <;> omega
theorem zi_sub {a b : Int32} (h1 : -2147483648 ≤ a.toInt - b.toInt) (h2 : a.toInt - b.toInt < 2147483648) : (a - b).toInt = a.toInt - b.toInt := by
  rw [Int32.toInt_sub]; apply Int.bmod_eq_of_le <;> omega
theorem zi_mul {a b : Int32} (h1 : -2147483648 ≤ a.toInt * b.toInt) (h2 : a.toInt * b.toInt < 2147483648) : (a * b).toInt = a.toInt * b.toInt := by
  rw [Int32.toInt_mul]; apply Int.bmod_eq_of_le <;> omega
theorem zi_div {a b : Int32} (h0 : 0 ≤ a.toInt) (h1 : 0 < b.toInt) : (a / b).toInt = a.toInt / b.toInt := by
  have e : a.toInt.tdiv b.toInt = a.toInt / b.toInt := Int.tdiv_eq_ediv_of_nonneg h0
  have ha := Int32.toInt_lt a
  have h2 : a.toInt / b.toInt ≤ a.toInt := Int.ediv_le_self _ h0
  have h3 : 0 ≤ a.toInt / b.toInt := Int.ediv_nonneg h0 (by omega)
  rw [Int32.toInt_div, e]; apply Int.bmod_eq_of_le <;> omega
theorem zi_le {a b : Int32} : a ≤ b ↔ a.toInt ≤ b.toInt := Int32.le_iff_toInt_le
theorem zi_lt {a b : Int32} : a < b ↔ a.toInt < b.toInt := Int32.lt_iff_toInt_lt
theorem zi_eq {a b : Int32} : a = b ↔ a.toInt = b.toInt := Int32.toInt_inj.symm
theorem zi_r (a : Int32) : -2147483648 ≤ a.toInt ∧ a.toInt < 2147483648 := ⟨Int32.le_toInt a, Int32.toInt_lt a⟩
theorem zi_nI {n : Nat} (h : n < 2147483648) : (nI n).toInt = (n : Int) := nI_toInt h
theorem zi_of {a : Int32} (h : 0 ≤ a.toInt) : a = nI a.toInt.toNat := by
  have := zi_r a
  rw [zi_eq, zi_nI (by omega)]; omega
theorem zi_lit0 : (0 : Int32).toInt = 0 := rfl
theorem zi_lit1 : (1 : Int32).toInt = 1 := rfl
theorem zi_m1 : (-1 : Int32).toInt = -1 := rfl
/-! ===== the worlds of the class and of the reference ===== -/
abbrev hyB : Type := (Nat → Nat → Int32) × (Nat → Int32)
def sv {α : Type} (f : Nat → α) (k : Nat) (x : α) : Nat → α := fun j => match Nat.beq j k with
  | true => x
  | false => f j
/-- a scalar field, an array field set anew -/
def ss (B : hyB) (k : Nat) (x : Int32) : hyB := (B.1, sv B.2 k x)
def sa (B : hyB) (k : Nat) (f : Nat → Int32) : hyB := (sv B.1 k f, B.2)
theorem sv_self {α : Type} (f : Nat → α) (k : Nat) : sv f k (f k) = f := by
  funext j
  unfold sv
  cases h : Nat.beq j k with
  | true => rw [Nat.eq_of_beq_eq_true h]
  | false => rfl
def w0 : hyC := .inr (5, [hy_r 1, hy_r 10, hy_r 13, hy_r 20, hy_r 29])
def wN (B : hyB) : hyW := [.inr (2, [hy_r 2, hy_r 3, hy_r 4, hy_r 5, hy_r 6, hy_r 7, hy_r 8, hy_r 9, .inl (B.2 8), .inl (B.2 9), .inl (B.2 10)]), .inl (false, 8, B.1 0), .inl (false, 10, B.1 1), .inl (false, 24, B.1 2), .inl (false, 24, B.1 3), .inl (false, 24, B.1 4), .inl (false, 24, B.1 5), .inl (false, 24, B.1 6), .inl (false, 24, B.1 7)]
def wF (B : hyB) : hyW := [.inr (0, [hy_r 11, hy_r 12, .inl (B.2 2)]), .inl (false, 8, B.1 0), .inl (false, 8, B.1 1)]
def wS (B : hyB) : hyW := [.inr (4, [hy_r 14, hy_r 15, hy_r 16, hy_r 17, hy_r 18, hy_r 19, .inl (B.2 6), .inl (B.2 7), .inl (B.2 8), .inl (B.2 9)]), .inl (false, 7, B.1 0), .inl (false, 7, B.1 1), .inl (false, 7, B.1 2), .inl (false, 7, B.1 3), .inl (false, 7, B.1 4), .inl (false, 7, B.1 5)]
def wT (B : hyB) : hyW := [.inr (1, [hy_r 21, hy_r 22, hy_r 23, hy_r 24, hy_r 25, hy_r 26, hy_r 27, hy_r 28, .inl (B.2 8), .inl (B.2 9), .inl (B.2 10), .inl (B.2 11)]), .inl (false, 6, B.1 0), .inl (false, 6, B.1 1), .inl (false, 8, B.1 2), .inl (false, 8, B.1 3), .inl (false, 8, B.1 4), .inl (false, 256, B.1 5), .inl (false, 256, B.1 6), .inl (false, 16, B.1 7)]
def wC (B : hyB) : hyW := [.inr (3, [.inl (B.2 0), .inl (B.2 1), .inl (B.2 2)])]
def wM (B : hyB) : hyW := [.inr (6, [.inl (B.2 0), hy_r 31, hy_r 32, .inl (B.2 3), hy_r 33, hy_r 34, hy_r 35, hy_r 36, hy_r 37, hy_r 38, .inl (B.2 10), hy_r 39, .inl (B.2 12), hy_r 40, .inl (B.2 14), .inl (B.2 15), hy_r 41, hy_r 42, hy_r 43, hy_r 44, .inl (B.2 20), .inl (B.2 21), hy_r 45, hy_r 46, .inl (B.2 24), hy_r 47, hy_r 48, .inl (B.2 27), .inl (B.2 28), .inl (B.2 29), hy_r 49, hy_r 50, hy_r 51, .inl (B.2 33), hy_r 52, hy_r 53]),
  .inl (false, 8, B.1 1), .inl (false, 10, B.1 2), .inl (false, 24, B.1 4), .inl (false, 24, B.1 5), .inl (false, 24, B.1 6), .inl (false, 24, B.1 7), .inl (false, 24, B.1 8), .inl (false, 24, B.1 9), .inl (false, 8, B.1 11), .inl (false, 8, B.1 13), .inl (false, 7, B.1 16), .inl (false, 7, B.1 17), .inl (false, 7, B.1 18), .inl (false, 7, B.1 19), .inl (false, 6, B.1 22), .inl (false, 6, B.1 23), .inl (false, 8, B.1 25), .inl (false, 8, B.1 26), .inl (true, 256, B.1 30), .inl (false, 7, B.1 31), .inl (false, 7, B.1 32), .inl (false, 8, B.1 34), .inl (false, 8, B.1 35)]
/-- the whole: the yard's cells, then those of R -/
def wW (N F S T C : hyB) (R : hyW) : hyW := w0 :: (wN N ++ (wF F ++ (wS S ++ (wT T ++ (wC C ++ R)))))
