/-! ===== counting: sets as functions to Bool; bitCount ===== -/
def cb (X : Nat → Bool) : Nat → Nat
  | 0 => 0
  | n + 1 => cb X n + (X n).toNat
theorem cb_add (X : Nat → Bool) (m : Nat) : ∀ n, cb X (m + n) = cb X m + cb (fun k => X (m + k)) n
  | 0 => rfl
  | n + 1 => by
    have := cb_add X m n
    show cb X (m + n) + (X (m + n)).toNat = cb X m + (cb (fun k => X (m + k)) n + (X (m + n)).toNat)
    omega
theorem cb_congr {X Y : Nat → Bool} : ∀ {n : Nat}, (∀ k, k < n → X k = Y k) → cb X n = cb Y n
  | 0, _ => rfl
  | n + 1, h => by
    have := cb_congr (X := X) (Y := Y) (n := n) (fun k hk => h k (by omega))
    show cb X n + (X n).toNat = cb Y n + (Y n).toNat
    rw [this, h n (by omega)]
theorem cb_le (X : Nat → Bool) : ∀ n, cb X n ≤ n
  | 0 => Nat.le_refl 0
  | n + 1 => by
    have := cb_le X n
    have h : (X n).toNat ≤ 1 := Bool.toNat_le _
    show cb X n + (X n).toNat ≤ n + 1
    omega
theorem andB {q r m s : Nat} (hr : r < 256) (hs : s < 256) : (256 * q + r) &&& (256 * m + s) = 256 * (q &&& m) + (r &&& s) := by
  have h3 : r &&& s < 2 ^ 8 := Nat.lt_of_le_of_lt Nat.and_le_left hr
  apply Nat.eq_of_testBit_eq
  intro i
  rw [Nat.testBit_and, show (256 : Nat) = 2 ^ 8 from rfl, Nat.testBit_two_pow_mul_add _ hr, Nat.testBit_two_pow_mul_add _ hs, Nat.testBit_two_pow_mul_add _ h3]
  split
  · rw [Nat.testBit_and]
  · rw [Nat.testBit_and]
def pS1 (M x : Nat) : Nat := x - (x / 2 &&& M)
def pS2 (M x : Nat) : Nat := (x &&& M) + (x / 4 &&& M)
def pS3 (M x : Nat) : Nat := (x + x / 16) &&& M
def pB1 (a : Nat) : Nat := a - (a / 2 &&& 0x55)
def pB2 (a : Nat) : Nat := (a &&& 0x33) + (a / 4 &&& 0x33)
set_option maxRecDepth 100000 in
theorem pT1 : ∀ a : Fin 256, (128 + a.val / 2) &&& 0x55 = (a.val / 2) &&& 0x55 := by decide +kernel
set_option maxRecDepth 100000 in
theorem pT2 : ∀ (c : Fin 4) (a : Fin 256), (64 * c.val + a.val / 4) &&& 0x33 = (a.val / 4) &&& 0x33 := by decide +kernel
set_option maxRecDepth 100000 in
theorem pT3 : ∀ a : Fin 256, pB1 a.val < 256 ∧ pB2 (pB1 a.val) < 256 ∧ pB2 (pB1 a.val) % 16 ≤ 4 ∧ pB2 (pB1 a.val) / 16 ≤ 4 ∧ pB2 (pB1 a.val) % 16 + pB2 (pB1 a.val) / 16 = cb (fun k => a.val.testBit k) 8 := by decide +kernel
theorem pS1_b {m y a : Nat} (ha : a < 256) : pS1 (256 * m + 0x55) (256 * y + a) = 256 * pS1 m y + pB1 a := by
  have h1 : (256 * y + a) / 2 = 256 * (y / 2) + (128 * (y % 2) + a / 2) := by omega
  have h2 : (128 * (y % 2) + a / 2) &&& 0x55 = (a / 2) &&& 0x55 := by
    rcases (show y % 2 = 0 ∨ y % 2 = 1 by omega) with h | h
    · rw [h, Nat.mul_zero, Nat.zero_add]
    · rw [h, Nat.mul_one]; exact pT1 ⟨a, ha⟩
  have h3 : (y / 2 &&& m) ≤ y / 2 := Nat.and_le_left
  have h4 : (a / 2 &&& 0x55) ≤ a / 2 := Nat.and_le_left
  unfold pS1 pB1
  rw [h1, andB (by omega) (by decide), h2]
  omega
theorem pS2_b {m y a : Nat} (ha : a < 256) : pS2 (256 * m + 0x33) (256 * y + a) = 256 * pS2 m y + pB2 a := by
  have h1 : (256 * y + a) / 4 = 256 * (y / 4) + (64 * (y % 4) + a / 4) := by omega
  have h2 : (64 * (y % 4) + a / 4) &&& 0x33 = (a / 4) &&& 0x33 := pT2 ⟨y % 4, by omega⟩ ⟨a, ha⟩
  unfold pS2 pB2
  rw [h1, andB ha (by decide), andB (by omega) (by decide), h2]
  omega
theorem pS3_b {m y a : Nat} (ha : a < 256) (h1 : a % 16 ≤ 4) (h2 : a / 16 ≤ 4) (h3 : y % 16 ≤ 4) : pS3 (256 * m + 0x0f) (256 * y + a) = 256 * pS3 m y + (a % 16 + a / 16) := by
  have e : 256 * y + a + (256 * y + a) / 16 = 256 * (y + y / 16) + (a + a / 16 + 16 * (y % 16)) := by omega
  unfold pS3
  rw [e, andB (by omega) (by decide), show (0x0f : Nat) = 2 ^ 4 - 1 from rfl, Nat.and_two_pow_sub_one_eq_mod]
  omega
theorem nI_and (a b : Nat) : nI a &&& nI b = nI (a &&& b) := by
  apply Int32.toBitVec_inj.mp
  show (Int32.ofNat a &&& Int32.ofNat b).toBitVec = (Int32.ofNat (a &&& b)).toBitVec
  rw [Int32.toBitVec_and, Int32.toBitVec_ofNat', Int32.toBitVec_ofNat', Int32.toBitVec_ofNat']
  exact BitVec.ofNat_and.symm
theorem ush_I {x : Nat} (s : Int32) (k : Nat) (hs : ((s.toUInt32 &&& Int32.toUInt32 31).toBitVec % 32).toNat = k) (h : x < 2 ^ 32) : hy_ush (nI x) s = nI (x / 2 ^ k) := pk_ushrN h s k hs
theorem p_end {p1 p2 p3 : Nat} (h1 : p1 ≤ 8) (h2 : p2 ≤ 8) (h3 : p3 ≤ 8) : (256 * (256 * (256 * 0 + p3) + p2) + p1 + (256 * (256 * (256 * 0 + p3) + p2) + p1) / 2 ^ 8 + (256 * (256 * (256 * 0 + p3) + p2) + p1 + (256 * (256 * (256 * 0 + p3) + p2) + p1) / 2 ^ 8) / 2 ^ 16) % 2 ^ 6 = p1 + (p2 + p3) := by
  have d1 : (256 * (256 * (256 * 0 + p3) + p2) + p1) / 2 ^ 8 = 256 * p3 + p2 := by omega
  rw [d1]
  have d2 : (256 * (256 * (256 * 0 + p3) + p2) + p1 + (256 * p3 + p2)) / 2 ^ 16 = p3 := by omega
  rw [d2]
  omega
theorem bc_I {x : Nat} (h : x < 16777216) : g_bitCount [nI x] = nI (cb (fun k => x.testBit k) 24) := by
  obtain ⟨a, ha, b, hb, c, hc, rfl⟩ : ∃ a, a < 256 ∧ ∃ b, b < 256 ∧ ∃ c, c < 256 ∧ x = 256 * (256 * (256 * 0 + c) + b) + a := ⟨x % 256, by omega, x / 256 % 256, by omega, x / 65536, by omega, by omega⟩
  obtain ⟨a1, a2, a3, a4, a5⟩ := pT3 ⟨a, ha⟩
  obtain ⟨b1, b2, b3, b4, b5⟩ := pT3 ⟨b, hb⟩
  obtain ⟨c1, c2, c3, c4, c5⟩ := pT3 ⟨c, hc⟩
  dsimp only at a1 a2 a3 a4 a5 b1 b2 b3 b4 b5 c1 c2 c3 c4 c5
  generalize hx : 256 * (256 * (256 * 0 + c) + b) + a = x at h ⊢
  have s1 : pS1 1431655765 x = 256 * (256 * (256 * 0 + pB1 c) + pB1 b) + pB1 a := by
    rw [← hx, show (1431655765 : Nat) = 256 * (256 * (256 * 0x55 + 0x55) + 0x55) + 0x55 from rfl, pS1_b ha, pS1_b hb, pS1_b hc]
    rfl
  have g1 : g_bc1 (nI x) = nI (256 * (256 * (256 * 0 + pB1 c) + pB1 b) + pB1 a) := by
    have e : g_bc1 (nI x) = nI (pS1 1431655765 x) := by
      have hle : (x / 2 &&& 1431655765) ≤ x := Nat.le_trans Nat.and_le_left (by omega)
      show nI x - (hy_ush (nI x) 1 &&& nI 1431655765) = _
      rw [ush_I 1 1 (by decide) (by omega), nI_and, pk_sub hle]; rfl
    rw [e, s1]
  generalize hx2 : 256 * (256 * (256 * 0 + pB1 c) + pB1 b) + pB1 a = x2 at g1
  have s2 : pS2 858993459 x2 = 256 * (256 * (256 * 0 + pB2 (pB1 c)) + pB2 (pB1 b)) + pB2 (pB1 a) := by
    rw [← hx2, show (858993459 : Nat) = 256 * (256 * (256 * 0x33 + 0x33) + 0x33) + 0x33 from rfl, pS2_b a1, pS2_b b1, pS2_b c1]
    rfl
  have g2 : g_bc2 (nI x2) = nI (256 * (256 * (256 * 0 + pB2 (pB1 c)) + pB2 (pB1 b)) + pB2 (pB1 a)) := by
    have e : g_bc2 (nI x2) = nI (pS2 858993459 x2) := by
      show (nI x2 &&& nI 858993459) + (hy_ush (nI x2) 2 &&& nI 858993459) = _
      rw [ush_I 2 2 (by decide) (by omega), nI_and, nI_and, nI_add]; rfl
    rw [e, s2]
  generalize hx3 : 256 * (256 * (256 * 0 + pB2 (pB1 c)) + pB2 (pB1 b)) + pB2 (pB1 a) = x3 at g2
  have s3 : pS3 252645135 x3 = 256 * (256 * (256 * 0 + (pB2 (pB1 c) % 16 + pB2 (pB1 c) / 16)) + (pB2 (pB1 b) % 16 + pB2 (pB1 b) / 16)) + (pB2 (pB1 a) % 16 + pB2 (pB1 a) / 16) := by
    rw [← hx3, show (252645135 : Nat) = 256 * (256 * (256 * 0x0f + 0x0f) + 0x0f) + 0x0f from rfl, pS3_b a2 a3 a4 (by omega), pS3_b b2 b3 b4 (by omega), pS3_b c2 c3 c4 (by omega)]
    rfl
  rw [a5, b5, c5] at s3
  have g3 : g_bc3 (nI x3) = nI (pS3 252645135 x3) := by
    show (nI x3 + hy_ush (nI x3) 4) &&& nI 252645135 = _
    rw [ush_I 4 4 (by decide) (by omega), nI_add, nI_and]; rfl
  rw [s3] at g3
  have la := cb_le (fun k => a.testBit k) 8
  have lb := cb_le (fun k => b.testBit k) 8
  have lc := cb_le (fun k => c.testBit k) 8
  have tot : cb (fun k => x.testBit k) 24 = cb (fun k => a.testBit k) 8 + (cb (fun k => b.testBit k) 8 + cb (fun k => c.testBit k) 8) := by
    have t1 : ∀ k, x.testBit (8 + k) = (256 * (256 * 0 + c) + b).testBit k := fun k => by
      rw [← hx, show (256 : Nat) = 2 ^ 8 from rfl, Nat.testBit_two_pow_mul_add _ ha, if_neg (by omega)]
      congr 1; omega
    have t2 : ∀ k, (256 * (256 * 0 + c) + b).testBit (8 + k) = (256 * 0 + c).testBit k := fun k => by
      rw [show (256 : Nat) = 2 ^ 8 from rfl, Nat.testBit_two_pow_mul_add _ hb, if_neg (by omega)]
      congr 1; omega
    rw [show 24 = 8 + (8 + 8) from rfl, cb_add, cb_add]
    congr 1
    · refine cb_congr (fun k hk => ?_)
      rw [← hx, show (256 : Nat) = 2 ^ 8 from rfl, Nat.testBit_two_pow_mul_add _ ha, if_pos hk]
    · congr 1
      · refine cb_congr (fun k hk => ?_)
        rw [t1, show (256 : Nat) = 2 ^ 8 from rfl, Nat.testBit_two_pow_mul_add _ hb, if_pos hk]
      · refine cb_congr (fun k hk => ?_)
        rw [t1, t2, Nat.mul_zero, Nat.zero_add]
  rw [tot]
  show g_bc5 (g_bc4 (g_bc3 (g_bc2 (g_bc1 (nI x))))) &&& nI 63 = _
  rw [g1, g2, g3]
  generalize cb (fun k => a.testBit k) 8 = p1 at *
  generalize cb (fun k => b.testBit k) 8 = p2 at *
  generalize cb (fun k => c.testBit k) 8 = p3 at *
  show (nI (256 * (256 * (256 * 0 + p3) + p2) + p1) + hy_ush (nI (256 * (256 * (256 * 0 + p3) + p2) + p1)) 8 + hy_ush (nI (256 * (256 * (256 * 0 + p3) + p2) + p1) + hy_ush (nI (256 * (256 * (256 * 0 + p3) + p2) + p1)) 8) 16) &&& nI 63 = _
  rw [ush_I 8 8 (by decide) (by omega), nI_add, ush_I 16 16 (by decide) (by omega), nI_add, nI_and, show (63 : Nat) = 2 ^ 6 - 1 from rfl, Nat.and_two_pow_sub_one_eq_mod, p_end la lb lc]
