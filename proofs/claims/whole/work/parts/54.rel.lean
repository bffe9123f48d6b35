/-! ===== the relation of class and reference ===== -/
def eqN (N M : hyB) : Prop := N.1 0 = M.1 1 ∧ N.1 1 = M.1 2 ∧ N.1 2 = M.1 4 ∧ N.1 3 = M.1 5 ∧ N.1 4 = M.1 6 ∧ N.1 5 = M.1 7 ∧ N.1 6 = M.1 8 ∧ N.2 9 = M.2 0 ∧ N.2 10 = M.2 14
def bdN (N : hyB) : Prop := (∀ i, 0 ≤ (N.1 1 i).toInt ∧ (N.1 1 i).toInt ≤ 50) ∧ (∀ i, 0 ≤ (N.1 5 i).toInt ∧ (N.1 5 i).toInt ≤ 2000) ∧ (∀ i, 0 ≤ (N.1 6 i).toInt ∧ (N.1 6 i).toInt ≤ 50 * (N.2 9).toInt) ∧ 0 ≤ (N.2 9).toInt ∧ (N.2 9).toInt ≤ 500
/-- what finds are known to lead to: no net that was never afloat -/
def neA (s : Nat → Nat) (c n : Nat) (st : Nat → Int32) : Prop := ∀ k, k < n → st k = 0 → ∀ f, f < c → (s f).testBit k = false
def rN (s : Nat → Nat) (c n : Nat) (N F M : hyB) : Prop := eqN N M ∧ (∀ k, k < n → N.1 7 k = stv s c (M.1 9) k) ∧ iN N n ∧ kM M s c n ∧ iF F s c ∧ (∀ f, f < c → sureP s c f (F.1 1 f)) ∧ (∃ φ, way s c φ) ∧ neA s c n (M.1 9) ∧ bdN N
def relN (N F M : hyB) : Prop := ∃ s c n, rN s c n N F M
def relS (S M : hyB) : Prop := ∃ so ho du wo ch c, iS S so ho du wo ch c ∧ iSM M so ho du wo ch c
def relT (T M : hyB) : Prop := ∃ l m L lo R c, iT l m L lo R c T ∧ iTM M l m L lo R c
def relC (C M : hyB) : Prop := C.2 0 = M.2 28 ∧ C.2 1 = M.2 29 ∧ C.2 2 = M.2 27 ∧ iC C
def rel (N F S T C M : hyB) : Prop := relN N F M ∧ relS S M ∧ relT T M ∧ relC C M
theorem relS_fr {S M M' : hyB} (h : relS S M) (h1 : ∀ k, k < 20 → 16 ≤ k → M'.1 k = M.1 k) (h2 : M'.2 20 = M.2 20) (h3 : M'.2 15 = M.2 15) : relS S M' := by
  obtain ⟨so, ho, du, wo, ch, c, a, b⟩ := h
  refine ⟨so, ho, du, wo, ch, c, a, ?_⟩
  unfold iSM at b ⊢
  rw [h1 16 (by omega) (by omega), h1 17 (by omega) (by omega), h1 18 (by omega) (by omega), h1 19 (by omega) (by omega), h2, h3]
  exact b
theorem relT_fr {T M M' : hyB} (h : relT T M) (h1 : ∀ k, k < 27 → 22 ≤ k → M'.1 k = M.1 k) (h2 : M'.2 21 = M.2 21) (h3 : M'.2 24 = M.2 24) : relT T M' := by
  obtain ⟨l, m, L, lo, R, c, a, b⟩ := h
  refine ⟨l, m, L, lo, R, c, a, ?_⟩
  unfold iTM at b ⊢
  rw [h1 22 (by omega) (by omega), h1 23 (by omega) (by omega), h1 25 (by omega) (by omega), h1 26 (by omega) (by omega), h2, h3]
  exact b
theorem relC_fr {C M M' : hyB} (h : relC C M) (h2 : M'.2 28 = M.2 28) (h3 : M'.2 29 = M.2 29) (h4 : M'.2 27 = M.2 27) : relC C M' := by
  unfold relC at h ⊢
  rw [h2, h3, h4]
  exact h
theorem eqN_fr {N M M' : hyB} (h : eqN N M) (h1 : ∀ k, k < 10 → M'.1 k = M.1 k) (h2 : M'.2 0 = M.2 0) (h3 : M'.2 14 = M.2 14) : eqN N M' := by
  unfold eqN at h ⊢
  rw [h1 1 (by omega), h1 2 (by omega), h1 4 (by omega), h1 5 (by omega), h1 6 (by omega), h1 7 (by omega), h1 8 (by omega), h2, h3]
  exact h
theorem rN_fr {s : Nat → Nat} {c n : Nat} {N F M M' : hyB} (h : rN s c n N F M) (hk : kM M' s c n) (h1 : ∀ k, k < 10 → M'.1 k = M.1 k) (h2 : M'.2 0 = M.2 0) (h3 : M'.2 14 = M.2 14) : rN s c n N F M' := by
  obtain ⟨a1, a2, a3, a4, a5, a6, a7, a8, a9⟩ := h
  refine ⟨eqN_fr a1 h1 h2 h3, ?_, a3, hk, a5, a6, a7, ?_, a9⟩
  · rw [h1 9 (by omega)]; exact a2
  · rw [h1 9 (by omega)]; exact a8
theorem kM_fr {s : Nat → Nat} {c n : Nat} {M M' : hyB} (h : kM M s c n) (h1 : M'.1 11 = M.1 11) (h2 : M'.1 13 = M.1 13) (h3 : M'.2 10 = M.2 10) (h4 : M'.2 3 = M.2 3) (h5 : M'.2 12 = M.2 12) : kM M' s c n := by
  unfold kM iFM at h ⊢
  rw [h1, h2, h3, h4, h5]
  exact h
theorem relN_fr {N F M M' : hyB} (h : relN N F M) (h1 : ∀ k, k < 14 → M'.1 k = M.1 k) (h2 : ∀ k, k < 15 → M'.2 k = M.2 k) : relN N F M' := by
  obtain ⟨s, c, n, a⟩ := h
  exact ⟨s, c, n, rN_fr a (kM_fr a.2.2.2.1 (h1 11 (by omega)) (h1 13 (by omega)) (h2 10 (by omega)) (h2 3 (by omega)) (h2 12 (by omega))) (fun k hk => h1 k (by omega)) (h2 0 (by omega)) (h2 14 (by omega))⟩
theorem rest_M {S T C M M' : hyB} (h : scrM M M') (hS : relS S M) (hT : relT T M) (hC : relC C M) : relS S M' ∧ relT T M' ∧ relC C M' :=
  ⟨relS_fr hS (fun k h1 h2 => h.1 k (by omega) (by omega)) (h.2 20 (by omega)) (h.2 15 (by omega)), relT_fr hT (fun k h1 h2 => h.1 k (by omega) (by omega)) (h.2 21 (by omega)) (h.2 24 (by omega)), relC_fr hC (h.2 28 (by omega)) (h.2 29 (by omega)) (h.2 27 (by omega))⟩
theorem rel_M {s : Nat → Nat} {c n : Nat} {N F S T C M M' : hyB} (h : scrM M M') (hk : kM M' s c n) (hN : rN s c n N F M) (hS : relS S M) (hT : relT T M) (hC : relC C M) : rel N F S T C M' :=
  ⟨⟨s, c, n, rN_fr hN hk (fun k h1 => h.1 k (by omega) (by omega)) (h.2 0 (by omega)) (h.2 14 (by omega))⟩, rest_M h hS hT hC⟩
theorem rel_P {N F S T C M M' : hyB} (h : scrP M M') (hN : relN N F M) (hS : relS S M) (hT : relT T M) (hC : relC C M) : rel N F S T C M' :=
  ⟨relN_fr hN (fun k h1 => h.1 k (by omega) (by omega)) (fun k h1 => h.2 k (by omega)), relS_fr hS (fun k h1 h2 => h.1 k (by omega) (by omega)) (h.2 20 (by omega)) (h.2 15 (by omega)), relT_fr hT (fun k h1 h2 => h.1 k (by omega) (by omega)) (h.2 21 (by omega)) (h.2 24 (by omega)), relC_fr hC (h.2 28 (by omega)) (h.2 29 (by omega)) (h.2 27 (by omega))⟩
theorem rel_T {N F S T C M M' : hyB} (h : scrT M M') (hN : relN N F M) (hS : relS S M) (hT : relT T M) (hC : relC C M) : rel N F S T C M' :=
  ⟨relN_fr hN (fun k h1 => h.1 k (by omega) (by omega)) (fun k h1 => h.2 k), relS_fr hS (fun k h1 h2 => h.1 k (by omega) (by omega)) (h.2 20) (h.2 15), relT_fr hT (fun k h1 h2 => h.1 k (by omega) (by omega)) (h.2 21) (h.2 24), relC_fr hC (h.2 28) (h.2 29) (h.2 27)⟩
/-- a call of the class and the same of the reference: same answers, related behind -/
def stp (MY MM : hyM) (as : List hyV) (N F S T C M : hyB) : Prop := ∃ (d1 : Nat) (Q1 : hyQ), hy_R d1 MY 0 0 (hy_r 0 :: as) (wW N F S T C (wM M)) Q1 ∧ d1 ≤ 29 ∧ ∀ o w1, Q1 o w1 → ∃ x N' F' S' T' C', o = some x ∧ w1 = wW N' F' S' T' C' (wM M) ∧ ∃ (d2 : Nat) (Q2 : hyQ), hy_R d2 MM 0 0 (hy_r 30 :: as) (wW N' F' S' T' C' (wM M)) Q2 ∧ d2 ≤ 29 ∧ ∀ o2 w2, Q2 o2 w2 → o2 = some x ∧ ∃ M', rel N' F' S' T' C' M' ∧ w2 = wW N' F' S' T' C' (wM M')
theorem iNM_of {s : Nat → Nat} {c n : Nat} {N F M : hyB} (h : rN s c n N F M) : iNM M n := by
  obtain ⟨a1, a2, a3, a4, a5⟩ := h
  have h3 := a4.1.2.2.2.2.1
  refine ⟨h3, a3.2.1, ?_, ?_⟩
  · rw [← a1.1]; exact a3.2.2.1
  · rw [← a1.2.2.1]; exact a3.2.2.2
theorem zb {a : Int32} {n : Nat} (h : 0 ≤ a) (h2 : a ≤ nI n) (hn : n < 2147483648) : 0 ≤ a.toInt ∧ a.toInt ≤ n := by
  rw [zi_le, zi_lit0] at h
  rw [zi_le, zi_nI hn] at h2
  exact ⟨h, h2⟩
theorem upd_bd {f : Nat → Int32} {k : Nat} {v : Int32} {b : Int} (h : ∀ i, 0 ≤ (f i).toInt ∧ (f i).toInt ≤ b) (hv : 0 ≤ v.toInt ∧ v.toInt ≤ b) : ∀ i, 0 ≤ (upd f k v i).toInt ∧ (upd f k v i).toInt ≤ b := fun i => by
  unfold upd
  split
  · exact hv
  · exact h i
section
variable (N F S T C M : hyB)
theorem st_salt (a v : Int32) (h : rel N F S T C M) : stp mX5_salt mX6_salt [.inl a, .inl v] N F S T C M := by
  obtain ⟨⟨s, c, n, hN⟩, hS, hT, hC⟩ := h
  refine ⟨5, _, y_salt N F S T C (wM M) a v, by omega, ?_⟩
  rintro o w1 ⟨x, rfl, ⟨q, rfl, rfl⟩ | ⟨q, rfl, rfl⟩⟩
  · refine ⟨1, sa N 0 (upd (N.1 0) a.toNatClampNeg v), F, S, T, C, rfl, rfl, 4, _, m_salt _ F S T C M a v, by omega, ?_⟩
    rintro o w2 ⟨x, rfl, ⟨_, rfl, rfl⟩ | ⟨q2, _⟩⟩
    · refine ⟨rfl, sa M 1 (upd (M.1 1) a.toNatClampNeg v), ⟨⟨s, c, n, ?_⟩, hS, hT, hC⟩, rfl⟩
      obtain ⟨⟨e0, e1⟩, a2, a3, a4, a5, a6, a7, a8, a9⟩ := hN
      refine ⟨⟨?_, e1⟩, a2, ⟨a3.1, a3.2.1, ?_, a3.2.2.2⟩, a4, a5, a6, a7, a8, a9⟩
      · show upd (N.1 0) a.toNatClampNeg v = upd (M.1 1) a.toNatClampNeg v
        rw [e0]
      · exact upd_bd a3.2.2.1 (zb (n := 9) q.2.1 q.2.2 (by omega))
    · exact absurd q q2
  · refine ⟨0, N, F, S, T, C, rfl, rfl, 4, _, m_salt N F S T C M a v, by omega, ?_⟩
    rintro o w2 ⟨x, rfl, ⟨q2, _⟩ | ⟨_, rfl, rfl⟩⟩
    · exact absurd q2 q
    · exact ⟨rfl, M, ⟨⟨s, c, n, hN⟩, hS, hT, hC⟩, rfl⟩
theorem st_ripens (a v : Int32) (h : rel N F S T C M) : stp mX5_ripens mX6_ripens [.inl a, .inl v] N F S T C M := by
  obtain ⟨⟨s, c, n, hN⟩, hS, hT, hC⟩ := h
  refine ⟨5, _, y_ripens N F S T C (wM M) a v, by omega, ?_⟩
  rintro o w1 ⟨x, rfl, ⟨q, rfl, rfl⟩ | ⟨q, rfl, rfl⟩⟩
  · refine ⟨1, sa N 1 (upd (N.1 1) a.toNatClampNeg v), F, S, T, C, rfl, rfl, 4, _, m_ripens _ F S T C M a v, by omega, ?_⟩
    rintro o w2 ⟨x, rfl, ⟨_, rfl, rfl⟩ | ⟨q2, _⟩⟩
    · refine ⟨rfl, sa M 2 (upd (M.1 2) a.toNatClampNeg v), ⟨⟨s, c, n, ?_⟩, hS, hT, hC⟩, rfl⟩
      obtain ⟨⟨e0, e1, e2⟩, a2, a3, a4, a5, a6, a7, a8, a9, b2, b3⟩ := hN
      refine ⟨⟨e0, ?_, e2⟩, a2, a3, a4, a5, a6, a7, a8, ?_, b2, b3⟩
      · show upd (N.1 1) a.toNatClampNeg v = upd (M.1 2) a.toNatClampNeg v
        rw [e1]
      · exact upd_bd a9 (zb (n := 50) q.2.1 q.2.2 (by omega))
    · exact absurd q q2
  · refine ⟨0, N, F, S, T, C, rfl, rfl, 4, _, m_ripens N F S T C M a v, by omega, ?_⟩
    rintro o w2 ⟨x, rfl, ⟨q2, _⟩ | ⟨_, rfl, rfl⟩⟩
    · exact absurd q2 q
    · exact ⟨rfl, M, ⟨⟨s, c, n, hN⟩, hS, hT, hC⟩, rfl⟩
end
