/-! ===== the nets of the class, the rest ===== -/
/-- how many below i -/
def cntf (P : Nat → Prop) [DecidablePred P] : Nat → Nat
  | 0 => 0
  | i + 1 => cntf P i + (if P i then 1 else 0)
theorem cntf_le (P : Nat → Prop) [DecidablePred P] : ∀ i, cntf P i ≤ i
  | 0 => Nat.le_refl 0
  | i + 1 => by have := cntf_le P i; unfold cntf; split <;> omega
/-- a set of numbers below i as bits -/
def bitf (P : Nat → Prop) [DecidablePred P] : Nat → Nat
  | 0 => 0
  | i + 1 => bitf P i + (if P i then 2 ^ i else 0)
theorem bitf_lt (P : Nat → Prop) [DecidablePred P] : ∀ i, bitf P i < 2 ^ i
  | 0 => by show 0 < 1; omega
  | i + 1 => by have := bitf_lt P i; unfold bitf; rw [Nat.pow_succ]; split <;> omega
theorem bitf_test (P : Nat → Prop) [DecidablePred P] : ∀ i k, (bitf P i).testBit k = decide (k < i ∧ P k)
  | 0, k => by simp [bitf]
  | i + 1, k => by
    have h1 := bitf_lt P i
    have h2 := bitf_test P i k
    unfold bitf
    split
    · rename_i hp
      rw [Nat.add_comm]
      by_cases e : k = i
      · subst e
        rw [Nat.testBit_two_pow_add_eq, Nat.testBit_lt_two_pow h1]
        simp [hp]
      · by_cases q : k < i
        · rw [Nat.testBit_two_pow_add_gt q, h2]
          have : k < i + 1 := by omega
          simp [q, this]
        · have hb : (2 ^ i + bitf P i) < 2 ^ k := by
            have : 2 ^ (i + 1) ≤ 2 ^ k := Nat.pow_le_pow_right (by omega) (by omega)
            rw [Nat.pow_succ] at this
            omega
          rw [Nat.testBit_lt_two_pow hb]
          have : ¬ k < i + 1 := by omega
          simp [this]
    · rename_i hp
      rw [Nat.add_zero, h2]
      by_cases e : k = i
      · subst e
        simp [hp]
      · have : k < i + 1 ↔ k < i := by omega
        simp [this]
theorem shl_1 {i : Nat} (h : i < 31) : (1 : Int32) <<< (nI i &&& 31) = nI (2 ^ i) := by
  have : ∀ j : Fin 31, (1 : Int32) <<< (nI j.val &&& 31) = nI (2 ^ j.val) := by decide
  exact this ⟨i, h⟩
theorem or_2 {a i : Nat} (h : a < 2 ^ i) (hi : i < 31) : nI a ||| nI (2 ^ i) = nI (a + 2 ^ i) := by
  have e : a ||| 2 ^ i = a + 2 ^ i := by
    have := Nat.two_pow_add_eq_or_of_lt h 1
    rw [Nat.mul_one] at this
    rw [Nat.or_comm, ← this, Nat.add_comm]
  rw [← e]
  apply Int32.toBitVec_inj.mp
  show (Int32.ofNat a ||| Int32.ofNat (2 ^ i)).toBitVec = (Int32.ofNat (a ||| 2 ^ i)).toBitVec
  rw [Int32.toBitVec_or, Int32.toBitVec_ofNat', Int32.toBitVec_ofNat', Int32.toBitVec_ofNat']
  exact BitVec.ofNat_or.symm
def stf (P : Nat → Prop) [DecidablePred P] (s : Nat → Int32) (i : Nat) : Nat → Int32 := fun k => if k < i ∧ P k then 2 else s k
theorem stf_0 {P : Nat → Prop} [DecidablePred P] {s : Nat → Int32} : stf P s 0 = s := by
  funext k; unfold stf; rw [if_neg (by omega)]
theorem stf_y {P : Nat → Prop} [DecidablePred P] {s : Nat → Int32} {i : Nat} (h : P i) : stf P s (i + 1) = upd (stf P s i) i 2 := by
  funext k
  unfold upd stf
  by_cases e : k = i
  · subst e
    rw [if_pos rfl, if_pos ⟨by omega, h⟩]
  · rw [if_neg e]
    by_cases q : k < i ∧ P k
    · rw [if_pos q, if_pos ⟨by omega, q.2⟩]
    · rw [if_neg q, if_neg (fun p => q ⟨by omega, p.2⟩)]
theorem stf_n {P : Nat → Prop} [DecidablePred P] {s : Nat → Int32} {i : Nat} (h : ¬ P i) : stf P s (i + 1) = stf P s i := by
  funext k
  unfold stf
  by_cases q : k < i ∧ P k
  · rw [if_pos q, if_pos ⟨by omega, q.2⟩]
  · rw [if_neg q, if_neg (fun p => q ⟨by have : k ≠ i := (fun e => h (e ▸ p.2)); omega, p.2⟩)]
theorem stf_i {P : Nat → Prop} [DecidablePred P] {s : Nat → Int32} {i : Nat} : stf P s i i = s i := by
  unfold stf; rw [if_neg (by omega)]
/-- weeks until a net is ripe -/
def wkf (st pt ag rt : Int32) : Int32 := if ¬ st = 0 then -1 else if ¬ pt < ag then 0 else if ¬ 0 < rt then -1 else (ag - pt + rt - 1) / rt
/-- what is told of a net -/
def tlf (B : Nat → Nat → Int32) (what : Int) (k : Nat) : Int32 :=
  if what = 0 then B 2 k else if what = 1 then B 6 k else if what = 2 then (if B 6 k < B 5 k then 0 else 1) else if what = 3 then B 7 k else if what = 4 then B 3 k else if what = 5 then B 4 k else if what = 7 then wkf (B 7 k) (B 6 k) (B 5 k) (rtf (B 1) (B 0) (B 2) k) else -1
section
variable (N F S T C : hyB) (R : hyW)
/-- what a pull gives -/
def plf (B : Nat → Nat → Int32) (k : Nat) : Int32 := if B 6 k < B 5 k then 0 else B 4 k
def c_pull (B : Nat → Nat → Int32) (a : Int32) (n k : Nat) : Prop := k < n ∧ a = nI k ∧ (B 7 k = 0 ∨ B 7 k = 3)
set_option maxRecDepth 100000 in
theorem r_n_takeOut (a : Int32) (n : Nat) (hN : iN N n) : hy_R 5 mX2_takeOut 0 0 [hy_r 1, .inl a] (wW N F S T C R) (fun o w1 => ∃ x, o = some x ∧ ((∃ k, c_pull N.1 a n k ∧ x = plf N.1 k ∧ w1 = wW (ss (sa N 7 (upd (N.1 7) k 1)) 10 (N.2 10 + plf N.1 k)) F S T C R) ∨ (¬ ∃ k, c_pull N.1 a n k) ∧ x = -1 ∧ w1 = wW N F S T C R)) := by
  obtain ⟨c1, c2, -, -⟩ := id hN
  refine hy_Ri (L := [some (hy_r 1), some (.inl a)]) rfl (by decide) (hy_ple rfl) rfl ?_
  refine hy_go hy_pfA oX2_takeOut [29] 60 0 0 _ ?_
  refine hy_cl (r_n_isNet N F S T C R a) rfl ?_
  rintro o w1 ⟨x, rfl, rfl, rfl⟩
  refine And.intro (fun q => ?_) (fun q => ?_)
  · refine hy_fin (Or.inr ⟨?_, rfl, rfl⟩)
    rw [c1] at q
    rintro ⟨k, h⟩
    exact net_out (by omega) q ⟨k, h.1, h.2.1⟩
  · rw [c1] at q
    obtain ⟨k, hk, rfl⟩ := net_in (by omega) q
    have hcl : (nI k).toNatClampNeg = k := cl_nI (by omega)
    have hin : vp_in (nI k) 24 := vn_in (by omega) (by omega)
    have go : (N.1 7 k = 0 ∨ N.1 7 k = 3) → hy_X none 5 mX2_takeOut (fun o w1 => ∃ x, o = some x ∧ ((∃ j, c_pull N.1 (nI k) n j ∧ x = plf N.1 j ∧ w1 = wW (ss (sa N 7 (upd (N.1 7) j 1)) 10 (N.2 10 + plf N.1 j)) F S T C R) ∨ (¬ ∃ j, c_pull N.1 (nI k) n j) ∧ x = -1 ∧ w1 = wW N F S T C R)) 0 0 (29, [some (hy_r 1), some (.inl (nI k))], [], wW N F S T C R) := by
      intro hst
      refine hy_go hy_pfA oX2_takeOut [] 60 0 0 _ ?_
      refine And.intro hin ?_
      refine hy_cl (r_n_isRipe (sa N 7 (upd (N.1 7) (nI k).toNatClampNeg 1)) F S T C R k (by omega)) rfl ?_
      rintro o w1 ⟨x, rfl, rfl, rfl⟩
      rw [hcl]
      refine And.intro (fun q2 => ?_) (fun q2 => ?_)
      · have q3 : N.1 6 k < N.1 5 k := by
          by_cases q3 : N.1 6 k < N.1 5 k
          · exact q3
          · have : (if N.1 6 k < N.1 5 k then (0 : Int32) else 1) = 0 := q2
            rw [if_neg q3] at this
            exact absurd this (by decide)
        have e : plf N.1 k = 0 := if_pos q3
        refine hy_fin (Or.inl ⟨k, ⟨hk, rfl, hst⟩, e.symm, ?_⟩)
        rw [e, Int32.add_zero]; rfl
      · have q3 : ¬ N.1 6 k < N.1 5 k := by
          intro q3
          have : ¬ (if N.1 6 k < N.1 5 k then (0 : Int32) else 1) = 0 := q2
          rw [if_pos q3] at this
          exact absurd rfl this
        have e : plf N.1 k = N.1 4 k := if_neg q3
        refine And.intro hin (And.intro hin ?_)
        have key : ∃ x, some (N.1 4 (nI k).toNatClampNeg) = some x ∧ ((∃ j, c_pull N.1 (nI k) n j ∧ x = plf N.1 j ∧ wW (ss (sa N 7 (upd (N.1 7) k 1)) 10 (N.2 10 + N.1 4 (nI k).toNatClampNeg)) F S T C R = wW (ss (sa N 7 (upd (N.1 7) j 1)) 10 (N.2 10 + plf N.1 j)) F S T C R) ∨ (¬ ∃ j, c_pull N.1 (nI k) n j) ∧ x = -1 ∧ wW (ss (sa N 7 (upd (N.1 7) k 1)) 10 (N.2 10 + N.1 4 (nI k).toNatClampNeg)) F S T C R = wW N F S T C R) := by
          rw [hcl]
          exact ⟨_, rfl, Or.inl ⟨k, ⟨hk, rfl, hst⟩, e.symm, by rw [e]⟩⟩
        exact key
    refine And.intro hin ?_
    refine And.intro (fun q2 => ?_) (fun q2 => ?_)
    · rw [hcl] at q2
      exact go (Or.inl q2)
    · rw [hcl] at q2
      refine And.intro hin ?_
      refine And.intro (fun q3 => ?_) (fun q3 => ?_)
      · rw [hcl] at q3
        exact go (Or.inr q3)
      · rw [hcl] at q3
        refine hy_fin (Or.inr ⟨?_, rfl, rfl⟩)
        rintro ⟨j, h1, h2, h3⟩
        have : k = j := by
          have := congrArg Int32.toInt h2
          rw [zi_nI (by omega), zi_nI (by omega)] at this; omega
        subst this
        rcases h3 with h3 | h3
        · exact q2 h3
        · exact q3 h3
theorem l_n_floatOff (Q : hyQ) (a : Int32) (n : Nat) (hN : iN N n)
    (K : Q (some (nI (cntf (fun k => N.1 7 k = 0 ∧ N.1 2 k = a) n))) (wW (sa N 7 (stf (fun k => N.1 7 k = 0 ∧ N.1 2 k = a) (N.1 7) n)) F S T C R)) :
    ∀ (j i : Nat), n - i = j → i ≤ n → hy_X none 4 mX2_floatOff Q 0 0 (13, [some (hy_r 1), some (.inl a), some (.inl (nI (cntf (fun k => N.1 7 k = 0 ∧ N.1 2 k = a) i))), some (.inl (nI i))], [], wW (sa N 7 (stf (fun k => N.1 7 k = 0 ∧ N.1 2 k = a) (N.1 7) i)) F S T C R) := by
  obtain ⟨c1, c2, -, -⟩ := id hN
  intro j
  induction j with
  | zero =>
    intro i hj hi
    have : i = n := by omega
    subst this
    refine hy_go hy_pfA oX2_floatOff [13] 60 0 0 _ ?_
    refine And.intro (fun q => K) (fun q => absurd ?_ q)
    show N.2 8 ≤ nI i
    rw [c1]; exact Int32.le_refl _
  | succ j ih =>
    intro i hj hi
    have hcl : (nI i).toNatClampNeg = i := cl_nI (by omega)
    have nx := ih (i + 1) (by omega) (by omega)
    rw [← nI_s] at nx
    have hin : vp_in (nI i) 24 := vn_in (by omega) (by omega)
    refine hy_go hy_pfA oX2_floatOff [13] 60 0 0 _ ?_
    refine And.intro (fun q => ?_) (fun q => ?_)
    · have q : N.2 8 ≤ nI i := q
      rw [c1, nI_le24 (by omega) (by omega)] at q
      omega
    · have ks : ¬ (N.1 7 i = 0 ∧ N.1 2 i = a) → hy_X none 4 mX2_floatOff Q 0 0 (13, [some (hy_r 1), some (.inl a), some (.inl (nI (cntf (fun k => N.1 7 k = 0 ∧ N.1 2 k = a) i))), some (.inl (nI i + 1))], [], wW (sa N 7 (stf (fun k => N.1 7 k = 0 ∧ N.1 2 k = a) (N.1 7) i)) F S T C R) := fun h => by
        rw [stf_n (P := fun k => N.1 7 k = 0 ∧ N.1 2 k = a) h] at nx
        rw [cntf, if_neg h, Nat.add_zero] at nx
        exact nx
      refine And.intro hin ?_
      refine And.intro (fun q2 => ?_) (fun q2 => ?_)
      · have q2 : stf (fun k => N.1 7 k = 0 ∧ N.1 2 k = a) (N.1 7) i (nI i).toNatClampNeg = 0 := q2
        rw [hcl, stf_i] at q2
        refine And.intro hin ?_
        refine And.intro (fun q3 => ?_) (fun q3 => ?_)
        · have q3 : N.1 2 (nI i).toNatClampNeg = a := q3
          rw [hcl] at q3
          refine And.intro hin ?_
          rw [stf_y (P := fun k => N.1 7 k = 0 ∧ N.1 2 k = a) ⟨q2, q3⟩] at nx
          rw [cntf, if_pos ⟨q2, q3⟩, ← nI_s] at nx
          have e : upd (stf (fun k => N.1 7 k = 0 ∧ N.1 2 k = a) (N.1 7) i) (nI i).toNatClampNeg 2 = upd (stf (fun k => N.1 7 k = 0 ∧ N.1 2 k = a) (N.1 7) i) i 2 := by rw [hcl]
          rw [← e] at nx
          exact nx
        · have q3 : ¬ N.1 2 (nI i).toNatClampNeg = a := q3
          rw [hcl] at q3
          exact ks (fun h => q3 h.2)
      · have q2 : ¬ stf (fun k => N.1 7 k = 0 ∧ N.1 2 k = a) (N.1 7) i (nI i).toNatClampNeg = 0 := q2
        rw [hcl, stf_i] at q2
        exact ks (fun h => q2 h.1)
theorem r_n_floatOff (a : Int32) (n : Nat) (hN : iN N n) : hy_R 4 mX2_floatOff 0 0 [hy_r 1, .inl a] (wW N F S T C R) (fun o w1 => ∃ x, o = some x ∧ ((0 ≤ a ∧ a ≤ 7) ∧ x = nI (cntf (fun k => N.1 7 k = 0 ∧ N.1 2 k = a) n) ∧ w1 = wW (sa N 7 (stf (fun k => N.1 7 k = 0 ∧ N.1 2 k = a) (N.1 7) n)) F S T C R ∨ ¬ (0 ≤ a ∧ a ≤ 7) ∧ x = -1 ∧ w1 = wW N F S T C R)) := by
  refine hy_Ri (L := [some (hy_r 1), some (.inl a), none, none]) rfl (by decide) (hy_ple rfl) rfl ?_
  refine hy_go hy_pfA oX2_floatOff [13] 60 0 0 _ ?_
  refine And.intro (fun q => ?_) (fun q => ?_)
  · exact hy_fin (Or.inr ⟨g_within_0 q, rfl, rfl⟩)
  · have := l_n_floatOff N F S T C R (fun o w1 => ∃ x, o = some x ∧ ((0 ≤ a ∧ a ≤ 7) ∧ x = nI (cntf (fun k => N.1 7 k = 0 ∧ N.1 2 k = a) n) ∧ w1 = wW (sa N 7 (stf (fun k => N.1 7 k = 0 ∧ N.1 2 k = a) (N.1 7) n)) F S T C R ∨ ¬ (0 ≤ a ∧ a ≤ 7) ∧ x = -1 ∧ w1 = wW N F S T C R)) a n hN ⟨_, rfl, Or.inl ⟨g_within_n0 q, rfl, rfl⟩⟩ n 0 (by omega) (by omega)
    rw [stf_0] at this
    exact this
theorem l_n_countIn (Q : hyQ) (a : Int32) (n : Nat) (hN : iN N n) (K : Q (some (nI (cntf (fun k => N.1 7 k = a) n))) (wW N F S T C R)) :
    ∀ (j i : Nat), n - i = j → i ≤ n → hy_X none 4 mX2_countIn Q 0 0 (4, [some (hy_r 1), some (.inl a), some (.inl (nI (cntf (fun k => N.1 7 k = a) i))), some (.inl (nI i))], [], wW N F S T C R) := by
  obtain ⟨c1, c2, -, -⟩ := id hN
  intro j
  induction j with
  | zero =>
    intro i hj hi
    have : i = n := by omega
    subst this
    refine hy_go hy_pfA oX2_countIn [4] 60 0 0 _ ?_
    refine And.intro (fun q => K) (fun q => absurd ?_ q)
    show N.2 8 ≤ nI i
    rw [c1]; exact Int32.le_refl _
  | succ j ih =>
    intro i hj hi
    have hcl : (nI i).toNatClampNeg = i := cl_nI (by omega)
    have nx := ih (i + 1) (by omega) (by omega)
    rw [← nI_s] at nx
    have hin : vp_in (nI i) 24 := vn_in (by omega) (by omega)
    refine hy_go hy_pfA oX2_countIn [4] 60 0 0 _ ?_
    refine And.intro (fun q => ?_) (fun q => ?_)
    · have q : N.2 8 ≤ nI i := q
      rw [c1, nI_le24 (by omega) (by omega)] at q
      omega
    · refine And.intro hin ?_
      refine And.intro (fun q2 => ?_) (fun q2 => ?_)
      · rw [hcl] at q2
        rw [cntf, if_pos q2, ← nI_s] at nx
        exact nx
      · rw [hcl] at q2
        rw [cntf, if_neg q2, Nat.add_zero] at nx
        exact nx
theorem r_n_countIn (a : Int32) (n : Nat) (hN : iN N n) : hy_R 4 mX2_countIn 0 0 [hy_r 1, .inl a] (wW N F S T C R) (fun o w1 => ∃ x, o = some x ∧ x = nI (cntf (fun k => N.1 7 k = a) n) ∧ w1 = wW N F S T C R) := by
  refine hy_Ri (L := [some (hy_r 1), some (.inl a), none, none]) rfl (by decide) (hy_ple rfl) rfl ?_
  refine hy_go hy_pfA oX2_countIn [4] 60 0 0 _ ?_
  exact l_n_countIn N F S T C R _ a n hN ⟨_, rfl, rfl, rfl⟩ n 0 (by omega) (by omega)
theorem r_n_comeBack (a : Int32) (n : Nat) (hN : iN N n) : hy_R 5 mX2_comeBack 0 0 [hy_r 1, .inl a] (wW N F S T C R) (fun o w1 => o = none ∧ ((∃ k, k < n ∧ a = nI k ∧ N.1 7 k = 2 ∧ w1 = wW (sa N 7 (upd (N.1 7) k 3)) F S T C R) ∨ (¬ ∃ k, k < n ∧ a = nI k ∧ N.1 7 k = 2) ∧ w1 = wW N F S T C R)) := by
  obtain ⟨c1, c2, -, -⟩ := id hN
  refine hy_Rv (L := [some (hy_r 1), some (.inl a)]) rfl (by decide) (hy_ple rfl) rfl ?_
  refine hy_go hy_pfA oX2_comeBack [] 60 0 0 _ ?_
  refine hy_cl (r_n_isNet N F S T C R a) rfl ?_
  rintro o w1 ⟨x, rfl, rfl, rfl⟩
  refine And.intro (fun q => ?_) (fun q => ?_)
  · rw [c1] at q
    refine And.intro rfl (Or.inr ⟨?_, rfl⟩)
    rintro ⟨k, h⟩
    exact net_out (by omega) q ⟨k, h.1, h.2.1⟩
  · rw [c1] at q
    obtain ⟨k, hk, rfl⟩ := net_in (by omega) q
    have hcl : (nI k).toNatClampNeg = k := cl_nI (by omega)
    have hin : vp_in (nI k) 24 := vn_in (by omega) (by omega)
    refine And.intro hin ?_
    refine And.intro (fun q2 => ?_) (fun q2 => ?_)
    · rw [hcl] at q2
      refine And.intro hin ?_
      have key : none = (none : Option Int32) ∧ ((∃ j, j < n ∧ nI k = nI j ∧ N.1 7 j = 2 ∧ wW (sa N 7 (upd (N.1 7) (nI k).toNatClampNeg 3)) F S T C R = wW (sa N 7 (upd (N.1 7) j 3)) F S T C R) ∨ (¬ ∃ j, j < n ∧ nI k = nI j ∧ N.1 7 j = 2) ∧ wW (sa N 7 (upd (N.1 7) (nI k).toNatClampNeg 3)) F S T C R = wW N F S T C R) := by
        rw [hcl]
        exact ⟨rfl, Or.inl ⟨k, hk, rfl, q2, rfl⟩⟩
      exact key
    · rw [hcl] at q2
      refine And.intro rfl (Or.inr ⟨?_, rfl⟩)
      rintro ⟨j, h1, h2, h3⟩
      have : k = j := by
        have := congrArg Int32.toInt h2
        rw [zi_nI (by omega), zi_nI (by omega)] at this; omega
      subst this
      exact q2 h3
theorem r_n_weeks (k n : Nat) (hN : iN N n) (hk : k < n) : hy_R 4 mX2_weeksToRipe 0 0 [hy_r 1, .inl (nI k)] (wW N F S T C R) (fun o w1 => ∃ x, o = some x ∧ x = wkf (N.1 7 k) (N.1 6 k) (N.1 5 k) (rtf (N.1 1) (N.1 0) (N.1 2) k) ∧ w1 = wW N F S T C R) := by
  obtain ⟨c1, c2, -, -⟩ := id hN
  have hcl : (nI k).toNatClampNeg = k := cl_nI (by omega)
  have hin : vp_in (nI k) 24 := vn_in (by omega) (by omega)
  refine hy_Ri (L := [some (hy_r 1), some (.inl (nI k)), none]) rfl (by decide) (hy_ple rfl) rfl ?_
  refine hy_go hy_pfA oX2_weeksToRipe [] 60 0 0 _ ?_
  refine And.intro hin ?_
  refine And.intro (fun q => ?_) (fun q => ?_)
  · rw [hcl] at q
    refine hy_cl (r_n_isRipe N F S T C R k (by omega)) rfl ?_
    rintro o w1 ⟨x, rfl, rfl, rfl⟩
    refine And.intro (fun q2 => ?_) (fun q2 => ?_)
    · have q3 : N.1 6 k < N.1 5 k := by
        by_cases q3 : N.1 6 k < N.1 5 k
        · exact q3
        · rw [if_neg q3] at q2
          exact absurd q2 (by decide)
      refine hy_cl (r_n_rateAt N F S T C R k n hN (by omega)) rfl ?_
      rintro o w1 ⟨x, rfl, rfl, rfl⟩
      refine And.intro (fun q4 => ?_) (fun q4 => ?_)
      · refine And.intro hin (And.intro hin ?_)
        refine And.intro (fun h => ?_) ?_
        · rw [h] at q4; exact absurd q4 (by decide)
        · refine hy_fin ⟨?_, rfl⟩
          show (N.1 5 (nI k).toNatClampNeg - N.1 6 (nI k).toNatClampNeg + rtf (N.1 1) (N.1 0) (N.1 2) k - 1) / rtf (N.1 1) (N.1 0) (N.1 2) k = _
          rw [hcl, wkf, if_neg (fun h => h q), if_neg (fun h => h q3), if_neg (fun h => h q4)]
      · refine hy_fin ⟨?_, rfl⟩
        rw [wkf, if_neg (fun h => h q), if_neg (fun h => h q3), if_pos q4]
    · have q3 : ¬ N.1 6 k < N.1 5 k := by
        intro q3
        rw [if_pos q3] at q2
        exact absurd rfl q2
      refine hy_fin ⟨?_, rfl⟩
      rw [wkf, if_neg (fun h => h q), if_pos q3]
  · rw [hcl] at q
    refine hy_fin ⟨?_, rfl⟩
    rw [wkf, if_pos q]
set_option maxRecDepth 100000 in
theorem r_n_tellOf (a b : Int32) (n : Nat) (hN : iN N n) : hy_R 5 mX2_tellOf 0 0 [hy_r 1, .inl a, .inl b] (wW N F S T C R) (fun o w1 => ∃ x, o = some x ∧ ((∃ k, k < n ∧ a = nI k ∧ x = tlf N.1 b.toInt k) ∨ (¬ ∃ k, k < n ∧ a = nI k) ∧ x = -1) ∧ w1 = wW N F S T C R) := by
  obtain ⟨c1, c2, -, -⟩ := id hN
  refine hy_Ri (L := [some (hy_r 1), some (.inl a), some (.inl b)]) rfl (by decide) (hy_ple rfl) rfl ?_
  refine hy_go hy_pfA oX2_tellOf [] 60 0 0 _ ?_
  refine hy_cl (r_n_isNet N F S T C R a) rfl ?_
  rintro o w1 ⟨x, rfl, rfl, rfl⟩
  refine And.intro (fun q => ?_) (fun q => ?_)
  · rw [c1] at q
    exact hy_fin ⟨Or.inr ⟨net_out (by omega) q, rfl⟩, rfl⟩
  · rw [c1] at q
    obtain ⟨k, hk, rfl⟩ := net_in (by omega) q
    have hcl : (nI k).toNatClampNeg = k := cl_nI (by omega)
    have hin : vp_in (nI k) 24 := vn_in (by omega) (by omega)
    have fin : ∀ x : Int32, x = tlf N.1 b.toInt k → ∃ y, some x = some y ∧ ((∃ j, j < n ∧ nI k = nI j ∧ y = tlf N.1 b.toInt j) ∨ (¬ ∃ j, j < n ∧ nI k = nI j) ∧ y = -1) ∧ wW N F S T C R = wW N F S T C R := fun x hx => ⟨x, rfl, Or.inl ⟨k, hk, rfl, hx⟩, rfl⟩
    refine And.intro (fun h0 => ?_) (fun h0 => And.intro (fun h1 => ?_) (fun h1 => And.intro (fun h2 => ?_) (fun h2 => And.intro (fun h3 => ?_) (fun h3 => And.intro (fun h4 => ?_) (fun h4 => And.intro (fun h5 => ?_) (fun h5 => And.intro (fun h6 => ?_) (fun h6 => And.intro (fun h7 => ?_) (fun h7 => ?_))))))))
    · refine And.intro hin (fin _ ?_)
      show N.1 2 (nI k).toNatClampNeg = _
      rw [hcl, h0]; rfl
    · refine And.intro hin (fin _ ?_)
      show N.1 6 (nI k).toNatClampNeg = _
      rw [hcl, h1]; rfl
    · refine hy_cl (r_n_isRipe N F S T C R k (by omega)) rfl ?_
      rintro o w1 ⟨x, rfl, rfl, rfl⟩
      have e : tlf N.1 b.toInt k = (if N.1 6 k < N.1 5 k then 0 else 1) := by rw [h2]; rfl
      refine And.intro (fun q2 => fin _ ?_) (fun q2 => fin _ ?_)
      · rw [e]; exact q2.symm
      · rw [e]
        by_cases q3 : N.1 6 k < N.1 5 k
        · rw [if_pos q3] at q2; exact absurd rfl q2
        · rw [if_neg q3]
    · refine And.intro hin (fin _ ?_)
      show N.1 7 (nI k).toNatClampNeg = _
      rw [hcl, h3]; rfl
    · refine And.intro hin (fin _ ?_)
      show N.1 3 (nI k).toNatClampNeg = _
      rw [hcl, h4]; rfl
    · refine And.intro hin (fin _ ?_)
      show N.1 4 (nI k).toNatClampNeg = _
      rw [hcl, h5]; rfl
    · refine fin _ ?_
      rw [h6]; rfl
    · refine hy_cl (r_n_weeks N F S T C R k n hN hk) rfl ?_
      rintro o w1 ⟨x, rfl, rfl, rfl⟩
      refine fin _ ?_
      rw [h7]; rfl
    · refine fin _ ?_
      rw [tlf, if_neg h0, if_neg h1, if_neg h2, if_neg h3, if_neg h4, if_neg h5, if_neg h7]
end
