/-! ===== packing sets of cuts into rolls of a lot, sets of mats into lots ===== -/
def isMn (P : Nat → Prop) (x : Nat) : Prop := (x < 1000000 ∧ P x ∧ ∀ v, P v → x ≤ v) ∨ (x = 1000000 ∧ ∀ v, ¬ P v)
theorem isMn_le {P : Nat → Prop} {x : Nat} (h : isMn P x) : x ≤ 1000000 := by
  rcases h with ⟨h, -⟩ | ⟨h, -⟩ <;> omega
theorem isMn_iff {P P' : Nat → Prop} {x : Nat} (h : isMn P x) (e : ∀ v, P v ↔ P' v) : isMn P' x := by
  rcases h with ⟨h1, h2, h3⟩ | ⟨h1, h2⟩
  · exact Or.inl ⟨h1, (e x).mp h2, fun v hv => h3 v ((e v).mpr hv)⟩
  · exact Or.inr ⟨h1, fun v hv => h2 v ((e v).mpr hv)⟩
theorem isMn_eq {P : Nat → Prop} {x y : Nat} (h : isMn P x) (h2 : isMn P y) : x = y := by
  rcases h with ⟨a1, a2, a3⟩ | ⟨a1, a2⟩
  · rcases h2 with ⟨b1, b2, b3⟩ | ⟨b1, b2⟩
    · have := a3 y b2; have := b3 x a2; omega
    · exact absurd a2 (b2 x)
  · rcases h2 with ⟨b1, b2, b3⟩ | ⟨b1, b2⟩
    · exact absurd b2 (a2 y)
    · omega
theorem isMn_add {P P1 P2 : Nat → Prop} {y a b : Nat} (hy : isMn P y) (ha : isMn P1 a) (hb : isMn P2 b) (bd : ∀ v1 v2, P1 v1 → P2 v2 → v1 + v2 < 1000000) : isMn (fun v => P v ∨ ∃ v1 v2, P1 v1 ∧ P2 v2 ∧ v = v1 + v2) (if a + b < y then a + b else y) := by
  have ly := isMn_le hy
  rcases ha with ⟨a1, a2, a3⟩ | ⟨a1, a2⟩
  · rcases hb with ⟨b1, b2, b3⟩ | ⟨b1, b2⟩
    · have hab := bd a b a2 b2
      by_cases q : a + b < y
      · rw [if_pos q]
        refine Or.inl ⟨hab, Or.inr ⟨a, b, a2, b2, rfl⟩, ?_⟩
        rintro v (hv | ⟨v1, v2, h1, h2, rfl⟩)
        · rcases hy with ⟨y1, y2, y3⟩ | ⟨y1, y2⟩
          · have := y3 v hv; omega
          · exact absurd hv (y2 v)
        · have := a3 v1 h1; have := b3 v2 h2; omega
      · rw [if_neg q]
        rcases hy with ⟨y1, y2, y3⟩ | ⟨y1, y2⟩
        · refine Or.inl ⟨y1, Or.inl y2, ?_⟩
          rintro v (hv | ⟨v1, v2, h1, h2, rfl⟩)
          · exact y3 v hv
          · have := a3 v1 h1; have := b3 v2 h2; omega
        · omega
    · rw [if_neg (by omega)]
      refine isMn_iff hy (fun v => ⟨Or.inl, ?_⟩)
      rintro (hv | ⟨v1, v2, h1, h2, rfl⟩)
      · exact hv
      · exact absurd h2 (b2 v2)
  · rw [if_neg (by omega)]
    refine isMn_iff hy (fun v => ⟨Or.inl, ?_⟩)
    rintro (hv | ⟨v1, v2, h1, h2, rfl⟩)
    · exact hv
    · exact absurd h1 (a2 v1)
theorem isMn_pt (d : Nat) (hd : d < 1000000) : isMn (fun v => v = d) d := Or.inl ⟨hd, rfl, fun v hv => by rw [hv]; exact Nat.le_refl _⟩
/-! sets of bits -/
def sub (P S : Nat) : Prop := ∀ i, P.testBit i = true → S.testBit i = true
theorem sub_half {P S : Nat} (h : sub P S) : sub (P / 2) (S / 2) := fun i hi => by
  rw [← Nat.testBit_succ] at hi ⊢
  exact h (i + 1) hi
theorem sub_low {P S : Nat} (h : sub P S) : P % 2 ≤ S % 2 := by
  have := h 0
  rw [Nat.testBit_zero, Nat.testBit_zero, decide_eq_true_eq, decide_eq_true_eq] at this
  omega
theorem sub_and (x S : Nat) : sub (x &&& S) S := fun i hi => by
  rw [Nat.testBit_and, Bool.and_eq_true] at hi
  exact hi.2
theorem and_half (a b : Nat) : a &&& b = 2 * (a / 2 &&& b / 2) + (a % 2) * (b % 2) := by
  have h1 : (a &&& b) / 2 = (a / 2 &&& b / 2) := Nat.and_div_two
  have h2 : (a &&& b) % 2 = (a % 2) * (b % 2) := by
    have := Nat.and_mod_two_eq_one (a := a) (b := b)
    rcases Nat.mod_two_eq_zero_or_one a with ha | ha <;> rcases Nat.mod_two_eq_zero_or_one b with hb | hb <;> rw [ha, hb] <;> omega
  omega
/-- the next smaller part of a set -/
theorem sub_next : ∀ (n S t p : Nat), S < 2 ^ n → sub t S → sub p S → p < t → p ≤ ((t - 1) &&& S)
  | 0, S, t, p, hS, ht, hp, hlt => by
    have hS : S = 0 := by simp at hS; exact hS
    have : t = 0 := by
      apply Nat.eq_of_testBit_eq
      intro i
      cases h : t.testBit i with
      | false => simp
      | true => have := ht i h; rw [hS] at this; simp at this
    omega
  | n + 1, S, t, p, hS, ht, hp, hlt => by
    have hS2 : S / 2 < 2 ^ n := by rw [Nat.pow_succ] at hS; omega
    have l1 := sub_low ht
    have l2 := sub_low hp
    rw [and_half]
    rcases Nat.mod_two_eq_zero_or_one t with h0 | h1
    · have e1 : (t - 1) / 2 = t / 2 - 1 := by omega
      have e2 : (t - 1) % 2 = 1 := by omega
      have ih := sub_next n (S / 2) (t / 2) (p / 2) hS2 (sub_half ht) (sub_half hp) (by omega)
      rw [e1, e2]
      omega
    · have e1 : (t - 1) / 2 = t / 2 := by omega
      have e2 : (t - 1) % 2 = 0 := by omega
      have e3 : (t / 2 &&& S / 2) = t / 2 := by
        apply Nat.eq_of_testBit_eq
        intro i
        rw [Nat.testBit_and]
        cases h : (t / 2).testBit i with
        | false => rfl
        | true => rw [sub_half ht i h]; rfl
      rw [e1, e2, e3]
      omega
theorem and_lt {t S : Nat} (h : 0 < t) : ((t - 1) &&& S) < t := Nat.lt_of_le_of_lt Nat.and_le_left (by omega)
theorem xor_sub {P S i : Nat} (h : sub P S) : (S ^^^ P).testBit i = (S.testBit i && !(P.testBit i)) := by
  rw [Nat.testBit_xor]
  cases hp : P.testBit i with
  | false => simp
  | true => rw [h i hp]; rfl
theorem sumf_two (f g : Nat → Nat) : ∀ n, sumf (fun k => f k + g k) n = sumf f n + sumf g n
  | 0 => rfl
  | n + 1 => by
    have := sumf_two f g n
    show sumf (fun k => f k + g k) n + (f n + g n) = sumf f n + f n + (sumf g n + g n)
    omega
theorem sumf_zero {f : Nat → Nat} {n : Nat} (h : ∀ k, k < n → f k = 0) : sumf f n = 0 := by
  have h2 : sumf f n = sumf (fun _ => 0) n := sumf_congr h
  rw [h2]
  have := sumf_bd (f := fun _ => 0) (b := 0) (n := n) (fun k _ => Nat.le_refl _)
  omega
section
variable (l : Nat → Nat) (n : Nat) (rs pr lo : Nat → Nat)
/-- lengths of sets; of those in a roll -/
def lnS (S : Nat) : Nat := sumf (fun j => if S.testBit j then l j else 0) n
def lnP (S : Nat) (ψ : Nat → Nat) (r : Nat) : Nat := sumf (fun j => if S.testBit j ∧ ψ j = r then l j else 0) n
def PF (t S k v : Nat) : Prop := ∃ ψ : Nat → Nat, (∀ j, S.testBit j = true → ψ j < k ∧ lo (ψ j) = t) ∧ (∀ r, r < k → lo r = t → lnP l n S ψ r ≤ rs r) ∧ v = sumf (fun r => if lo r = t ∧ 0 < lnP l n S ψ r then pr r else 0) k
theorem PF_0 {t S v : Nat} : PF l n rs pr lo t S 0 v ↔ S = 0 ∧ v = 0 := by
  constructor
  · rintro ⟨ψ, h1, -, h3⟩
    refine ⟨?_, h3⟩
    apply Nat.eq_of_testBit_eq
    intro i
    cases h : S.testBit i with
    | false => simp
    | true => have := (h1 i h).1; omega
  · rintro ⟨rfl, rfl⟩
    exact ⟨fun _ => 0, fun j hj => by simp at hj, fun r hr => by omega, rfl⟩
theorem lnP_none {S : Nat} {ψ : Nat → Nat} {r : Nat} (h : ∀ j, S.testBit j = true → ψ j ≠ r) : lnP l n S ψ r = 0 := sumf_zero (fun j _ => by
  rw [if_neg]
  rintro ⟨h1, h2⟩
  exact h j h1 h2)
theorem PF_n {t S k v : Nat} (h : lo k ≠ t) : PF l n rs pr lo t S (k + 1) v ↔ PF l n rs pr lo t S k v := by
  constructor
  · rintro ⟨ψ, h1, h2, h3⟩
    refine ⟨ψ, fun j hj => ⟨?_, (h1 j hj).2⟩, fun r hr => h2 r (by omega), ?_⟩
    · have h4 := h1 j hj
      have : ψ j ≠ k := fun e => h (e ▸ h4.2)
      omega
    · rw [h3]
      show sumf _ k + (if lo k = t ∧ 0 < lnP l n S ψ k then pr k else 0) = _
      rw [if_neg (fun q => h q.1), Nat.add_zero]
  · rintro ⟨ψ, h1, h2, h3⟩
    refine ⟨ψ, fun j hj => ⟨by have := (h1 j hj).1; omega, (h1 j hj).2⟩, fun r hr hl => h2 r (by have : r ≠ k := (fun e => h (e ▸ hl)); omega) hl, ?_⟩
    rw [h3]
    show _ = sumf _ k + (if lo k = t ∧ 0 < lnP l n S ψ k then pr k else 0)
    rw [if_neg (fun q => h q.1), Nat.add_zero]
theorem PF_s {t S k v : Nat} (h : lo k = t) (hn : S < 2 ^ n) (hl : ∀ j, j < n → 1 ≤ l j) : PF l n rs pr lo t S (k + 1) v ↔ PF l n rs pr lo t S k v ∨ ∃ P, 1 ≤ P ∧ sub P S ∧ lnS l n P ≤ rs k ∧ ∃ v', PF l n rs pr lo t (S ^^^ P) k v' ∧ v = v' + pr k := by
  constructor
  · rintro ⟨ψ, h1, h2, h3⟩
    obtain ⟨P, p1, p2⟩ := set_num (fun j => S.testBit j && decide (ψ j = k)) n (fun j hj => by
      rw [Bool.and_eq_true] at hj
      exact tb_lt hn hj.1)
    have hPS : sub P S := fun i hi => by
      rw [p2, Bool.and_eq_true] at hi
      exact hi.1
    have hPk : ∀ j, P.testBit j = true ↔ S.testBit j = true ∧ ψ j = k := fun j => by
      rw [p2, Bool.and_eq_true, decide_eq_true_eq]
    by_cases hP : P = 0
    · refine Or.inl ⟨ψ, fun j hj => ⟨?_, (h1 j hj).2⟩, fun r hr => h2 r (by omega), ?_⟩
      · have h4 := h1 j hj
        have : ψ j ≠ k := fun e => by
          have := (hPk j).mpr ⟨hj, e⟩
          rw [hP] at this; simp at this
        omega
      · rw [h3]
        show sumf _ k + (if lo k = t ∧ 0 < lnP l n S ψ k then pr k else 0) = _
        rw [lnP_none l n (fun j hj e => by
          have := (hPk j).mpr ⟨hj, e⟩
          rw [hP] at this; simp at this), if_neg (by omega), Nat.add_zero]
    · refine Or.inr ⟨P, by omega, hPS, ?_, sumf (fun r => if lo r = t ∧ 0 < lnP l n S ψ r then pr r else 0) k, ⟨ψ, fun j hj => ?_, fun r hr hlr => ?_, ?_⟩, ?_⟩
      · have e : lnS l n P = lnP l n S ψ k := sumf_congr (fun j _ => by
          by_cases q : P.testBit j = true
          · rw [if_pos q, if_pos ((hPk j).mp q)]
          · rw [if_neg q, if_neg (fun z => q ((hPk j).mpr z))])
        rw [e]
        exact h2 k (by omega) h
      · rw [xor_sub hPS, Bool.and_eq_true] at hj
        have h4 := h1 j hj.1
        refine ⟨?_, h4.2⟩
        have : ψ j ≠ k := fun e => by
          have := (hPk j).mpr ⟨hj.1, e⟩
          rw [this] at hj
          simp at hj
        omega
      · have e : lnP l n (S ^^^ P) ψ r = lnP l n S ψ r := sumf_congr (fun j _ => by
          by_cases q : S.testBit j = true ∧ ψ j = r
          · rw [if_pos q, if_pos]
            refine ⟨?_, q.2⟩
            rw [xor_sub hPS, q.1]
            cases hp : P.testBit j with
            | false => rfl
            | true => have := ((hPk j).mp hp).2; omega
          · rw [if_neg q, if_neg]
            rintro ⟨z1, z2⟩
            rw [xor_sub hPS, Bool.and_eq_true] at z1
            exact q ⟨z1.1, z2⟩)
        rw [e]; exact h2 r (by omega) hlr
      · refine sumf_congr (fun r hr => ?_)
        have e : lnP l n (S ^^^ P) ψ r = lnP l n S ψ r := sumf_congr (fun j _ => by
          by_cases q : S.testBit j = true ∧ ψ j = r
          · rw [if_pos q, if_pos]
            refine ⟨?_, q.2⟩
            rw [xor_sub hPS, q.1]
            cases hp : P.testBit j with
            | false => rfl
            | true => have := ((hPk j).mp hp).2; omega
          · rw [if_neg q, if_neg]
            rintro ⟨z1, z2⟩
            rw [xor_sub hPS, Bool.and_eq_true] at z1
            exact q ⟨z1.1, z2⟩)
        rw [e]
      · rw [h3]
        show sumf _ k + (if lo k = t ∧ 0 < lnP l n S ψ k then pr k else 0) = _
        rw [if_pos]
        refine ⟨h, ?_⟩
        obtain ⟨i, hi⟩ : ∃ i, P.testBit i = true := Nat.exists_testBit_of_ne_zero hP
        have hin := tb_lt p1 hi
        have h5 := hl i hin
        have h6 := sumf_one (f := fun j => if S.testBit j ∧ ψ j = k then l j else 0) hin
        rw [if_pos ((hPk i).mp hi)] at h6
        unfold lnP
        omega
  · rintro (⟨ψ, h1, h2, h3⟩ | ⟨P, p1, p2, p3, v', ⟨ψ, h1, h2, h3⟩, rfl⟩)
    · have hz : lnP l n S ψ k = 0 := lnP_none l n (fun j hj e => by have := (h1 j hj).1; omega)
      refine ⟨ψ, fun j hj => ⟨by have := (h1 j hj).1; omega, (h1 j hj).2⟩, fun r hr hlr => ?_, ?_⟩
      · by_cases e : r = k
        · rw [e, hz]; exact Nat.zero_le _
        · exact h2 r (by omega) hlr
      · rw [h3]
        show _ = sumf _ k + (if lo k = t ∧ 0 < lnP l n S ψ k then pr k else 0)
        rw [hz, if_neg (by omega), Nat.add_zero]
    · have hP2 : P < 2 ^ n := by
        apply Nat.lt_pow_two_of_testBit
        intro i hi
        cases hb : P.testBit i with
        | false => rfl
        | true => have := tb_lt hn (p2 i hb); omega
      have e1 : ∀ r, r < k → lnP l n S (fun j => if P.testBit j = true then k else ψ j) r = lnP l n (S ^^^ P) ψ r := fun r hr => sumf_congr (fun j _ => by
        by_cases q : P.testBit j = true
        · rw [if_neg, if_neg]
          · rintro ⟨z, -⟩
            rw [xor_sub p2, q] at z; simp at z
          · rintro ⟨-, z⟩
            have z : (if P.testBit j = true then k else ψ j) = r := z
            rw [if_pos q] at z; omega
        · have q' : P.testBit j = false := by simpa using q
          have w : (if P.testBit j = true then k else ψ j) = ψ j := if_neg q
          show (if S.testBit j = true ∧ (if P.testBit j = true then k else ψ j) = r then l j else 0) = _
          rw [w, xor_sub p2, q']
          simp)
      have e2 : lnP l n S (fun j => if P.testBit j = true then k else ψ j) k = lnS l n P := sumf_congr (fun j _ => by
        by_cases q : P.testBit j = true
        · rw [if_pos q, if_pos ⟨p2 j q, if_pos q⟩]
        · rw [if_neg q, if_neg]
          rintro ⟨z1, z2⟩
          have z2 : (if P.testBit j = true then k else ψ j) = k := z2
          rw [if_neg q] at z2
          have q' : P.testBit j = false := by simpa using q
          have := (h1 j (by rw [xor_sub p2, z1, q']; rfl)).1
          omega)
      refine ⟨fun j => if P.testBit j = true then k else ψ j, fun j hj => ?_, fun r hr hlr => ?_, ?_⟩
      · show (if P.testBit j = true then k else ψ j) < k + 1 ∧ lo (if P.testBit j = true then k else ψ j) = t
        by_cases q : P.testBit j = true
        · rw [if_pos q]; exact ⟨by omega, h⟩
        · rw [if_neg q]
          have q' : P.testBit j = false := by simpa using q
          have := h1 j (by rw [xor_sub p2, hj, q']; rfl)
          exact ⟨by omega, this.2⟩
      · by_cases e : r = k
        · rw [e, e2]; exact p3
        · rw [e1 r (by omega)]; exact h2 r (by omega) hlr
      · show _ = sumf _ k + (if lo k = t ∧ 0 < lnP l n S (fun j => if P.testBit j = true then k else ψ j) k then pr k else 0)
        have hpos : 0 < lnS l n P := by
          obtain ⟨i, hi⟩ : ∃ i, P.testBit i = true := Nat.exists_testBit_of_ne_zero (by omega)
          have hin := tb_lt hP2 hi
          have h5 := hl i hin
          have h6 := sumf_one (f := fun j => if P.testBit j then l j else 0) hin
          rw [if_pos hi] at h6
          unfold lnS
          omega
        rw [e2, if_pos ⟨h, hpos⟩, h3]
        congr 1
        exact sumf_congr (fun r hr => by rw [e1 r hr])
theorem PF_bd {t S k v : Nat} (hp : ∀ r, pr r ≤ 1000) (h : PF l n rs pr lo t S k v) : v ≤ 1000 * k := by
  obtain ⟨ψ, -, -, h3⟩ := h
  rw [h3]
  exact sumf_bd (fun r _ => by split; exact hp r; omega)
end
