/-! ===== what joins all mats over three lots is a lay ===== -/
theorem t15 {a : Nat} (h : a ≤ 3) : (15 : Nat).testBit a = true := by
  have : ∀ x : Fin 4, (15 : Nat).testBit x.val = true := by decide
  exact this ⟨a, by omega⟩
theorem t15' {a : Nat} (h : (15 : Nat).testBit a = true) : a ≤ 3 := by
  have := tb_lt (x := 15) (n := 4) (by decide) h
  omega
section
variable (l m L lo : Nat → Nat) (R c : Nat)
/-- the lengths, rests, prices behind the fixed ones -/
def fl (F : Nat) : Nat → Nat := fun j => l (F + j)
def frs (π : List Nat) : Nat → Nat := fun r => L r - uL l π r
def fpr (π : List Nat) : Nat → Nat := fun r => if 0 < uL l π r then 0 else L r
def fmm (F : Nat) : Nat → Nat := fun j => m (F + j)
def fg (π : List Nat) : Nat → Nat := fun i => lo (π.getD i 9)
def Jp (π : List Nat) (Y T v : Nat) : Prop := JF (fl l π.length) (c - π.length) (frs l L π) (fpr l L π) lo (fmm m π.length) m (fg lo π) π.length R Y T v
def Pp (π : List Nat) (t S k v : Nat) : Prop := PF (fl l π.length) (c - π.length) (frs l L π) (fpr l L π) lo t S k v
theorem uL_cat (π q : List Nat) (r : Nat) : uL l (π ++ q) r = uL l π r + sumf (fun j => if q.getD j 9 = r then l (π.length + j) else 0) q.length := by
  unfold uL
  rw [List.length_append, sumf_add]
  congr 1
  · exact sumf_congr (fun i hi => by rw [gd_app hi])
  · refine sumf_congr (fun j hj => ?_)
    have : (π ++ q).getD (π.length + j) 9 = q.getD j 9 := by
      rw [List.getD_eq_getElem?_getD, List.getD_eq_getElem?_getD, List.getElem?_append_right (by omega)]
      simp
    rw [this]
theorem oL_cat (π q : List Nat) : oL l L R (π ++ q) = oL l L R π + sumf (fun r => if 0 < sumf (fun j => if q.getD j 9 = r then l (π.length + j) else 0) q.length then fpr l L π r else 0) R := by
  unfold oL
  rw [← sumf_two]
  refine sumf_congr (fun r hr => ?_)
  show (if 0 < uL l (π ++ q) r then L r else 0) = (if 0 < uL l π r then L r else 0) + (if 0 < sumf (fun j => if q.getD j 9 = r then l (π.length + j) else 0) q.length then (if 0 < uL l π r then 0 else L r) else 0)
  rw [uL_cat]
  generalize sumf (fun j => if q.getD j 9 = r then l (π.length + j) else 0) q.length = y
  by_cases h1 : 0 < uL l π r
  · rw [if_pos h1, if_pos h1, if_pos (by omega)]
    split <;> rfl
  · rw [if_neg h1, if_neg h1]
    have : uL l π r = 0 := by omega
    rw [this, Nat.zero_add, Nat.zero_add]
theorem lnP_all {n : Nat} {l' mm ψ : Nat → Nat} {r : Nat} (hm : ∀ i, mm i ≤ 3) : lnP l' n (cs mm n 15) ψ r = sumf (fun j => if ψ j = r then l' j else 0) n := sumf_congr (fun j hj => by
  by_cases q : ψ j = r
  · rw [if_pos q, if_pos ⟨cs_t.mpr ⟨hj, t15 (hm j)⟩, q⟩]
  · rw [if_neg q, if_neg (fun z => q z.2)])
theorem Jp_eL {π : List Nat} {v : Nat} (hπ : π.length ≤ c) (h1 : ∀ i, i < π.length → π.getD i 9 < R) (h2 : ∀ r, r < R → uL l π r ≤ L r) (hm : ∀ i, m i ≤ 3) (hlo : ∀ r, lo r ≤ 2) : Jp l m L lo R c π 15 3 v ↔ ∃ p, eL l m L lo R c π p ∧ oL l L R p = oL l L R π + v := by
  have hmm : ∀ j, fmm m π.length j ≤ 3 := fun j => hm _
  constructor
  · rintro ⟨μ, ψ, a1, a2, a3, a4, a5⟩
    have hq : ∀ j, j < c - π.length → (sg ψ 0 (c - π.length)).getD j 9 = ψ j := fun j hj => by
      rw [List.getD_eq_getElem?_getD, sg_get, if_pos hj, Nat.zero_add]; rfl
    have hs : ∀ r, sumf (fun j => if (sg ψ 0 (c - π.length)).getD j 9 = r then l (π.length + j) else 0) (sg ψ 0 (c - π.length)).length = lnP (fl l π.length) (c - π.length) (cs (fmm m π.length) (c - π.length) 15) ψ r := fun r => by
      rw [lnP_all hmm, sg_len]
      exact sumf_congr (fun j hj => by rw [hq j hj]; rfl)
    have hgd : ∀ i, i < c → (i < π.length ∧ (π ++ sg ψ 0 (c - π.length)).getD i 9 = π.getD i 9) ∨ (∃ j, i = π.length + j ∧ j < c - π.length ∧ (π ++ sg ψ 0 (c - π.length)).getD i 9 = ψ j) := fun i hi => by
      by_cases e : i < π.length
      · exact Or.inl ⟨e, gd_app e⟩
      · refine Or.inr ⟨i - π.length, by omega, by omega, ?_⟩
        rw [← hq (i - π.length) (by omega), List.getD_eq_getElem?_getD, List.getD_eq_getElem?_getD, List.getElem?_append_right (by omega)]
    have hlen : (π ++ sg ψ 0 (c - π.length)).length = c := by
      rw [List.length_append, sg_len]; omega
    have hμ : ∀ i, i < c → lo ((π ++ sg ψ 0 (c - π.length)).getD i 9) = μ (m i) := fun i hi => by
      rcases hgd i hi with ⟨e1, e2⟩ | ⟨j, e1, e2, e3⟩
      · rw [e2]; exact a2 i e1 (t15 (hm i))
      · rw [e3, e1]; exact (a3 j e2 (t15 (hmm j))).2
    refine ⟨π ++ sg ψ 0 (c - π.length), ⟨hlen, ⟨fun i hi => ?_, fun r hr => ?_, fun i j hi hj hij => ?_⟩, _, rfl⟩, ?_⟩
    · rcases hgd i (by omega) with ⟨e1, e2⟩ | ⟨j, e1, e2, e3⟩
      · rw [e2]; exact h1 i e1
      · rw [e3]; exact (a3 j e2 (t15 (hmm j))).1
    · rw [uL_cat, hs]
      have b1 := a4 r hr (by have := hlo r; omega)
      have b2 := h2 r hr
      have b3 : frs l L π r = L r - uL l π r := rfl
      omega
    · rw [hμ i (by omega), hμ j (by omega), hij]
    · rw [oL_cat, a5]
      congr 1
      refine sumf_congr (fun r hr => ?_)
      rw [hs]
      have := hlo r
      by_cases q : 0 < lnP (fl l π.length) (c - π.length) (cs (fmm m π.length) (c - π.length) 15) ψ r
      · rw [if_pos q, if_pos ⟨by omega, q⟩]
      · rw [if_neg q, if_neg (fun z => q z.2)]
  · rintro ⟨p, ⟨b1, b2, q, rfl⟩, b3⟩
    have hql : q.length = c - π.length := by rw [List.length_append] at b1; omega
    have hgq : ∀ j, j < c - π.length → (π ++ q).getD (π.length + j) 9 = q.getD j 9 := fun j hj => by
      rw [List.getD_eq_getElem?_getD, List.getD_eq_getElem?_getD, List.getElem?_append_right (by omega)]
      simp
    have hs : ∀ r, sumf (fun j => if q.getD j 9 = r then l (π.length + j) else 0) q.length = lnP (fl l π.length) (c - π.length) (cs (fmm m π.length) (c - π.length) 15) (fun j => q.getD j 9) r := fun r => by
      rw [lnP_all hmm, hql]; rfl
    have hμ : ∃ μ : Nat → Nat, (∀ a, μ a ≤ 2) ∧ ∀ i, i < c → lo ((π ++ q).getD i 9) = μ (m i) := by
      refine ⟨fun a => if h : ∃ i, i < c ∧ m i = a then lo ((π ++ q).getD (Classical.choose h) 9) else 0, fun a => ?_, fun i hi => ?_⟩
      · show (if h : ∃ i, i < c ∧ m i = a then lo ((π ++ q).getD (Classical.choose h) 9) else 0) ≤ 2
        split
        · exact hlo _
        · omega
      · have h : ∃ k, k < c ∧ m k = m i := ⟨i, hi, rfl⟩
        show _ = (if h : ∃ k, k < c ∧ m k = m i then lo ((π ++ q).getD (Classical.choose h) 9) else 0)
        rw [dif_pos h]
        have hc := Classical.choose_spec h
        exact b2.2.2 i _ (by omega) (by omega) hc.2.symm
    obtain ⟨μ, m1, m2⟩ := hμ
    refine ⟨μ, fun j => q.getD j 9, fun a ha => by have := m1 a; omega, fun i hi _ => ?_, fun j hj _ => ⟨?_, ?_⟩, fun r hr _ => ?_, ?_⟩
    · have := m2 i (by omega)
      rwa [gd_app hi] at this
    · have := b2.1 (π.length + j) (by omega)
      rwa [hgq j hj] at this
    · have := m2 (π.length + j) (by omega)
      rwa [hgq j hj] at this
    · have := b2.2.1 r hr
      rw [uL_cat, hs] at this
      show _ ≤ L r - uL l π r
      omega
    · rw [oL_cat] at b3
      have e : v = sumf (fun r => if 0 < sumf (fun j => if q.getD j 9 = r then l (π.length + j) else 0) q.length then fpr l L π r else 0) R := by omega
      rw [e]
      refine sumf_congr (fun r hr => ?_)
      rw [hs]
      have := hlo r
      by_cases z : 0 < lnP (fl l π.length) (c - π.length) (cs (fmm m π.length) (c - π.length) 15) (fun j => q.getD j 9) r
      · rw [if_pos z, if_pos ⟨by omega, z⟩]
      · rw [if_neg z, if_neg (fun w => z w.2)]
/-- what leastWith gives -/
def lwV (π : List Nat) (x : Nat) : Prop := isMn (fun w => ∃ p, eL l m L lo R c π p ∧ oL l L R p = w) x
theorem lw_ok {π : List Nat} {y : Nat} (hπ : π.length ≤ c) (h1 : ∀ i, i < π.length → π.getD i 9 < R) (h2 : ∀ r, r < R → uL l π r ≤ L r) (hm : ∀ i, m i ≤ 3) (hlo : ∀ r, lo r ≤ 2) (hL : ∀ r, L r ≤ 1000) (hR : R ≤ 6) (hy : isMn (Jp l m L lo R c π 15 3) y) : lwV l m L lo R c π (if oL l L R π + y < 1000000 then oL l L R π + y else 1000000) := by
  have key : ∀ v, Jp l m L lo R c π 15 3 v ↔ ∃ p, eL l m L lo R c π p ∧ oL l L R p = oL l L R π + v := fun v => Jp_eL l m L lo R c hπ h1 h2 hm hlo
  rcases hy with ⟨y1, y2, y3⟩ | ⟨y1, y2⟩
  · obtain ⟨p, p1, p2⟩ := (key y).mp y2
    have hb := oL_bd l L R hL hR p
    rw [if_pos (by omega)]
    refine Or.inl ⟨by omega, ⟨p, p1, p2⟩, ?_⟩
    rintro v ⟨q, q1, rfl⟩
    have hq := eL_low l m L lo R c q1
    have := y3 (oL l L R q - oL l L R π) ((key _).mpr ⟨q, q1, by omega⟩)
    omega
  · rw [if_neg (by omega)]
    refine Or.inr ⟨rfl, ?_⟩
    rintro v ⟨q, q1, rfl⟩
    have hq := eL_low l m L lo R c q1
    exact y2 (oL l L R q - oL l L R π) ((key _).mpr ⟨q, q1, by omega⟩)
theorem lw_no {π : List Nat} {r : Nat} (hr : r < R) (h : L r < uL l π r) : lwV l m L lo R c π 1000000 := by
  refine Or.inr ⟨rfl, ?_⟩
  rintro v ⟨q, ⟨q1, q2, z, rfl⟩, rfl⟩
  have := (lyP_pre l m L lo R q2).2.1 r hr
  omega
end
