/-! ===== rows of orders: their order by numbers ===== -/
def rv : List Nat → Nat
  | [] => 0
  | x :: p => x * 8 ^ p.length + rv p
def sm (p : List Nat) : Prop := ∀ x ∈ p, x < 8
theorem rv_lt : ∀ {p : List Nat}, sm p → rv p < 8 ^ p.length
  | [], _ => by show 0 < 1; omega
  | x :: p, h => by
    have h1 := rv_lt (p := p) (fun y hy => h y (List.mem_cons_of_mem _ hy))
    have h2 : x < 8 := h x List.mem_cons_self
    show x * 8 ^ p.length + rv p < 8 ^ (p.length + 1)
    rw [Nat.pow_succ]
    have h3 : x * 8 ^ p.length ≤ 7 * 8 ^ p.length := Nat.mul_le_mul_right _ (by omega)
    omega
theorem rv_head {x y : Nat} {p q : List Nat} (hl : p.length = q.length) (hp : sm p) (h : x < y) : rv (x :: p) < rv (y :: q) := by
  have h1 := rv_lt hp
  show x * 8 ^ p.length + rv p < y * 8 ^ q.length + rv q
  rw [← hl]
  have h3 : (x + 1) * 8 ^ p.length ≤ y * 8 ^ p.length := Nat.mul_le_mul_right _ (by omega)
  rw [Nat.add_mul, Nat.one_mul] at h3
  omega
theorem rv_tail {x : Nat} {p q : List Nat} (hl : p.length = q.length) : (rv (x :: p) < rv (x :: q) ↔ rv p < rv q) ∧ (rv (x :: p) ≤ rv (x :: q) ↔ rv p ≤ rv q) := by
  show (x * 8 ^ p.length + rv p < x * 8 ^ q.length + rv q ↔ _) ∧ (x * 8 ^ p.length + rv p ≤ x * 8 ^ q.length + rv q ↔ _)
  rw [hl]; omega
theorem rv_pre {r p q : List Nat} (hl : p.length = q.length) : (rv (r ++ p) < rv (r ++ q) ↔ rv p < rv q) ∧ (rv (r ++ p) ≤ rv (r ++ q) ↔ rv p ≤ rv q) := by
  induction r with
  | nil => exact ⟨Iff.rfl, Iff.rfl⟩
  | cons x r ih =>
    have h : (r ++ p).length = (r ++ q).length := by simp [hl]
    have := rv_tail (x := x) h
    exact ⟨this.1.trans ih.1, this.2.trans ih.2⟩
theorem rv_inj : ∀ {p q : List Nat}, p.length = q.length → sm p → sm q → rv p = rv q → p = q
  | [], [], _, _, _, _ => rfl
  | [], _ :: _, h, _, _, _ => by simp at h
  | _ :: _, [], h, _, _, _ => by simp at h
  | x :: p, y :: q, hl, hp, hq, h => by
    have hl1 : p.length = q.length := by simpa using hl
    have hp2 : sm p := fun z hz => hp z (List.mem_cons_of_mem _ hz)
    have hq2 : sm q := fun z hz => hq z (List.mem_cons_of_mem _ hz)
    rcases Nat.lt_trichotomy x y with e | e | e
    · have := rv_head (x := x) (y := y) hl1 hp2 e; omega
    · subst e
      have h2 : rv p = rv q := by
        have h' : x * 8 ^ p.length + rv p = x * 8 ^ q.length + rv q := h
        rw [hl1] at h'; omega
      rw [rv_inj hl1 hp2 hq2 h2]
    · have := rv_head (x := y) (y := x) hl1.symm hq2 e; omega
/-- the rising row is the first, the falling one the last -/
theorem rv_min : ∀ {s q : List Nat}, s.Pairwise (· < ·) → sm s → q.Perm s → rv s ≤ rv q
  | [], q, _, _, h => by rw [List.perm_nil.mp h]; exact Nat.le_refl _
  | x :: s, [], _, _, h => by have := h.length_eq; simp at this
  | x :: s, y :: q, hs, hm, h => by
    have hl : s.length = q.length := by have := h.length_eq; simp at this; exact this.symm
    have hm2 : sm s := fun z hz => hm z (List.mem_cons_of_mem _ hz)
    have hy : y ∈ x :: s := h.mem_iff.mp List.mem_cons_self
    rcases List.mem_cons.mp hy with e | e
    · subst e
      exact (rv_tail hl).2.mpr (rv_min (List.pairwise_cons.mp hs).2 hm2 (List.Perm.cons_inv h))
    · exact Nat.le_of_lt (rv_head hl hm2 ((List.pairwise_cons.mp hs).1 y e))
theorem rv_max : ∀ {s q : List Nat}, s.Pairwise (· > ·) → sm s → q.Perm s → rv q ≤ rv s
  | [], q, _, _, h => by rw [List.perm_nil.mp h]; exact Nat.le_refl _
  | x :: s, [], _, _, h => by have := h.length_eq; simp at this
  | x :: s, y :: q, hs, hm, h => by
    have hl : q.length = s.length := by have := h.length_eq; simp at this; exact this
    have hy : y ∈ x :: s := h.mem_iff.mp List.mem_cons_self
    have hq : sm q := fun z hz => hm z (h.mem_iff.mp (List.mem_cons_of_mem _ hz))
    rcases List.mem_cons.mp hy with e | e
    · subst e
      exact (rv_tail hl).2.mpr (rv_max (List.pairwise_cons.mp hs).2 (fun z hz => hm z (List.mem_cons_of_mem _ hz)) (List.Perm.cons_inv h))
    · exact Nat.le_of_lt (rv_head hl hq ((List.pairwise_cons.mp hs).1 y e))
/-- the row behind a row -/
theorem rv_next {pre u v : List Nat} {a b : Nat} (hd : (u ++ b :: v).Pairwise (· > ·)) (hb : a < b) (hv : ∀ x ∈ v, x < a) (hm : sm (pre ++ a :: (u ++ b :: v))) : rv (pre ++ a :: (u ++ b :: v)) < rv (pre ++ b :: (u ++ a :: v).reverse) ∧ ∀ q : List Nat, q.Perm (pre ++ a :: (u ++ b :: v)) → rv (pre ++ a :: (u ++ b :: v)) < rv q → rv (pre ++ b :: (u ++ a :: v).reverse) ≤ rv q := by
  have hlen : (u ++ b :: v).length = (u ++ a :: v).reverse.length := by simp; omega
  have hm1 : sm (u ++ b :: v) := fun x hx => hm x (List.mem_append_right _ (List.mem_cons_of_mem _ hx))
  obtain ⟨d1, d2, d3⟩ := List.pairwise_append.mp hd
  obtain ⟨d4, d5⟩ := List.pairwise_cons.mp d2
  have hasc : (u ++ a :: v).reverse.Pairwise (· < ·) := by
    rw [List.pairwise_reverse]
    refine List.pairwise_append.mpr ⟨d1, List.pairwise_cons.mpr ⟨fun x hx => hv x hx, d5⟩, fun x hx y hy => ?_⟩
    rcases List.mem_cons.mp hy with rfl | hy
    · have := d3 x hx b List.mem_cons_self
      show y < x
      omega
    · exact d3 x hx y (List.mem_cons_of_mem _ hy)
  have hm2 : sm (u ++ a :: v).reverse := fun x hx => by
    rw [List.mem_reverse, List.mem_append, List.mem_cons] at hx
    rcases hx with hx | hx | hx
    · exact hm1 x (List.mem_append_left _ hx)
    · rw [hx]; exact hm a (List.mem_append_right _ List.mem_cons_self)
    · exact hm1 x (List.mem_append_right _ (List.mem_cons_of_mem _ hx))
  constructor
  · have hl2 : (a :: (u ++ b :: v)).length = (b :: (u ++ a :: v).reverse).length := by simp; omega
    exact (rv_pre hl2).1.mpr (rv_head hlen hm1 hb)
  · induction pre with
    | nil =>
      intro q hq hlt
      match q, hq, hlt with
      | [], hq, _ => have := hq.length_eq; simp at this
      | y :: q, hq, hlt =>
        have hl3 : (u ++ a :: v).reverse.length = q.length := by have := hq.length_eq; simp at this ⊢; omega
        have hl4 : (u ++ b :: v).length = q.length := by have := hq.length_eq; simp at this ⊢; omega
        have hy : y ∈ a :: (u ++ b :: v) := hq.mem_iff.mp List.mem_cons_self
        have hmq : sm q := fun z hz => hm z (hq.mem_iff.mp (List.mem_cons_of_mem _ hz))
        rcases List.mem_cons.mp hy with e | e
        · subst e
          have h1 := rv_max hd hm1 (List.Perm.cons_inv hq)
          have h2 := (rv_tail (x := y) hl4).1.mp hlt
          omega
        · rcases Nat.lt_trichotomy y b with e2 | e2 | e2
          · have h3 : y < a := by
              rcases List.mem_append.mp e with e3 | e3
              · have := d3 y e3 b List.mem_cons_self; omega
              · rcases List.mem_cons.mp e3 with e4 | e4
                · omega
                · exact hv y e4
            have := rv_head (x := y) (y := a) hl4.symm hmq h3
            have hlt : rv (a :: (u ++ b :: v)) < rv (y :: q) := hlt
            omega
          · subst e2
            have hq2 : q.Perm (u ++ a :: v).reverse := by
              have h4 : (y :: q).Perm (y :: (u ++ a :: v)) := by
                refine hq.trans ?_
                show (a :: (u ++ y :: v)).Perm (y :: (u ++ a :: v))
                have p1 : (a :: (u ++ y :: v)).Perm (a :: (y :: (u ++ v))) := List.Perm.cons a List.perm_middle
                have p2 : (y :: (u ++ a :: v)).Perm (y :: (a :: (u ++ v))) := List.Perm.cons y List.perm_middle
                exact p1.trans ((List.Perm.swap y a (u ++ v)).trans p2.symm)
              exact (List.Perm.cons_inv h4).trans (List.reverse_perm _).symm
            exact (rv_tail hl3).2.mpr (rv_min hasc hm2 hq2)
          · exact Nat.le_of_lt (rv_head hl3 hm2 e2)
    | cons x pre ih =>
      intro q hq hlt
      match q, hq, hlt with
      | [], hq, _ => have := hq.length_eq; simp at this
      | y :: q, hq, hlt =>
        have hm' : sm (pre ++ a :: (u ++ b :: v)) := fun z hz => hm z (List.mem_cons_of_mem _ hz)
        have hl4 : (pre ++ a :: (u ++ b :: v)).length = q.length := by have := hq.length_eq; simp at this ⊢; omega
        have hl3 : (pre ++ b :: (u ++ a :: v).reverse).length = q.length := by have := hq.length_eq; simp at this ⊢; omega
        have hmq : sm q := fun z hz => hm z (hq.mem_iff.mp (List.mem_cons_of_mem _ hz))
        have hmn : sm (pre ++ b :: (u ++ a :: v).reverse) := fun z hz => by
          rcases List.mem_append.mp hz with hz | hz
          · exact hm' z (List.mem_append_left _ hz)
          · rcases List.mem_cons.mp hz with hz | hz
            · rw [hz]; exact hm1 b (List.mem_append_right _ List.mem_cons_self)
            · exact hm2 z hz
        rcases Nat.lt_trichotomy x y with e | e | e
        · exact Nat.le_of_lt (rv_head hl3 hmn e)
        · subst e
          exact (rv_tail hl3).2.mpr (ih hm' q (List.Perm.cons_inv hq) ((rv_tail hl4).1.mp hlt))
        · have := rv_head (x := y) (y := x) hl4.symm hmq e
          have hlt : rv (x :: (pre ++ a :: (u ++ b :: v))) < rv (y :: q) := hlt
          omega
/-! ===== how late a row is ===== -/
section
variable (so ho du wo : Nat → Nat) (ch : Nat)
def en (h s o : Nat) : Nat := (if so o = s then h else h + ch) + ho o
def la (h s l o : Nat) : Nat := l + (en so ho ch h s o - du o) * wo o
def lf : Nat → Nat → Nat → List Nat → Nat
  | _, _, l, [] => l
  | h, s, l, o :: p => lf (en so ho ch h s o) (so o) (la so ho du wo ch h s l o) p
theorem lf_ge : ∀ (p : List Nat) (h s l : Nat), l ≤ lf so ho du wo ch h s l p
  | [], _, _, _ => Nat.le_refl _
  | o :: p, h, s, l => Nat.le_trans (Nat.le_add_right _ _) (lf_ge p _ _ _)
/-- hour, sort and lateness behind a row -/
def rn : List Nat → Nat × Nat × Nat → Nat × Nat × Nat
  | [], x => x
  | o :: p, (h, s, l) => rn p (en so ho ch h s o, so o, la so ho du wo ch h s l o)
theorem rn_app : ∀ (p q : List Nat) (x : Nat × Nat × Nat), rn so ho du wo ch (p ++ q) x = rn so ho du wo ch q (rn so ho du wo ch p x)
  | [], _, _ => rfl
  | o :: p, q, (h, s, l) => rn_app p q _
theorem rn_lf : ∀ (p : List Nat) (h s l : Nat), (rn so ho du wo ch p (h, s, l)).2.2 = lf so ho du wo ch h s l p
  | [], _, _, _ => rfl
  | _ :: p, _, _, _ => rn_lf p _ _ _
def tot (p : List Nat) : Nat := lf so ho du wo ch 0 0 0 p
theorem tot_app (p q : List Nat) : tot so ho du wo ch (p ++ q) = lf so ho du wo ch (rn so ho du wo ch p (0, 0, 0)).1 (rn so ho du wo ch p (0, 0, 0)).2.1 (rn so ho du wo ch p (0, 0, 0)).2.2 q := by
  unfold tot
  rw [← rn_lf, rn_app]
  obtain ⟨h, s, l⟩ := rn so ho du wo ch p (0, 0, 0)
  exact rn_lf so ho du wo ch q h s l
theorem rn_bd (hho : ∀ o, ho o ≤ 100) (hwo : ∀ o, wo o ≤ 9) (hch : ch ≤ 50) : ∀ (p : List Nat) (h s l j : Nat), h ≤ 150 * j → l ≤ 9450 * j → j + p.length ≤ 7 → (rn so ho du wo ch p (h, s, l)).1 ≤ 150 * (j + p.length) ∧ (rn so ho du wo ch p (h, s, l)).2.2 ≤ 9450 * (j + p.length)
  | [], h, s, l, j, h1, h2, h3 => ⟨h1, h2⟩
  | o :: p, h, s, l, j, h1, h2, h3 => by
    have hl : (o :: p).length = p.length + 1 := rfl
    have a1 : en so ho ch h s o ≤ 150 * (j + 1) := by
      unfold en
      have := hho o
      split <;> omega
    have a2 : la so ho du wo ch h s l o ≤ 9450 * (j + 1) := by
      unfold la
      have b1 : en so ho ch h s o - du o ≤ 1050 := by omega
      have b2 : (en so ho ch h s o - du o) * wo o ≤ 1050 * 9 := Nat.mul_le_mul b1 (hwo o)
      omega
    have := rn_bd hho hwo hch p (en so ho ch h s o) (so o) (la so ho du wo ch h s l o) (j + 1) a1 a2 (by omega)
    rw [hl, show j + (p.length + 1) = j + 1 + p.length by omega]
    exact this
end
/-- of the rows in E: what a search makes out of the best so far -/
def usp (t : List Nat → Nat) (E : List Nat → Prop) (B : Nat) (b : List Nat) (B' : Nat) (b' : List Nat) : Prop :=
  (B' = B ∧ b' = b ∧ ∀ p, E p → B ≤ t p) ∨ (B' < B ∧ E b' ∧ t b' = B' ∧ ∀ p, E p → B' ≤ t p ∧ (t p = B' → rv b' ≤ rv p))
theorem usp_cat {t : List Nat → Nat} {E1 E2 E : List Nat → Prop} {B B1 B2 : Nat} {b b1 b2 : List Nat} (h1 : usp t E1 B b B1 b1) (h2 : usp t E2 B1 b1 B2 b2) (hE : ∀ p, E p ↔ E1 p ∨ E2 p) (hv : ∀ p q, E1 p → E2 q → rv p ≤ rv q) : usp t E B b B2 b2 := by
  rcases h1 with ⟨rfl, rfl, a3⟩ | ⟨a1, a2, a3, a4⟩
  · rcases h2 with ⟨rfl, rfl, c3⟩ | ⟨c1, c2, c3, c4⟩
    · exact Or.inl ⟨rfl, rfl, fun p hp => ((hE p).mp hp).elim (a3 p) (c3 p)⟩
    · refine Or.inr ⟨c1, (hE b2).mpr (Or.inr c2), c3, fun p hp => ?_⟩
      rcases (hE p).mp hp with hp | hp
      · have := a3 p hp
        exact ⟨by omega, fun q => by omega⟩
      · exact c4 p hp
  · rcases h2 with ⟨rfl, rfl, c3⟩ | ⟨c1, c2, c3, c4⟩
    · refine Or.inr ⟨a1, (hE _).mpr (Or.inl a2), a3, fun p hp => ?_⟩
      rcases (hE p).mp hp with hp | hp
      · exact a4 p hp
      · exact ⟨c3 p hp, fun _ => hv _ p a2 hp⟩
    · refine Or.inr ⟨by omega, (hE b2).mpr (Or.inr c2), c3, fun p hp => ?_⟩
      rcases (hE p).mp hp with hp | hp
      · have := (a4 p hp).1
        exact ⟨by omega, fun q => by omega⟩
      · exact c4 p hp
theorem usp_none {t : List Nat → Nat} {E : List Nat → Prop} {B : Nat} {b : List Nat} (h : ∀ p, E p → B ≤ t p) : usp t E B b B b := Or.inl ⟨rfl, rfl, h⟩
theorem usp_iff {t : List Nat → Nat} {E E' : List Nat → Prop} {B B' : Nat} {b b' : List Nat} (h : usp t E B b B' b') (he : ∀ p, E p ↔ E' p) : usp t E' B b B' b' := by
  rcases h with ⟨a1, a2, a3⟩ | ⟨a1, a2, a3, a4⟩
  · exact Or.inl ⟨a1, a2, fun p hp => a3 p ((he p).mpr hp)⟩
  · exact Or.inr ⟨a1, (he _).mp a2, a3, fun p hp => a4 p ((he p).mpr hp)⟩
/-- THE BEST of all rows of c orders -/
def bestR (t : List Nat → Nat) (c B : Nat) (b : List Nat) : Prop := b.Perm (List.range c) ∧ t b = B ∧ ∀ p, p.Perm (List.range c) → B ≤ t p ∧ (t p = B → rv b ≤ rv p)
theorem bestR_eq {t : List Nat → Nat} {c B B2 : Nat} {b b2 : List Nat} (hc : c ≤ 8) (h : bestR t c B b) (h2 : bestR t c B2 b2) : B = B2 ∧ b = b2 := by
  obtain ⟨a1, a2, a3⟩ := h
  obtain ⟨c1, c2, c3⟩ := h2
  have e1 := a3 b2 c1
  have e2 := c3 b a1
  have e : B = B2 := by omega
  have hs : ∀ p : List Nat, p.Perm (List.range c) → sm p := fun p hp x hx => by
    have := hp.mem_iff.mp hx
    rw [List.mem_range] at this; omega
  refine ⟨e, rv_inj (by rw [a1.length_eq, c1.length_eq]) (hs _ a1) (hs _ c1) ?_⟩
  have h1 := e1.2 (by omega)
  have h2 := e2.2 (by omega)
  omega
