/-! ===== the spin yard of the class ===== -/
def iO (a0 a1 a2 a3 : Nat → Int32) (so ho du wo : Nat → Nat) : Prop := ∀ o, a0 o = nI (so o) ∧ a1 o = nI (ho o) ∧ a2 o = nI (du o) ∧ a3 o = nI (wo o) ∧ so o ≤ 3 ∧ ho o ≤ 100 ∧ du o ≤ 1000 ∧ wo o ≤ 9
def iSd (S : hyB) (so ho du wo : Nat → Nat) (ch c : Nat) : Prop := iO (S.1 0) (S.1 1) (S.1 2) (S.1 3) so ho du wo ∧ S.2 7 = nI ch ∧ ch ≤ 50 ∧ S.2 6 = nI c ∧ c ≤ 7
def SB (S : hyB) (B : Nat) (r bf : Nat → Int32) : hyB := sa (sa (ss S 8 (nI B)) 4 r) 5 bf
/-- a row of ints that holds a list -/
def rowIs (r : Nat → Int32) (p : List Nat) : Prop := ∀ i x, p[i]? = some x → r i = nI x
theorem nI_eqI {a b : Nat} (ha : a < 2147483648) (hb : b < 2147483648) : nI a = nI b ↔ a = b := nI_eq ha hb
theorem max_I {E D : Nat} (hE : E < 1000000) (hD : D < 1000000) : (if (0 : Int32) < nI E - nI D then nI E - nI D else 0) = nI (E - D) := by
  have e : (nI E - nI D).toInt = (E : Int) - D := pk_sub_toInt (by omega) (by omega)
  by_cases h : D < E
  · rw [if_pos (zi_lt.mpr (by rw [e, zi_lit0]; omega)), pk_sub (by omega)]
  · rw [if_neg (fun q => by have := zi_lt.mp q; rw [e, zi_lit0] at this; omega), show E - D = 0 by omega]; rfl
section
variable (N F S T C : hyB) (R : hyW)
theorem r_s_count : hy_R 3 mX4_count 0 0 [hy_r 13] (wW N F S T C R) (fun o w1 => ∃ x, o = some x ∧ x = S.2 6 ∧ w1 = wW N F S T C R) := by
  refine hy_Ri (L := [some (hy_r 13)]) rfl (by decide) (hy_ple rfl) rfl ?_
  refine hy_go hy_pfA oX4_count [] 60 0 0 _ ?_
  exact hy_fin ⟨rfl, rfl⟩
theorem r_s_endOf (so ho du wo : Nat → Nat) (ch c o h s : Nat) (hS : iSd S so ho du wo ch c) (ho7 : o < 7) (hh : h < 100000) (hs : s < 100000) : hy_R 3 mX4_endOf 0 0 [hy_r 13, .inl (nI o), .inl (nI h), .inl (nI s)] (wW N F S T C R) (fun v w1 => ∃ x, v = some x ∧ x = nI (en so ho ch h s o) ∧ w1 = wW N F S T C R) := by
  obtain ⟨d0, d1, d2, d3, d4⟩ := id hS
  obtain ⟨o1, o2, o3, o4, o5, o6, o7, o8⟩ := d0 o
  have hcl : (nI o).toNatClampNeg = o := cl_nI (by omega)
  have hin : vp_in (nI o) 7 := vn_in ho7 (by decide)
  refine hy_Ri (L := [some (hy_r 13), some (.inl (nI o)), some (.inl (nI h)), some (.inl (nI s)), none]) rfl (by decide) (hy_ple rfl) rfl ?_
  refine hy_go hy_pfA oX4_endOf [] 60 0 0 _ ?_
  refine And.intro hin ?_
  refine And.intro (fun q => ?_) (fun q => ?_)
  · rw [hcl, o1, nI_eqI (by omega) (by omega)] at q
    refine And.intro hin ?_
    refine hy_fin ⟨?_, rfl⟩
    show nI h + S.1 1 (nI o).toNatClampNeg = _
    rw [hcl, o2, nI_add]
    unfold en
    rw [if_pos q]
  · rw [hcl, o1, nI_eqI (by omega) (by omega)] at q
    refine And.intro hin ?_
    refine hy_fin ⟨?_, rfl⟩
    show nI h + S.2 7 + S.1 1 (nI o).toNatClampNeg = _
    rw [hcl, o2, d1, nI_add, nI_add]
    unfold en
    rw [if_neg q]
def cpf (r b : Nat → Int32) (i : Nat) : Nat → Int32 := fun k => if k < i then r k else b k
theorem cpf_s {r b : Nat → Int32} {i : Nat} : cpf r b (i + 1) = upd (cpf r b i) i (r i) := by
  funext k
  unfold upd cpf
  by_cases e : k = i
  · rw [if_pos e, e, if_pos (by omega)]
  · rw [if_neg e]
    by_cases q : k < i
    · rw [if_pos q, if_pos (by omega)]
    · rw [if_neg q, if_neg (by omega)]
theorem cpf_0 {r b : Nat → Int32} : cpf r b 0 = b := by
  funext k; unfold cpf; rw [if_neg (by omega)]
theorem l_s_keep (Q : hyQ) (v : Option hyV) (c : Nat) (h1 : S.2 6 = nI c) (h2 : c ≤ 7) (K : Q none (wW N F (sa S 5 (cpf (S.1 4) (S.1 5) c)) T C R)) :
    ∀ (j i : Nat), c - i = j → i ≤ c → hy_X none 4 mX4_keepRow Q 0 0 (7, [some (hy_r 13), v, some (.inl (nI i))], [], wW N F (sa S 5 (cpf (S.1 4) (S.1 5) i)) T C R) := by
  intro j
  induction j with
  | zero =>
    intro i hj hi
    have : i = c := by omega
    subst this
    refine hy_go hy_pfA oX4_keepRow [7] 60 0 0 _ ?_
    refine And.intro (fun q => K) (fun q => absurd ?_ q)
    show S.2 6 ≤ nI i
    rw [h1]; exact Int32.le_refl _
  | succ j ih =>
    intro i hj hi
    have hcl : (nI i).toNatClampNeg = i := cl_nI (by omega)
    have hin : vp_in (nI i) 7 := vn_in (by omega) (by decide)
    refine hy_go hy_pfA oX4_keepRow [7] 60 0 0 _ ?_
    refine And.intro (fun q => ?_) (fun q => ?_)
    · have q : S.2 6 ≤ nI i := q
      rw [h1, nI_le24 (by omega) (by omega)] at q
      omega
    · refine And.intro hin (And.intro hin ?_)
      have nx := ih (i + 1) (by omega) (by omega)
      rw [← nI_s, cpf_s] at nx
      have e : upd (cpf (S.1 4) (S.1 5) i) (nI i).toNatClampNeg (S.1 4 (nI i).toNatClampNeg) = upd (cpf (S.1 4) (S.1 5) i) i (S.1 4 i) := by rw [hcl]
      rw [← e] at nx
      exact nx
theorem r_s_keep (c l : Nat) (h1 : S.2 6 = nI c) (h2 : c ≤ 7) : hy_R 4 mX4_keepRow 0 0 [hy_r 13, .inl (nI l)] (wW N F S T C R) (fun o w1 => o = none ∧ w1 = wW N F (SB S l (S.1 4) (cpf (S.1 4) (S.1 5) c)) T C R) := by
  refine hy_Rv (L := [some (hy_r 13), some (.inl (nI l)), none]) rfl (by decide) (hy_ple rfl) rfl ?_
  refine hy_go hy_pfA oX4_keepRow [7] 60 0 0 _ ?_
  have := l_s_keep N F (ss S 8 (nI l)) T C R (fun o w1 => o = none ∧ w1 = wW N F (SB S l (S.1 4) (cpf (S.1 4) (S.1 5) c)) T C R) (some (.inl (nI l))) c h1 h2 ⟨rfl, rfl⟩ c 0 (by omega) (by omega)
  rw [cpf_0] at this
  exact this
end
/-- rows that begin so -/
def eS (c : Nat) (π p : List Nat) : Prop := p.Perm (List.range c) ∧ ∃ q, p = π ++ q
def eJ (c j : Nat) (π p : List Nat) : Prop := ∃ o, o < j ∧ o ∉ π ∧ eS c (π ++ [o]) p
theorem eS_nodup {c : Nat} {π q : List Nat} (h : (π ++ q).Perm (List.range c)) : (π ++ q).Nodup := h.nodup_iff.mpr List.nodup_range
theorem eS_split {c : Nat} {π p : List Nat} (hπ : π.length < c) : eS c π p ↔ eJ c c π p := by
  constructor
  · rintro ⟨h1, q, rfl⟩
    match q, h1 with
    | [], h1 => have := h1.length_eq; simp at this; omega
    | o :: q, h1 =>
      have ho : o ∈ List.range c := h1.mem_iff.mp (by simp)
      refine ⟨o, List.mem_range.mp ho, fun hm => ?_, h1, q, by simp⟩
      have := (List.nodup_append.mp (eS_nodup h1)).2.2 o hm o List.mem_cons_self
      exact this rfl
  · rintro ⟨o, -, -, h1, q, h2⟩
    exact ⟨h1, o :: q, by rw [h2]; simp⟩
theorem eJ_s {c j : Nat} {π p : List Nat} : eJ c (j + 1) π p ↔ eJ c j π p ∨ (j ∉ π ∧ eS c (π ++ [j]) p) := by
  constructor
  · rintro ⟨o, h1, h2, h3⟩
    by_cases e : o = j
    · subst e; exact Or.inr ⟨h2, h3⟩
    · exact Or.inl ⟨o, by omega, h2, h3⟩
  · rintro (⟨o, h1, h2, h3⟩ | ⟨h2, h3⟩)
    · exact ⟨o, by omega, h2, h3⟩
    · exact ⟨j, by omega, h2, h3⟩
theorem eJ_rv {c j : Nat} {π p q : List Nat} (hc : c ≤ 8) (h1 : eJ c j π p) (h2 : eS c (π ++ [j]) q) : rv p ≤ rv q := by
  obtain ⟨o, o1, o2, p1, p2, rfl⟩ := h1
  obtain ⟨q1, q2, rfl⟩ := h2
  have hl : p2.length = q2.length := by
    have a := p1.length_eq
    have b := q1.length_eq
    simp at a b; omega
  have hs : sm p2 := fun x hx => by
    have := p1.mem_iff.mp (List.mem_append_right _ hx)
    rw [List.mem_range] at this; omega
  have h3 : rv (π ++ (o :: p2)) < rv (π ++ (j :: q2)) := (rv_pre (by simp [hl])).1.mpr (rv_head hl hs o1)
  simp only [List.append_assoc, List.singleton_append]
  omega
theorem ext_more {c o : Nat} {π q : List Nat} (h : (π ++ q).Perm (List.range c)) (ho : o < c) (hn : o ∉ π) : ∃ q', ((π ++ [o]) ++ q').Perm (List.range c) := by
  have h1 : o ∈ π ++ q := h.mem_iff.mpr (List.mem_range.mpr ho)
  have h2 : o ∈ q := (List.mem_append.mp h1).resolve_left hn
  refine ⟨q.erase o, ?_⟩
  have h3 : (π ++ (o :: q.erase o)).Perm (π ++ q) := (List.perm_cons_erase h2).symm.append_left π
  simpa using h3.trans h
