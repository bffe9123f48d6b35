/-! ===== the reference's spin yard: the row behind a row ===== -/
def sg (f : Nat → Nat) (lo n : Nat) : List Nat := (List.range n).map (fun j => f (lo + j))
theorem sg_len (f : Nat → Nat) (lo n : Nat) : (sg f lo n).length = n := by simp [sg]
theorem sg_get {f : Nat → Nat} {lo n i : Nat} : (sg f lo n)[i]? = if i < n then some (f (lo + i)) else none := by
  unfold sg
  rw [List.getElem?_map]
  by_cases h : i < n
  · rw [if_pos h, List.getElem?_range h]; rfl
  · rw [if_neg h, List.getElem?_eq_none (by simp; omega)]; rfl
theorem sg_add (f : Nat → Nat) (lo m n : Nat) : sg f lo (m + n) = sg f lo m ++ sg f (lo + m) n := by
  apply List.ext_getElem?
  intro i
  rw [List.getElem?_append, sg_len, sg_get, sg_get, sg_get]
  by_cases h : i < m
  · rw [if_pos (by omega), if_pos h, if_pos h]
  · rw [if_neg h]
    by_cases h2 : i < m + n
    · rw [if_pos h2, if_pos (by omega), show lo + m + (i - m) = lo + i by omega]
    · rw [if_neg h2, if_neg (by omega)]
theorem sg_one (f : Nat → Nat) (lo : Nat) : sg f lo 1 = [f lo] := by simp [sg]
theorem sg_cons (f : Nat → Nat) (lo n : Nat) : sg f lo (n + 1) = f lo :: sg f (lo + 1) n := by
  rw [show n + 1 = 1 + n by omega, sg_add, sg_one]; rfl
theorem sg_congr {f g : Nat → Nat} {lo n : Nat} (h : ∀ j, j < n → f (lo + j) = g (lo + j)) : sg f lo n = sg g lo n := by
  apply List.ext_getElem?
  intro i
  rw [sg_get, sg_get]
  by_cases q : i < n
  · rw [if_pos q, if_pos q, h i q]
  · rw [if_neg q, if_neg q]
theorem sg_rev {f g : Nat → Nat} {lo n : Nat} (h : ∀ j, j < n → g (lo + j) = f (lo + (n - 1 - j))) : sg g lo n = (sg f lo n).reverse := by
  apply List.ext_getElem?
  intro i
  by_cases q : i < n
  · rw [List.getElem?_reverse (by rw [sg_len]; exact q), sg_len, sg_get, sg_get, if_pos q, if_pos (by omega), h i q]
  · rw [sg_get, if_neg q, List.getElem?_eq_none (by rw [List.length_reverse, sg_len]; omega)]
theorem sg_mem {f : Nat → Nat} {lo n x : Nat} : x ∈ sg f lo n ↔ ∃ j, j < n ∧ f (lo + j) = x := by
  unfold sg
  rw [List.mem_map]
  constructor
  · rintro ⟨j, h1, h2⟩
    exact ⟨j, List.mem_range.mp h1, h2⟩
  · rintro ⟨j, h1, h2⟩
    exact ⟨j, List.mem_range.mpr h1, h2⟩
theorem sg_desc {f : Nat → Nat} {lo n : Nat} (h : ∀ x y, x < y → y < n → f (lo + y) < f (lo + x)) : (sg f lo n).Pairwise (· > ·) := by
  unfold sg
  rw [List.pairwise_map]
  refine List.Pairwise.imp_of_mem ?_ List.pairwise_lt_range
  intro a b ha hb hab
  exact h a b hab (List.mem_range.mp hb)
theorem adj_desc {f : Nat → Nat} {m c : Nat} (h : ∀ k, m ≤ k → k + 1 < c → f (k + 1) < f k) : ∀ d x, m ≤ x → x + d + 1 < c → f (x + d + 1) < f x
  | 0, x, h1, h2 => h x h1 h2
  | d + 1, x, h1, h2 => by
    have a := adj_desc h d x h1 (by omega)
    have b := h (x + d + 1) (by omega) (by omega)
    rw [show x + (d + 1) + 1 = x + d + 1 + 1 by omega]
    omega
/-- two places of a row changed about -/
def sw2 (f : Nat → Nat) (i k : Nat) : Nat → Nat := fun j => if j = k then f i else if j = i then f k else f j
/-- the row behind the row f, once its places i, k are known -/
def nxf (f : Nat → Nat) (i k c : Nat) : Nat → Nat := fun j => if j ≤ i then sw2 f i k j else sw2 f i k (i + c - j)
theorem nxf_ok {f : Nat → Nat} {c i k : Nat} (hc : c ≤ 8) (hp : (sg f 0 c).Perm (List.range c)) (h1 : i < k) (h2 : k < c) (h3 : f i < f k) (h4 : ∀ j, i + 1 ≤ j → j + 1 < c → f (j + 1) < f j) (h5 : ∀ j, k < j → j < c → f j < f i) : rv (sg f 0 c) < rv (sg (nxf f i k c) 0 c) ∧ (sg (nxf f i k c) 0 c).Perm (List.range c) ∧ ∀ q : List Nat, q.Perm (List.range c) → rv (sg f 0 c) < rv q → rv (sg (nxf f i k c) 0 c) ≤ rv q := by
  have e1 : sg f 0 c = sg f 0 i ++ f i :: (sg f (i + 1) (k - i - 1) ++ f k :: sg f (k + 1) (c - k - 1)) := by
    rw [show c = i + ((k - i - 1 + (c - k - 1 + 1)) + 1) by omega, sg_add, sg_cons, sg_add, sg_cons]
    rw [show 0 + i = i by omega, show i + 1 + (k - i - 1) = k by omega]
    rw [show i + (k - i - 1 + (c - k - 1 + 1) + 1) - k - 1 = c - k - 1 by omega]
  have e2 : sg (nxf f i k c) 0 c = sg f 0 i ++ f k :: (sg f (i + 1) (k - i - 1) ++ f i :: sg f (k + 1) (c - k - 1)).reverse := by
    have a1 : sg (nxf f i k c) 0 c = sg (nxf f i k c) 0 i ++ nxf f i k c i :: sg (nxf f i k c) (i + 1) (c - i - 1) := by
      have : c = i + ((c - i - 1) + 1) := by omega
      rw [show sg (nxf f i k c) 0 c = sg (nxf f i k c) 0 (i + ((c - i - 1) + 1)) by rw [← this], sg_add, sg_cons, show 0 + i = i by omega]
    have a2 : sg (nxf f i k c) 0 i = sg f 0 i := sg_congr (fun j hj => by
      unfold nxf sw2
      rw [if_pos (by omega), if_neg (by omega), if_neg (by omega)])
    have a3 : nxf f i k c i = f k := by
      unfold nxf sw2
      rw [if_pos (by omega), if_neg (by omega), if_pos rfl]
    have a4 : sg (nxf f i k c) (i + 1) (c - i - 1) = (sg (sw2 f i k) (i + 1) (c - i - 1)).reverse := sg_rev (fun j hj => by
      unfold nxf
      rw [if_neg (by omega)]
      congr 1; omega)
    have a5 : sg (sw2 f i k) (i + 1) (c - i - 1) = sg f (i + 1) (k - i - 1) ++ f i :: sg f (k + 1) (c - k - 1) := by
      rw [show c - i - 1 = (k - i - 1) + ((c - k - 1) + 1) by omega, sg_add, sg_cons, show i + 1 + (k - i - 1) = k by omega]
      rw [show sg (sw2 f i k) (i + 1) (k - i - 1) = sg f (i + 1) (k - i - 1) from sg_congr (fun j hj => by
        unfold sw2
        rw [if_neg (by omega), if_neg (by omega)])]
      rw [show sw2 f i k k = f i by unfold sw2; rw [if_pos rfl]]
      rw [show sg (sw2 f i k) (k + 1) (c - k - 1) = sg f (k + 1) (c - k - 1) from sg_congr (fun j hj => by
        unfold sw2
        rw [if_neg (by omega), if_neg (by omega)])]
    rw [a1, a2, a3, a4, a5]
  have hm : sm (sg f 0 c) := fun x hx => by
    have := hp.mem_iff.mp hx
    rw [List.mem_range] at this; omega
  have hd : (sg f (i + 1) (k - i - 1) ++ f k :: sg f (k + 1) (c - k - 1)).Pairwise (· > ·) := by
    have : sg f (i + 1) (k - i - 1) ++ f k :: sg f (k + 1) (c - k - 1) = sg f (i + 1) (c - i - 1) := by
      rw [show c - i - 1 = (k - i - 1) + ((c - k - 1) + 1) by omega, sg_add, sg_cons, show i + 1 + (k - i - 1) = k by omega]
    rw [this]
    refine sg_desc (fun x y hxy hy => ?_)
    have := adj_desc h4 (y - x - 1) (i + 1 + x) (by omega) (by omega)
    rw [show i + 1 + x + (y - x - 1) + 1 = i + 1 + y by omega] at this
    exact this
  have hv : ∀ x ∈ sg f (k + 1) (c - k - 1), x < f i := fun x hx => by
    obtain ⟨j, j1, rfl⟩ := sg_mem.mp hx
    exact h5 _ (by omega) (by omega)
  rw [e1] at hm
  have key := rv_next hd h3 hv hm
  rw [← e1, ← e2] at key
  refine ⟨key.1, ?_, fun q hq hlt => key.2 q (hq.trans hp.symm) hlt⟩
  have p1 : (sg (nxf f i k c) 0 c).Perm (sg f 0 c) := by
    rw [e1, e2]
    refine List.Perm.append_left _ ?_
    have q1 : (f k :: (sg f (i + 1) (k - i - 1) ++ f i :: sg f (k + 1) (c - k - 1)).reverse).Perm (f k :: (sg f (i + 1) (k - i - 1) ++ f i :: sg f (k + 1) (c - k - 1))) := List.Perm.cons _ (List.reverse_perm _)
    have q2 : (f k :: (sg f (i + 1) (k - i - 1) ++ f i :: sg f (k + 1) (c - k - 1))).Perm (f k :: (f i :: (sg f (i + 1) (k - i - 1) ++ sg f (k + 1) (c - k - 1)))) := List.Perm.cons _ List.perm_middle
    have q3 : (f i :: (sg f (i + 1) (k - i - 1) ++ f k :: sg f (k + 1) (c - k - 1))).Perm (f i :: (f k :: (sg f (i + 1) (k - i - 1) ++ sg f (k + 1) (c - k - 1)))) := List.Perm.cons _ List.perm_middle
    exact q1.trans (q2.trans ((List.Perm.swap (f i) (f k) _).trans q3.symm))
  exact p1.trans hp
theorem desc_last {f : Nat → Nat} {c : Nat} (hc : c ≤ 8) (hp : (sg f 0 c).Perm (List.range c)) (h4 : ∀ j, 0 ≤ j → j + 1 < c → f (j + 1) < f j) : ∀ q : List Nat, q.Perm (List.range c) → rv q ≤ rv (sg f 0 c) := by
  intro q hq
  have hm : sm (sg f 0 c) := fun x hx => by
    have := hp.mem_iff.mp hx
    rw [List.mem_range] at this; omega
  refine rv_max (sg_desc (fun x y hxy hy => ?_)) hm (hq.trans hp.symm)
  have := adj_desc (m := 0) h4 (y - x - 1) (0 + x) (by omega) (by omega)
  rw [show 0 + x + (y - x - 1) + 1 = 0 + y by omega] at this
  exact this
/-- the reference's orders -/
def iSM (M : hyB) (so ho du wo : Nat → Nat) (ch c : Nat) : Prop := iO (M.1 16) (M.1 17) (M.1 18) (M.1 19) so ho du wo ∧ M.2 20 = nI ch ∧ ch ≤ 50 ∧ M.2 15 = nI c ∧ c ≤ 7
def rowF (r : Nat → Int32) (f : Nat → Nat) (c : Nat) : Prop := ∀ k, k < c → r k = nI (f k)
section
variable (N F S T C M : hyB)
theorem m_swaps (r : Nat → Int32) (i k : Nat) (hi : i < 7) (hk : k < 7) : hy_R 3 mX6_swaps 0 0 [hy_r 30, .inl (nI i), .inl (nI k)] (wW N F S T C (wM (sa M 31 r))) (fun o w1 => o = none ∧ w1 = wW N F S T C (wM (sa M 31 (upd (upd r i (r k)) k (r i))))) := by
  have hcl : (nI i).toNatClampNeg = i := cl_nI (by omega)
  have hkl : (nI k).toNatClampNeg = k := cl_nI (by omega)
  have hin : vp_in (nI i) 7 := vn_in hi (by decide)
  have hkn : vp_in (nI k) 7 := vn_in hk (by decide)
  refine hy_Rv (L := [some (hy_r 30), some (.inl (nI i)), some (.inl (nI k)), none]) rfl (by decide) (hy_ple rfl) rfl ?_
  refine hy_go hy_pfA oX6_swaps [] 60 0 0 _ ?_
  refine And.intro hin (And.intro hkn (And.intro hin (And.intro hkn ?_)))
  have key : (none : Option Int32) = none ∧ wW N F S T C (wM (sa M 31 (upd (upd r (nI i).toNatClampNeg (r (nI k).toNatClampNeg)) (nI k).toNatClampNeg (r (nI i).toNatClampNeg)))) = wW N F S T C (wM (sa M 31 (upd (upd r i (r k)) k (r i)))) := by
    rw [hcl, hkl]; exact ⟨rfl, rfl⟩
  exact key
theorem sw2_row {r : Nat → Int32} {f : Nat → Nat} {c i k : Nat} (hr : rowF r f c) (hi : i < c) (hk : k < c) : rowF (upd (upd r i (r k)) k (r i)) (sw2 f i k) c := by
  intro j hj
  unfold upd sw2
  by_cases e : j = k
  · rw [if_pos e, if_pos e]; exact hr i hi
  · rw [if_neg e, if_neg e]
    by_cases e2 : j = i
    · rw [if_pos e2, if_pos e2]; exact hr k hk
    · rw [if_neg e2, if_neg e2]; exact hr j hj
/-- while the end of a row is turned about -/
def rvf (f : Nat → Nat) (i c t : Nat) : Nat → Nat := fun j => if (i < j ∧ j < i + 1 + t) ∨ (c - 1 - t < j ∧ j < c) then f (i + c - j) else f j
theorem rvf_s {f : Nat → Nat} {i c t j : Nat} (h : i + 1 + t < c - 1 - t) (hj : j < c) : rvf f i c (t + 1) j = sw2 (rvf f i c t) (i + 1 + t) (c - 1 - t) j := by
  unfold sw2
  by_cases e : j = c - 1 - t
  · rw [if_pos e]
    unfold rvf
    rw [if_pos (Or.inr ⟨by omega, hj⟩), if_neg (by omega)]
    congr 1; omega
  · rw [if_neg e]
    by_cases e2 : j = i + 1 + t
    · rw [if_pos e2]
      unfold rvf
      rw [if_pos (Or.inl ⟨by omega, by omega⟩), if_neg (by omega)]
      congr 1; omega
    · rw [if_neg e2]
      unfold rvf
      by_cases q : (i < j ∧ j < i + 1 + t) ∨ (c - 1 - t < j ∧ j < c)
      · rw [if_pos q, if_pos (by omega)]
      · rw [if_neg q, if_neg (by omega)]
theorem l_nr3 (Q : hyQ) (c i : Nat) (x2 : Option hyV) (f : Nat → Nat) (h15 : M.2 15 = nI c) (hc : c ≤ 7) (hi : i + 1 < c) (K : ∀ r', rowF r' (fun j => if j ≤ i then f j else f (i + c - j)) c → Q (some 1) (wW N F S T C (wM (sa M 31 r')))) :
    ∀ (m t : Nat) (r : Nat → Int32), c - t = m → i + t < c → rowF r (rvf f i c t) c → hy_X none 5 mX6_nextRow Q 0 0 (86, [some (hy_r 30), some (.inl (nI i)), x2, some (.inl (nI (c - 1 - t))), some (.inl (nI (i + 1 + t)))], [], wW N F S T C (wM (sa M 31 r))) := by
  intro m
  induction m with
  | zero => intro t r hm ht; omega
  | succ m ih =>
    intro t r hm ht hr
    refine hy_go hy_pfA oX6_nextRow [86] 60 0 0 _ ?_
    refine And.intro (fun q => ?_) (fun q => ?_)
    · rw [nI_le24 (by omega) (by omega)] at q
      refine K r (fun j hj => ?_)
      rw [hr j hj]
      congr 1
      unfold rvf
      show _ = (if j ≤ i then f j else f (i + c - j))
      by_cases e : j ≤ i
      · rw [if_pos e, if_neg (by omega)]
      · rw [if_neg e]
        by_cases e2 : (i < j ∧ j < i + 1 + t) ∨ (c - 1 - t < j ∧ j < c)
        · rw [if_pos e2]
        · rw [if_neg e2]
          congr 1; omega
    · rw [nI_le24 (by omega) (by omega)] at q
      refine hy_cl (m_swaps N F S T C M r (i + 1 + t) (c - 1 - t) (by omega) (by omega)) rfl ?_
      rintro o w1 ⟨rfl, rfl⟩
      have hr2 := sw2_row (c := c) hr (i := i + 1 + t) (k := c - 1 - t) (by omega) (by omega)
      have nx := ih (t + 1) (upd (upd r (i + 1 + t) (r (c - 1 - t))) (c - 1 - t) (r (i + 1 + t))) (by omega) (by omega) (fun j hj => by rw [rvf_s (by omega) hj]; exact hr2 j hj)
      have e1 : nI (c - 1 - (t + 1)) = nI (c - 1 - t) + (-1) := by
        have := pk_m1 (c - 1 - (t + 1))
        rw [show c - 1 - (t + 1) + 1 = c - 1 - t by omega] at this
        exact this.symm
      have e2 : nI (i + 1 + (t + 1)) = nI (i + 1 + t) + 1 := by rw [nI_s]; congr 1
      rw [e1, e2] at nx
      exact nx
theorem l_nr2 (Q : hyQ) (c i : Nat) (f : Nat → Nat) (r : Nat → Int32) (h15 : M.2 15 = nI c) (hc : c ≤ 7) (hi : i + 1 < c) (hr : rowF r f c) (hf : ∀ k, k < c → f k < 8) (hd : ∀ j k, j < c → k < c → f j = f k → j = k) (h4 : f i < f (i + 1))
    (K : ∀ k, i < k → k < c → f i < f k → (∀ j, k < j → j < c → f j < f i) → hy_X none 5 mX6_nextRow Q 0 0 (68, [some (hy_r 30), some (.inl (nI i)), some (.inl (nI k)), none, none], [], wW N F S T C (wM (sa M 31 r)))) :
    ∀ (m k : Nat), k = m → i < k → k < c → (∀ j, k < j → j < c → f j < f i) → hy_X none 5 mX6_nextRow Q 0 0 (47, [some (hy_r 30), some (.inl (nI i)), some (.inl (nI k)), none, none], [], wW N F S T C (wM (sa M 31 r))) := by
  intro m
  induction m with
  | zero => intro k hm hk; omega
  | succ m ih =>
    intro k hm hk hkc hj
    have hcl : (nI i).toNatClampNeg = i := cl_nI (by omega)
    have hkl : (nI k).toNatClampNeg = k := cl_nI (by omega)
    have b1 := hf i (by omega)
    have b2 := hf k hkc
    refine hy_go hy_pfA oX6_nextRow [47, 68] 60 0 0 _ ?_
    refine And.intro (vn_in (by omega) (by decide)) (And.intro (vn_in (by omega) (by decide)) ?_)
    refine And.intro (fun q => ?_) (fun q => ?_)
    · have q : r (nI i).toNatClampNeg ≤ r (nI k).toNatClampNeg := q
      rw [hcl, hkl, hr i (by omega), hr k hkc, nI_le24 (by omega) (by omega)] at q
      have hne : f i ≠ f k := fun e => by have := hd i k (by omega) hkc e; omega
      exact K k hk hkc (by omega) hj
    · have q : ¬ r (nI i).toNatClampNeg ≤ r (nI k).toNatClampNeg := q
      rw [hcl, hkl, hr i (by omega), hr k hkc, nI_le24 (by omega) (by omega)] at q
      have hk2 : i + 1 < k := by
        by_cases e : k = i + 1
        · rw [e] at q; omega
        · omega
      have nx := ih (k - 1) (by omega) (by omega) (by omega) (fun j h1 h2 => by
        by_cases e : j = k
        · rw [e]; omega
        · exact hj j (by omega) h2)
      have e1 : nI (k - 1) = nI k + (-1) := by
        have := pk_m1 (k - 1)
        rw [show k - 1 + 1 = k by omega] at this
        exact this.symm
      rw [e1] at nx
      exact nx
theorem l_nr1 (Q : hyQ) (c : Nat) (f : Nat → Nat) (r : Nat → Int32) (h15 : M.2 15 = nI c) (hc : c ≤ 7) (hr : rowF r f c) (hf : ∀ k, k < c → f k < 8) (hd : ∀ j k, j < c → k < c → f j = f k → j = k)
    (K1 : ∀ i, i + 1 < c → f i < f (i + 1) → (∀ j, i + 1 ≤ j → j + 1 < c → f (j + 1) < f j) → hy_X none 5 mX6_nextRow Q 0 0 (34, [some (hy_r 30), some (.inl (nI i)), none, none, none], [], wW N F S T C (wM (sa M 31 r))))
    (K0 : (∀ j, 0 ≤ j → j + 1 < c → f (j + 1) < f j) → Q (some 0) (wW N F S T C (wM (sa M 31 r)))) :
    ∀ (m : Nat), m < c → (∀ j, m ≤ j → j + 1 < c → f (j + 1) < f j) → hy_X none 5 mX6_nextRow Q 0 0 (7, [some (hy_r 30), some (.inl (nI m - 1)), none, none, none], [], wW N F S T C (wM (sa M 31 r))) := by
  intro m
  induction m with
  | zero =>
    intro hm h4
    refine hy_go hy_pfA oX6_nextRow [7] 60 0 0 _ ?_
    refine And.intro (fun q => And.intro (fun q2 => absurd q2 (by decide)) (fun q2 => K0 h4)) (fun q => absurd (by decide) q)
  | succ m ih =>
    intro hm h4
    rw [nI_pred]
    have hcl : (nI m).toNatClampNeg = m := cl_nI (by omega)
    have hsl : (nI m + 1).toNatClampNeg = m + 1 := by rw [nI_s]; exact cl_nI (by omega)
    have b1 := hf m (by omega)
    have b2 := hf (m + 1) (by omega)
    refine hy_go hy_pfA oX6_nextRow [7, 34] 60 0 0 _ ?_
    refine And.intro (fun q => ?_) (fun q => ?_)
    · have q := zi_lt.mp q
      rw [zi_nI (by omega), zi_lit0] at q; omega
    · refine And.intro (vn_in (by omega) (by decide)) (And.intro (by rw [nI_s]; exact vn_in (by omega) (by decide)) ?_)
      refine And.intro (fun q2 => ?_) (fun q2 => ?_)
      · have q2 : r (nI m).toNatClampNeg ≤ r (nI m + 1).toNatClampNeg := q2
        rw [hcl, hsl, hr m (by omega), hr (m + 1) (by omega), nI_le24 (by omega) (by omega)] at q2
        have hne : f m ≠ f (m + 1) := fun e => by have := hd m (m + 1) (by omega) (by omega) e; omega
        exact K1 m (by omega) (by omega) h4
      · have q2 : ¬ r (nI m).toNatClampNeg ≤ r (nI m + 1).toNatClampNeg := q2
        rw [hcl, hsl, hr m (by omega), hr (m + 1) (by omega), nI_le24 (by omega) (by omega)] at q2
        have nx := ih (by omega) (fun j h1 h2 => by
          by_cases e : j = m
          · rw [e]; omega
          · exact h4 j (by omega) h2)
        have e1 : nI m - 1 = nI m + (-1) := Int32.sub_eq_add_neg _ _
        rw [e1] at nx
        exact nx
theorem sg_inj {f : Nat → Nat} {c : Nat} (hp : (sg f 0 c).Perm (List.range c)) : (∀ k, k < c → f k < c) ∧ ∀ j k, j < c → k < c → f j = f k → j = k := by
  constructor
  · intro k hk
    have := hp.mem_iff.mp (sg_mem.mpr ⟨k, hk, rfl⟩)
    rw [Nat.zero_add, List.mem_range] at this
    exact this
  · intro j k hj hk e
    have hn : (sg f 0 c).Nodup := hp.nodup_iff.mpr List.nodup_range
    have h1 : (sg f 0 c)[j]? = (sg f 0 c)[k]? := by
      rw [sg_get, sg_get, if_pos hj, if_pos hk, Nat.zero_add, Nat.zero_add, e]
    exact (List.getElem?_inj (by rw [sg_len]; exact hj) hn).mp h1
/-- the next row -/
theorem m_nextRow (c : Nat) (f : Nat → Nat) (r : Nat → Int32) (h15 : M.2 15 = nI c) (hc : c ≤ 7) (hr : rowF r f c) (hp : (sg f 0 c).Perm (List.range c)) : hy_R 5 mX6_nextRow 0 0 [hy_r 30] (wW N F S T C (wM (sa M 31 r))) (fun o w1 => ∃ x, o = some x ∧ ((x = 0 ∧ (∀ q : List Nat, q.Perm (List.range c) → rv q ≤ rv (sg f 0 c)) ∧ w1 = wW N F S T C (wM (sa M 31 r))) ∨ (x = 1 ∧ ∃ g r', rowF r' g c ∧ (sg g 0 c).Perm (List.range c) ∧ rv (sg f 0 c) < rv (sg g 0 c) ∧ (∀ q : List Nat, q.Perm (List.range c) → rv (sg f 0 c) < rv q → rv (sg g 0 c) ≤ rv q) ∧ w1 = wW N F S T C (wM (sa M 31 r'))))) := by
  obtain ⟨hf, hd⟩ := sg_inj hp
  refine hy_Rz (L := [some (hy_r 30), none, none, none, none]) rfl (by decide) (fun x w h => ?_) (hy_ple rfl) rfl ?_
  · rcases h with ⟨h, -⟩ | ⟨h, -⟩
    · exact Or.inl h
    · exact Or.inr h
  refine hy_go hy_pfA oX6_nextRow [7] 60 0 0 _ ?_
  by_cases hc0 : c = 0
  · subst hc0
    have e0 : M.2 15 - 2 = -2 := by rw [h15]; decide
    suffices g : hy_X none 5 mX6_nextRow (fun o w1 => ∃ x, o = some x ∧ ((x = 0 ∧ (∀ q : List Nat, q.Perm (List.range 0) → rv q ≤ rv (sg f 0 0)) ∧ w1 = wW N F S T C (wM (sa M 31 r))) ∨ (x = 1 ∧ ∃ g r', rowF r' g 0 ∧ (sg g 0 0).Perm (List.range 0) ∧ rv (sg f 0 0) < rv (sg g 0 0) ∧ (∀ q : List Nat, q.Perm (List.range 0) → rv (sg f 0 0) < rv q → rv (sg g 0 0) ≤ rv q) ∧ w1 = wW N F S T C (wM (sa M 31 r'))))) 0 0 (7, [some (hy_r 30), some (.inl (-2)), none, none, none], [], wW N F S T C (wM (sa M 31 r))) by
      rw [← e0] at g
      exact g
    refine hy_go hy_pfA oX6_nextRow [7] 60 0 0 _ ?_
    refine And.intro (fun q => And.intro (fun q2 => absurd q2 (by decide)) (fun q2 => hy_fin (Or.inl ⟨rfl, fun q hq => ?_, rfl⟩))) (fun q => absurd (by decide) q)
    rw [List.perm_nil.mp hq]; exact Nat.zero_le _
  · have e0 : nI (c - 1) - 1 = M.2 15 - 2 := by
      rw [h15]
      have a := nI_pred (c - 1)
      rw [show c - 1 + 1 = c by omega] at a
      rw [← a]
      rw [zi_eq]
      have z := zi_nI (n := c) (by omega)
      have w1 : (nI c - 1).toInt = (c : Int) - 1 := by
        rw [zi_sub]
        · rw [z]; rfl
        · rw [z]; show -2147483648 ≤ (c : Int) - 1; omega
        · rw [z]; show (c : Int) - 1 < 2147483648; omega
      have w2 : (nI c - 2).toInt = (c : Int) - 2 := by
        rw [zi_sub]
        · rw [z]; rfl
        · rw [z]; show -2147483648 ≤ (c : Int) - 2; omega
        · rw [z]; show (c : Int) - 2 < 2147483648; omega
      have w3 : (nI c - 1 - 1).toInt = (c : Int) - 1 - 1 := by
        rw [zi_sub]
        · rw [w1]; rfl
        · rw [w1]; show -2147483648 ≤ (c : Int) - 1 - 1; omega
        · rw [w1]; show (c : Int) - 1 - 1 < 2147483648; omega
      rw [w2, w3]; omega
    have key := l_nr1 N F S T C M (fun o w1 => ∃ x, o = some x ∧ ((x = 0 ∧ (∀ q : List Nat, q.Perm (List.range c) → rv q ≤ rv (sg f 0 c)) ∧ w1 = wW N F S T C (wM (sa M 31 r))) ∨ (x = 1 ∧ ∃ g r', rowF r' g c ∧ (sg g 0 c).Perm (List.range c) ∧ rv (sg f 0 c) < rv (sg g 0 c) ∧ (∀ q : List Nat, q.Perm (List.range c) → rv (sg f 0 c) < rv q → rv (sg g 0 c) ≤ rv q) ∧ w1 = wW N F S T C (wM (sa M 31 r'))))) c f r h15 hc hr (fun k hk => by have := hf k hk; omega) hd (fun i hi h3 h4 => by
        refine hy_go hy_pfA oX6_nextRow [47] 60 0 0 _ ?_
        refine And.intro (fun q => ?_) (fun q => absurd (nI_pos' (by omega)) q)
        have e1 : nI (c - 1) = M.2 15 - 1 := by
          rw [h15]
          have a := nI_pred (c - 1)
          rw [show c - 1 + 1 = c by omega] at a
          exact a.symm
        have lp := l_nr2 N F S T C M (fun o w1 => ∃ x, o = some x ∧ ((x = 0 ∧ (∀ q : List Nat, q.Perm (List.range c) → rv q ≤ rv (sg f 0 c)) ∧ w1 = wW N F S T C (wM (sa M 31 r))) ∨ (x = 1 ∧ ∃ g r', rowF r' g c ∧ (sg g 0 c).Perm (List.range c) ∧ rv (sg f 0 c) < rv (sg g 0 c) ∧ (∀ q : List Nat, q.Perm (List.range c) → rv (sg f 0 c) < rv q → rv (sg g 0 c) ≤ rv q) ∧ w1 = wW N F S T C (wM (sa M 31 r'))))) c i f r h15 hc hi hr (fun k hk => by have := hf k hk; omega) hd h3 (fun k k1 k2 k3 k5 => by
            refine hy_go hy_pfA oX6_nextRow [86] 60 0 0 _ ?_
            refine hy_cl (m_swaps N F S T C M r i k (by omega) (by omega)) rfl ?_
            rintro o w1 ⟨rfl, rfl⟩
            have hsw := sw2_row (c := c) hr (i := i) (k := k) (by omega) k2
            obtain ⟨n1, n2, n3⟩ := nxf_ok (by omega) hp k1 k2 k3 h4 k5
            have l3 := l_nr3 N F S T C M (fun o w1 => ∃ x, o = some x ∧ ((x = 0 ∧ (∀ q : List Nat, q.Perm (List.range c) → rv q ≤ rv (sg f 0 c)) ∧ w1 = wW N F S T C (wM (sa M 31 r))) ∨ (x = 1 ∧ ∃ g r', rowF r' g c ∧ (sg g 0 c).Perm (List.range c) ∧ rv (sg f 0 c) < rv (sg g 0 c) ∧ (∀ q : List Nat, q.Perm (List.range c) → rv (sg f 0 c) < rv q → rv (sg g 0 c) ≤ rv q) ∧ w1 = wW N F S T C (wM (sa M 31 r'))))) c i (some (.inl (nI k))) (sw2 f i k) h15 hc hi (fun r' hr' => ⟨1, rfl, Or.inr ⟨rfl, nxf f i k c, r', hr', n2, n1, n3, rfl⟩⟩) c 0 (upd (upd r i (r k)) k (r i)) (by omega) (by omega) (fun j hj => by
                rw [hsw j hj]
                unfold rvf
                rw [if_neg (by omega)])
            rw [show c - 1 - 0 = c - 1 by omega, e1, show i + 1 + 0 = i + 1 by omega, ← nI_s] at l3
            exact l3) (c - 1) (c - 1) rfl (by omega) (by omega) (fun j h1 h2 => by omega)
        rw [e1] at lp
        exact lp) (fun h4 => ⟨0, rfl, Or.inl ⟨rfl, desc_last (by omega) hp h4, rfl⟩⟩) (c - 1) (by omega) (fun j h1 h2 => by omega)
    rw [e0] at key
    exact key
end
