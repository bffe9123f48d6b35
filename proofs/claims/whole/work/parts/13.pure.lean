/-! ===== the pure static methods ===== -/
theorem hy_fin {x : Int32} {P : Int32 → Prop} (h : P x) : ∃ y, some x = some y ∧ P y := ⟨x, rfl, h⟩
theorem hy_cl {d d' : Nat} {M : hyM} {as : List hyV} {w : hyW} {Q1 : hyQ} {P : Option Int32 → hyW → Prop} (h : hy_R d' M 0 0 as w Q1) (hd : Nat.ble (d' + 1) d = true) (k : ∀ o w1, Q1 o w1 → P o w1) : hy_call d M as w P := ⟨d', Q1, h, Nat.le_of_ble_eq_true hd, k⟩
theorem hy_ple {a b : Nat} (h : Nat.ble a b = true) : a ≤ b := Nat.le_of_ble_eq_true h
def g_within : List Int32 → Int32
  | [v, lo, hi] => if lo ≤ v ∧ v ≤ hi then 1 else 0
  | _ => 0
theorem g_within_01 (xs : List Int32) : g_within xs = 0 ∨ g_within xs = 1 := by
  unfold g_within
  split
  · split
    · exact Or.inr rfl
    · exact Or.inl rfl
  · exact Or.inl rfl
theorem g_within_no1 {v lo hi : Int32} (h : v < lo) : (0 : Int32) = g_within [v, lo, hi] := by
  rw [g_within, if_neg]
  rintro ⟨a, b⟩
  exact (Int32.not_le.mpr h) a
theorem g_within_no2 {v lo hi : Int32} (h : hi < v) : (0 : Int32) = g_within [v, lo, hi] := by
  rw [g_within, if_neg]
  rintro ⟨a, b⟩
  exact (Int32.not_le.mpr h) b
theorem g_within_yes {v lo hi : Int32} (h : ¬ v < lo) (h2 : ¬ hi < v) : (1 : Int32) = g_within [v, lo, hi] := by
  rw [g_within, if_pos]
  exact ⟨Int32.not_lt.mp h, Int32.not_lt.mp h2⟩
theorem r_within (d : Nat) (v lo hi : Int32) (w : hyW) : hy_R d mX5_within 0 0 [.inl v, .inl lo, .inl hi] w (fun o w1 => ∃ x, o = some x ∧ x = g_within [v, lo, hi] ∧ w1 = w) := by
  refine hy_Rz (L := [some (.inl v), some (.inl lo), some (.inl hi)]) rfl (by decide) (fun x w h => h.1 ▸ g_within_01 _) (hy_ple rfl) rfl ?_
  refine hy_go hy_pf0 oX5_within [] 20 0 0 _ ?_
  refine And.intro (fun h => ?_) (fun h => And.intro (fun h2 => ?_) (fun h2 => ?_))
  · exact hy_fin ⟨g_within_no1 h, rfl⟩
  · exact hy_fin ⟨g_within_no2 h2, rfl⟩
  · exact hy_fin ⟨g_within_yes h h2, rfl⟩
theorem r_in (d : Nat) (v lo hi : Int32) (w : hyW) : hy_R d mX6_in 0 0 [.inl v, .inl lo, .inl hi] w (fun o w1 => ∃ x, o = some x ∧ x = g_within [v, lo, hi] ∧ w1 = w) := by
  refine hy_Rz (L := [some (.inl v), some (.inl lo), some (.inl hi)]) rfl (by decide) (fun x w h => h.1 ▸ g_within_01 _) (hy_ple rfl) rfl ?_
  refine hy_go hy_pf0 oX6_in [] 20 0 0 _ ?_
  refine And.intro (fun h => ?_) (fun h => And.intro (fun h2 => ?_) (fun h2 => ?_))
  · exact hy_fin ⟨g_within_no1 h, rfl⟩
  · exact hy_fin ⟨g_within_no2 h2, rfl⟩
  · exact hy_fin ⟨g_within_yes h h2, rfl⟩
def hy_ush (x k : Int32) : Int32 := (x.toUInt32 >>> (k.toUInt32 &&& Int32.toUInt32 31)).toInt32
def g_bc1 (x : Int32) : Int32 := x - (hy_ush x 1 &&& 1431655765)
def g_bc2 (x : Int32) : Int32 := (x &&& 858993459) + (hy_ush x 2 &&& 858993459)
def g_bc3 (x : Int32) : Int32 := (x + hy_ush x 4) &&& 252645135
def g_bc4 (x : Int32) : Int32 := x + hy_ush x 8
def g_bc5 (x : Int32) : Int32 := x + hy_ush x 16
def g_bitCount : List Int32 → Int32
  | [x] => g_bc5 (g_bc4 (g_bc3 (g_bc2 (g_bc1 x)))) &&& 63
  | _ => 0
theorem r_bitCount (d : Nat) (x : Int32) (w : hyW) : hy_R d mJ6_bitCount_0f7a4 0 0 [.inl x] w (fun o w1 => ∃ z, o = some z ∧ z = g_bitCount [x] ∧ w1 = w) := by
  refine hy_Ri (L := [some (.inl x)]) rfl (by decide) (hy_ple rfl) rfl ?_
  refine hy_go hy_pf0 oJ6_bitCount_0f7a4 [] 60 0 0 _ ?_
  exact hy_fin ⟨rfl, rfl⟩
def g_readBy : List Int32 → Int32
  | [x, e] => x * (1000 + e) / 1000
  | _ => 0
theorem r_readBy (d : Nat) (x e : Int32) (w : hyW) : hy_R d mX3_readBy 0 0 [.inl x, .inl e] w (fun o w1 => ∃ z, o = some z ∧ z = g_readBy [x, e] ∧ w1 = w) := by
  refine hy_Ri (L := [some (.inl x), some (.inl e)]) rfl (by decide) (hy_ple rfl) rfl ?_
  refine hy_go hy_pf0 oX3_readBy [] 60 0 0 _ ?_
  refine And.intro (by decide) ?_
  exact hy_fin ⟨rfl, rfl⟩
theorem r_reads (d : Nat) (x e : Int32) (w : hyW) : hy_R d mX6_reads 0 0 [.inl x, .inl e] w (fun o w1 => ∃ z, o = some z ∧ z = g_readBy [x, e] ∧ w1 = w) := by
  refine hy_Ri (L := [some (.inl x), some (.inl e)]) rfl (by decide) (hy_ple rfl) rfl ?_
  refine hy_go hy_pf0 oX6_reads [] 60 0 0 _ ?_
  refine And.intro (by decide) ?_
  exact hy_fin ⟨rfl, rfl⟩
def g_weightsBelow : List Int32 → Int32
  | [x, e] => if x ≤ 0 ∨ ¬ 0 < 1000 + e then 0 else (x * 1000 - 1) / (1000 + e)
  | _ => 0
theorem r_weightsBelow (d : Nat) (x e : Int32) (w : hyW) : hy_R d mX3_weightsBelow 0 0 [.inl x, .inl e] w (fun o w1 => ∃ z, o = some z ∧ z = g_weightsBelow [x, e] ∧ w1 = w) := by
  refine hy_Ri (L := [some (.inl x), some (.inl e), none]) rfl (by decide) (hy_ple rfl) rfl ?_
  refine hy_go hy_pf0 oX3_weightsBelow [] 60 0 0 _ ?_
  refine And.intro (fun h => ?_) (fun h => And.intro (fun h2 => ?_) (fun h2 => ?_))
  · exact hy_fin ⟨(if_pos (Or.inl h)).symm, rfl⟩
  · have h3 : ¬ (1000 + e) = 0 := fun q => absurd (q ▸ h2 : (0 : Int32) < 0) (by decide)
    refine And.intro h3 ?_
    exact hy_fin ⟨(if_neg (fun q => q.elim h (fun q => q h2))).symm, rfl⟩
  · exact hy_fin ⟨(if_pos (Or.inr h2)).symm, rfl⟩
theorem r_isMarks (x : Int32) (w : hyW) : hy_R 3 mX5_isMarks 0 0 [.inl x] w (fun o w1 => ∃ z, o = some z ∧ z = g_within [x, 0, 255] ∧ w1 = w) := by
  refine hy_Rz (L := [some (.inl x)]) rfl (by decide) (fun x w h => h.1 ▸ g_within_01 _) (hy_ple rfl) rfl ?_
  refine hy_go hy_pf0 oX5_isMarks [] 60 0 0 _ ?_
  refine hy_cl (r_within 2 x 0 255 w) rfl ?_
  rintro o w1 ⟨z, rfl, rfl, rfl⟩
  exact hy_fin ⟨rfl, rfl⟩
theorem r_isPit (x : Int32) (w : hyW) : hy_R 3 mX2_isPit 0 0 [.inl x] w (fun o w1 => ∃ z, o = some z ∧ z = g_within [x, 0, 7] ∧ w1 = w) := by
  refine hy_Rz (L := [some (.inl x)]) rfl (by decide) (fun x w h => h.1 ▸ g_within_01 _) (hy_ple rfl) rfl ?_
  refine hy_go hy_pf0 oX2_isPit [] 60 0 0 _ ?_
  refine hy_cl (r_within 2 x 0 7 w) rfl ?_
  rintro o w1 ⟨z, rfl, rfl, rfl⟩
  exact hy_fin ⟨rfl, rfl⟩
def g_isReadSo : List Int32 → Int32
  | [x, r, e] => if (1 ≤ x ∧ x ≤ 10000) ∧ g_readBy [x, e] = r then 1 else 0
  | _ => 0
theorem g_isReadSo_01 (xs : List Int32) : g_isReadSo xs = 0 ∨ g_isReadSo xs = 1 := by
  unfold g_isReadSo
  split
  · split
    · exact Or.inr rfl
    · exact Or.inl rfl
  · exact Or.inl rfl
theorem g_within_0 {v lo hi : Int32} (h : g_within [v, lo, hi] = 0) : ¬ (lo ≤ v ∧ v ≤ hi) := by
  intro q
  rw [g_within, if_pos q] at h
  exact absurd h (by decide)
theorem g_within_n0 {v lo hi : Int32} (h : ¬ g_within [v, lo, hi] = 0) : lo ≤ v ∧ v ≤ hi := by
  by_cases q : lo ≤ v ∧ v ≤ hi
  · exact q
  · rw [g_within, if_neg q] at h
    exact absurd rfl h
theorem r_isReadSo (x r e : Int32) (w : hyW) : hy_R 3 mX3_isReadSo 0 0 [.inl x, .inl r, .inl e] w (fun o w1 => ∃ z, o = some z ∧ z = g_isReadSo [x, r, e] ∧ w1 = w) := by
  refine hy_Rz (L := [some (.inl x), some (.inl r), some (.inl e)]) rfl (by decide) (fun x w h => h.1 ▸ g_isReadSo_01 _) (hy_ple rfl) rfl ?_
  refine hy_go hy_pf0 oX3_isReadSo [] 60 0 0 _ ?_
  refine hy_cl (r_within 2 x 1 10000 w) rfl ?_
  rintro o w1 ⟨z, rfl, rfl, rfl⟩
  refine And.intro (fun h => ?_) (fun h => ?_)
  · exact hy_fin ⟨(if_neg (fun q => g_within_0 h q.1)).symm, rfl⟩
  · refine hy_cl (r_readBy 2 x e w1) rfl ?_
    rintro o w2 ⟨z, rfl, rfl, rfl⟩
    refine And.intro (fun h2 => ?_) (fun h2 => ?_)
    · exact hy_fin ⟨(if_pos ⟨g_within_n0 h, h2⟩).symm, rfl⟩
    · exact hy_fin ⟨(if_neg (fun q => h2 q.2)).symm, rfl⟩
def g_isMarks : List Int32 → Int32
  | [x] => g_within [x, 0, 255]
  | _ => 0
def g_isPit : List Int32 → Int32
  | [x] => g_within [x, 0, 7]
  | _ => 0
/-- the pure functions that steps may take as one step -/
def hy_pf : hyP
  | 1 => some (3, g_within)
  | 2 => some (3, g_within)
  | 5 => some (1, g_bitCount)
  | 7 => some (2, g_readBy)
  | 8 => some (2, g_readBy)
  | 9 => some (2, g_weightsBelow)
  | 10 => some (1, g_isMarks)
  | 11 => some (1, g_isPit)
  | 12 => some (3, g_isReadSo)
  | _ => none
theorem hy_len1 {α : Type} {xs : List α} (h : xs.length = 1) : ∃ a, xs = [a] := by
  match xs, h with
  | [a], _ => exact ⟨a, rfl⟩
theorem hy_len2 {α : Type} {xs : List α} (h : xs.length = 2) : ∃ a b, xs = [a, b] := by
  match xs, h with
  | [a, b], _ => exact ⟨a, b, rfl⟩
theorem hy_len3 {α : Type} {xs : List α} (h : xs.length = 3) : ∃ a b c, xs = [a, b, c] := by
  match xs, h with
  | [a, b, c], _ => exact ⟨a, b, c, rfl⟩
theorem hy_Rw {d : Nat} {M : hyM} {kc ks : Nat} {as : List hyV} {w : hyW} {Q Q' : hyQ} (h : hy_R d M kc ks as w Q) (e : Q = Q') : hy_R d M kc ks as w Q' := e ▸ h
theorem hy_Qeq {g : Int32} {w : hyW} : (fun (o : Option Int32) (w1 : hyW) => ∃ z, o = some z ∧ z = g ∧ w1 = w) = (fun o w1 => o = some g ∧ w1 = w) := by
  funext o w1
  apply propext
  constructor
  · rintro ⟨z, h1, h2, h3⟩
    exact ⟨h2 ▸ h1, h3⟩
  · rintro ⟨h1, h2⟩
    exact ⟨g, h1, rfl, h2⟩
theorem hy_pfA : hy_pfok hy_pf := by
  refine ⟨rfl, fun a n g h xs w hl => ?_⟩
  match a, h with
  | 1, h => cases h; obtain ⟨x, y, z, rfl⟩ := hy_len3 hl; exact hy_Rw (r_within 3 x y z w) hy_Qeq
  | 2, h => cases h; obtain ⟨x, y, z, rfl⟩ := hy_len3 hl; exact hy_Rw (r_in 3 x y z w) hy_Qeq
  | 5, h => cases h; obtain ⟨x, rfl⟩ := hy_len1 hl; exact hy_Rw (r_bitCount 3 x w) hy_Qeq
  | 7, h => cases h; obtain ⟨x, y, rfl⟩ := hy_len2 hl; exact hy_Rw (r_readBy 3 x y w) hy_Qeq
  | 8, h => cases h; obtain ⟨x, y, rfl⟩ := hy_len2 hl; exact hy_Rw (r_reads 3 x y w) hy_Qeq
  | 9, h => cases h; obtain ⟨x, y, rfl⟩ := hy_len2 hl; exact hy_Rw (r_weightsBelow 3 x y w) hy_Qeq
  | 10, h => cases h; obtain ⟨x, rfl⟩ := hy_len1 hl; exact hy_Rw (r_isMarks x w) hy_Qeq
  | 11, h => cases h; obtain ⟨x, rfl⟩ := hy_len1 hl; exact hy_Rw (r_isPit x w) hy_Qeq
  | 12, h => cases h; obtain ⟨x, y, z, rfl⟩ := hy_len3 hl; exact hy_Rw (r_isReadSo x y z w) hy_Qeq
