/-! ===== the finds of the class, the rest ===== -/
def e74 (n y : Int32) : Int32 := n + hy_ush y 1
def e62 (n y : Int32) : Int32 := if y ≤ 4 then e74 n y else e74 (n + 2) (hy_ush y 2)
def e49 (n y : Int32) : Int32 := if y ≤ 16 then e62 n y else e62 (n + 4) (hy_ush y 4)
def e34 (n y : Int32) : Int32 := if y ≤ 256 then e49 n y else e49 (n + 8) (hy_ush y 8)
def e17 (y : Int32) : Int32 := if y ≤ 65536 then e34 1 y else e34 (1 + 16) (hy_ush y 16)
def nzf (x : Int32) : Int32 := if 0 < ((x ^^^ (-1)) &&& (x - 1)) then e17 ((x ^^^ (-1)) &&& (x - 1)) else ((x ^^^ (-1)) &&& (x - 1)) &&& 32
theorem nzf_pow : ∀ k : Fin 24, nzf (nI (2 ^ k.val)) = nI k.val := by decide
theorem r_ntz (d : Nat) (x : Int32) (w : hyW) : hy_R d mJ6_numberOfTrailingZeros_0f7a4 0 0 [.inl x] w (fun o w1 => ∃ z, o = some z ∧ z = nzf x ∧ w1 = w) := by
  refine hy_Ri (L := [some (.inl x), none]) rfl (by decide) (hy_ple rfl) rfl ?_
  have k74 : ∀ n y : Int32, e74 n y = nzf x → hy_X none d mJ6_numberOfTrailingZeros_0f7a4 (fun o w1 => ∃ z, o = some z ∧ z = nzf x ∧ w1 = w) 0 0 (74, [some (.inl y), some (.inl n)], [], w) := fun n y h => by
    refine hy_go hy_pfA oJ6_numberOfTrailingZeros_0f7a4 [] 60 0 0 _ ?_
    exact hy_fin ⟨h, rfl⟩
  have k62 : ∀ n y : Int32, e62 n y = nzf x → hy_X none d mJ6_numberOfTrailingZeros_0f7a4 (fun o w1 => ∃ z, o = some z ∧ z = nzf x ∧ w1 = w) 0 0 (62, [some (.inl y), some (.inl n)], [], w) := fun n y h => by
    refine hy_go hy_pfA oJ6_numberOfTrailingZeros_0f7a4 [74] 60 0 0 _ ?_
    refine And.intro (fun q => k74 n y ?_) (fun q => k74 (n + 2) (hy_ush y 2) ?_)
    · rw [e62, if_pos q] at h; exact h
    · rw [e62, if_neg q] at h; exact h
  have k49 : ∀ n y : Int32, e49 n y = nzf x → hy_X none d mJ6_numberOfTrailingZeros_0f7a4 (fun o w1 => ∃ z, o = some z ∧ z = nzf x ∧ w1 = w) 0 0 (49, [some (.inl y), some (.inl n)], [], w) := fun n y h => by
    refine hy_go hy_pfA oJ6_numberOfTrailingZeros_0f7a4 [62] 60 0 0 _ ?_
    refine And.intro (fun q => k62 n y ?_) (fun q => k62 (n + 4) (hy_ush y 4) ?_)
    · rw [e49, if_pos q] at h; exact h
    · rw [e49, if_neg q] at h; exact h
  have k34 : ∀ n y : Int32, e34 n y = nzf x → hy_X none d mJ6_numberOfTrailingZeros_0f7a4 (fun o w1 => ∃ z, o = some z ∧ z = nzf x ∧ w1 = w) 0 0 (34, [some (.inl y), some (.inl n)], [], w) := fun n y h => by
    refine hy_go hy_pfA oJ6_numberOfTrailingZeros_0f7a4 [49] 60 0 0 _ ?_
    refine And.intro (fun q => k49 n y ?_) (fun q => k49 (n + 8) (hy_ush y 8) ?_)
    · rw [e34, if_pos q] at h; exact h
    · rw [e34, if_neg q] at h; exact h
  refine hy_go hy_pfA oJ6_numberOfTrailingZeros_0f7a4 [34] 60 0 0 _ ?_
  refine And.intro (fun q => And.intro (fun q2 => k34 _ _ ?_) (fun q2 => k34 _ _ ?_)) (fun q => hy_fin ⟨?_, rfl⟩)
  · rw [nzf, if_pos q, e17, if_pos q2]
  · rw [nzf, if_pos q, e17, if_neg q2]; rfl
  · rw [nzf, if_neg q]
theorem r_onlyOne (x : Nat) (hx : x < 2 ^ 24) (w : hyW) : hy_R 4 mX0_onlyOne 0 0 [.inl (nI x)] w (fun o w1 => ∃ z, o = some z ∧ ((∃ k, k < 24 ∧ x = 2 ^ k ∧ z = nI k) ∨ (¬ ∃ k, k < 24 ∧ x = 2 ^ k) ∧ z = -1) ∧ w1 = w) := by
  refine hy_Ri (L := [some (.inl (nI x))]) rfl (by decide) (hy_ple rfl) rfl ?_
  refine hy_go hy_pfA oX0_onlyOne [] 60 0 0 _ ?_
  have e1 : g_bitCount [nI x] = nI (pcn x) := bc_I hx
  have l1 : pcn x ≤ 24 := cb_le _ _
  have h1 : g_bitCount [nI x] = 1 ↔ pcn x = 1 := by
    rw [e1, zi_eq, zi_nI (by omega), zi_lit1]; omega
  refine And.intro (fun q => ?_) (fun q => ?_)
  · obtain ⟨k, k1, k2⟩ := (pcn_1 hx).mp (h1.mp q)
    refine hy_cl (r_ntz 3 (nI x) w) rfl ?_
    rintro o w1 ⟨z, rfl, rfl, rfl⟩
    refine hy_fin ⟨Or.inl ⟨k, k1, k2, ?_⟩, rfl⟩
    rw [k2]; exact nzf_pow ⟨k, k1⟩
  · exact hy_fin ⟨Or.inr ⟨fun h => q (h1.mpr ((pcn_1 hx).mpr h)), rfl⟩, rfl⟩
theorem sureP_of {s : Nat → Nat} {c f x : Nat} {z : Int32} (hs : ∀ f, s f < 2 ^ 24) (hc : c ≤ 8) (hh : hallC s c) (hf : f < c) (hx : ∀ n, x.testBit n = true ↔ rch s c f n) (hz : (∃ k, k < 24 ∧ x = 2 ^ k ∧ z = nI k) ∨ (¬ ∃ k, k < 24 ∧ x = 2 ^ k) ∧ z = -1) : sureP s c f z := by
  have h1 : ∀ n, (∃ φ, way s c φ ∧ φ f = n) ↔ x.testBit n = true := fun n => by rw [hx, rch_way hs hc hh hf]
  rcases hz with ⟨k, k1, k2, k3⟩ | ⟨k1, k2⟩
  · exact Or.inl ⟨k, k1, k3, fun n => by rw [h1 n]; exact pow_bit.mp k2 n⟩
  · refine Or.inr ⟨k2, ?_⟩
    rintro ⟨k, hk⟩
    have h2 : x = 2 ^ k := pow_bit.mpr (fun n => by rw [← h1 n]; exact hk n)
    have h3 : k < 24 := by
      have h4 : (s f).testBit k = true := ((hx k).mp ((pow_bit.mp h2 k).mpr rfl)).1
      exact tb_lt (hs f) h4
    exact k1 ⟨k, h3, h2⟩
def us (s : Nat → Nat) (c x : Nat) : Nat → Nat := fun f => if f = c then x else s f
theorem us_lt {s : Nat → Nat} {c x : Nat} (hs : ∀ f, s f < 2 ^ 24) (hx : x < 2 ^ 24) : ∀ f, us s c x f < 2 ^ 24 := fun f => by
  unfold us; split
  · exact hx
  · exact hs f
section
variable (N F S T C : hyB) (R : hyW)
theorem l_f_tell (Q : hyQ) (a : Option hyV) (s : Nat → Nat) (c : Nat) (hF : iF F s c) (h1 : 1 ≤ c) (hh : hallC s c)
    (K : ∀ g : Nat → Int32, (∀ f, f < c → sureP s c f (g f)) → Q (some (nI (c - 1))) (wW N (sa F 1 g) S T C R)) :
    ∀ (j i : Nat) (g : Nat → Int32), c - i = j → i ≤ c → (∀ f, f < i → sureP s c f (g f)) → hy_X none 6 mX0_tell Q 0 0 (48, [some (hy_r 10), a, some (.inl (nI i))], [], wW N (sa F 1 g) S T C R) := by
  obtain ⟨c1, c2, c3, c4⟩ := id hF
  intro j
  induction j with
  | zero =>
    intro i g hj hi hg
    have : i = c := by omega
    subst this
    refine hy_go hy_pfA oX0_tell [48] 60 0 0 _ ?_
    refine And.intro (fun q => ?_) (fun q => absurd ?_ q)
    · have := K g hg
      have e : nI (i - 1) = F.2 2 - 1 := by
        rw [c1]
        have := nI_pred (i - 1)
        rw [show i - 1 + 1 = i by omega] at this
        exact this.symm
      rw [e] at this
      exact this
    · show F.2 2 ≤ nI i
      rw [c1]; exact Int32.le_refl _
  | succ j ih =>
    intro i g hj hi hg
    have hcl : (nI i).toNatClampNeg = i := cl_nI (by omega)
    have a1 : c - (i + 1) = j := by omega
    have a2 : i + 1 ≤ c := by omega
    have a3 : i < 8 := by omega
    refine hy_go hy_pfA oX0_tell [48] 60 0 0 _ ?_
    refine And.intro (fun q => ?_) (fun q => ?_)
    · have q : F.2 2 ≤ nI i := q
      rw [c1, nI_le24 (by omega) (by omega)] at q
      omega
    · refine hy_cl (r_f_reach N (sa F 1 g) S T C R s c i hF (by omega)) rfl ?_
      rintro o w1 ⟨x, rfl, ⟨z, rfl, z1, z2⟩, rfl⟩
      refine hy_cl (r_onlyOne z z1 _) rfl ?_
      rintro o w1 ⟨x, rfl, hx, rfl⟩
      refine And.intro (vn_in a3 (by decide)) ?_
      have nx := ih (i + 1) (upd g (nI i).toNatClampNeg x) a1 a2 (fun f hf => by
        rw [hcl]
        unfold upd
        by_cases e : f = i
        · rw [if_pos e, e]
          exact sureP_of c4 c2 hh a2 z2 hx
        · rw [if_neg e]
          exact hg f (Nat.lt_of_le_of_ne (Nat.le_of_lt_succ hf) e))
      rw [← nI_s] at nx
      exact nx
/-- what telling a find does -/
def sp_tell (F : hyB) (s : Nat → Nat) (c x : Nat) (r : Int32) (F' : hyB) : Prop :=
  (c < 8 ∧ (∃ φ, way (us s c x) (c + 1) φ) ∧ r = nI c ∧ ∃ g : Nat → Int32, (∀ f, f < c + 1 → sureP (us s c x) (c + 1) f (g f)) ∧ F' = ss (sa (sa F 0 (upd (F.1 0) c (nI x))) 1 g) 2 (nI (c + 1))) ∨
  (c < 8 ∧ (¬ ∃ φ, way (us s c x) (c + 1) φ) ∧ r = -1 ∧ F' = sa F 0 (upd (F.1 0) c (nI x))) ∨ (¬ c < 8 ∧ r = -1 ∧ F' = F)
theorem iF_upd {F : hyB} {s : Nat → Nat} {c x : Nat} (hF : iF F s c) (hx : x < 2 ^ 24) : iF (sa F 0 (upd (F.1 0) c (nI x))) (us s c x) c := by
  obtain ⟨c1, c2, c3, c4⟩ := hF
  refine ⟨c1, c2, fun f => ?_, us_lt c4 hx⟩
  show upd (F.1 0) c (nI x) f = nI (us s c x f)
  unfold upd us
  split
  · rfl
  · exact c3 f
set_option maxRecDepth 100000 in
theorem r_f_tell (s : Nat → Nat) (c x : Nat) (hF : iF F s c) (hx : x < 2 ^ 24) : hy_R 6 mX0_tell 0 0 [hy_r 10, .inl (nI x)] (wW N F S T C R) (fun o w1 => ∃ r, o = some r ∧ ∃ F', sp_tell F s c x r F' ∧ w1 = wW N F' S T C R) := by
  obtain ⟨c1, c2, c3, c4⟩ := id hF
  refine hy_Ri (L := [some (hy_r 10), some (.inl (nI x)), none]) rfl (by decide) (hy_ple rfl) rfl ?_
  refine hy_go hy_pfA oX0_tell [48] 60 0 0 _ ?_
  refine And.intro (fun q => ?_) (fun q => ?_)
  · have hc : c < 8 := by
      have q := zi_lt.mp q
      rw [c1, zi_nI (by omega)] at q
      have : (8 : Int32).toInt = 8 := rfl
      omega
    have hcl : (F.2 2).toNatClampNeg = c := by rw [c1]; exact cl_nI (by omega)
    have hF2 := iF_upd hF hx
    refine And.intro (by rw [c1]; exact vn_in hc (by omega)) ?_
    have e0 : nI (c + 1) = F.2 2 + 1 := by rw [c1, nI_s]
    have hw : hy_R 5 mX0_hasWay 0 0 [hy_r 10, .inl (F.2 2 + 1)] (wW N (sa F 0 (upd (F.1 0) (F.2 2).toNatClampNeg (nI x))) S T C R) (fun o w1 => ∃ z, o = some z ∧ ((hallC (us s c x) (c + 1) ∧ z = 1) ∨ (¬ hallC (us s c x) (c + 1) ∧ z = 0)) ∧ w1 = wW N (sa F 0 (upd (F.1 0) c (nI x))) S T C R) := by
      rw [hcl, ← e0]
      exact r_f_hasWay N (sa F 0 (upd (F.1 0) c (nI x))) S T C R (us s c x) c (c + 1) hF2 (by omega)
    refine hy_cl hw rfl ?_
    rintro o w1 ⟨z, rfl, hz, rfl⟩
    refine And.intro (fun q2 => ?_) (fun q2 => ?_)
    · rcases hz with ⟨h1, h2⟩ | ⟨h1, h2⟩
      · rw [h2] at q2; exact absurd q2 (by decide)
      · refine hy_fin ⟨sa F 0 (upd (F.1 0) c (nI x)), Or.inr (Or.inl ⟨hc, fun h => h1 ((hall_way (us_lt c4 hx) (by omega)).mpr h), rfl, rfl⟩), rfl⟩
    · rcases hz with ⟨h1, h2⟩ | ⟨h1, h2⟩
      · have hF3 : iF (ss (sa F 0 (upd (F.1 0) c (nI x))) 2 (nI (c + 1))) (us s c x) (c + 1) := ⟨rfl, by omega, hF2.2.2.1, hF2.2.2.2⟩
        have key := l_f_tell N (ss (sa F 0 (upd (F.1 0) c (nI x))) 2 (nI (c + 1))) S T C R (fun o w1 => ∃ r, o = some r ∧ ∃ F', sp_tell F s c x r F' ∧ w1 = wW N F' S T C R) (some (.inl (nI x))) (us s c x) (c + 1) hF3 (by omega) h1 (fun g hg => ⟨_, rfl, ss (sa (sa F 0 (upd (F.1 0) c (nI x))) 1 g) 2 (nI (c + 1)), Or.inl ⟨hc, (hall_way (us_lt c4 hx) (by omega)).mp h1, rfl, g, hg, rfl⟩, rfl⟩) (c + 1) 0 (F.1 1) (by omega) (by omega) (fun f hf => by omega)
        have e : F.2 2 + 1 = nI (c + 1) := e0.symm
        have goal : hy_X none 6 mX0_tell (fun o w1 => ∃ r, o = some r ∧ ∃ F', sp_tell F s c x r F' ∧ w1 = wW N F' S T C R) 0 0 (48, [some (hy_r 10), some (.inl (nI x)), some (.inl 0)], [], wW N (ss (sa F 0 (upd (F.1 0) c (nI x))) 2 (F.2 2 + 1)) S T C R) := by
          rw [e]; exact key
        exact goal
      · rw [h2] at q2; exact absurd rfl q2
  · refine hy_fin ⟨F, Or.inr (Or.inr ⟨fun h => q (zi_lt.mpr ?_), rfl, rfl⟩), rfl⟩
    rw [c1, zi_nI (by omega)]
    have : (8 : Int32).toInt = 8 := rfl
    omega
theorem r_f_howMany (a : Int32) (s : Nat → Nat) (c : Nat) (hF : iF F s c) : hy_R 5 mX0_howManyFit 0 0 [hy_r 10, .inl a] (wW N F S T C R) (fun o w1 => ∃ x, o = some x ∧ ((∃ f, f < c ∧ a = nI f ∧ x = nI (pcn (s f))) ∨ (¬ ∃ f, f < c ∧ a = nI f) ∧ x = -1) ∧ w1 = wW N F S T C R) := by
  obtain ⟨c1, c2, c3, c4⟩ := id hF
  refine hy_Ri (L := [some (hy_r 10), some (.inl a)]) rfl (by decide) (hy_ple rfl) rfl ?_
  refine hy_go hy_pfA oX0_howManyFit [] 60 0 0 _ ?_
  refine hy_cl (r_f_isFind N F S T C R a) rfl ?_
  rintro o w1 ⟨x, rfl, rfl, rfl⟩
  refine And.intro (fun q => ?_) (fun q => ?_)
  · rw [c1] at q
    exact hy_fin ⟨Or.inr ⟨net_out (by omega) q, rfl⟩, rfl⟩
  · rw [c1] at q
    obtain ⟨f, hf, rfl⟩ := net_in (by omega) q
    have hcl : (nI f).toNatClampNeg = f := cl_nI (by omega)
    refine And.intro (vn_in (by omega) (by omega)) ?_
    refine hy_fin ⟨Or.inl ⟨f, hf, rfl, ?_⟩, rfl⟩
    show g_bitCount [F.1 0 (nI f).toNatClampNeg] = _
    rw [hcl, c3 f]; exact bc_I (c4 f)
theorem r_f_sureNet (a : Int32) (s : Nat → Nat) (c : Nat) (hF : iF F s c) : hy_R 5 mX0_sureNet 0 0 [hy_r 10, .inl a] (wW N F S T C R) (fun o w1 => ∃ x, o = some x ∧ ((∃ f, f < c ∧ a = nI f ∧ x = F.1 1 f) ∨ (¬ ∃ f, f < c ∧ a = nI f) ∧ x = -1) ∧ w1 = wW N F S T C R) := by
  obtain ⟨c1, c2, c3, c4⟩ := id hF
  refine hy_Ri (L := [some (hy_r 10), some (.inl a)]) rfl (by decide) (hy_ple rfl) rfl ?_
  refine hy_go hy_pfA oX0_sureNet [] 60 0 0 _ ?_
  refine hy_cl (r_f_isFind N F S T C R a) rfl ?_
  rintro o w1 ⟨x, rfl, rfl, rfl⟩
  refine And.intro (fun q => ?_) (fun q => ?_)
  · rw [c1] at q
    exact hy_fin ⟨Or.inr ⟨net_out (by omega) q, rfl⟩, rfl⟩
  · rw [c1] at q
    obtain ⟨f, hf, rfl⟩ := net_in (by omega) q
    have hcl : (nI f).toNatClampNeg = f := cl_nI (by omega)
    refine And.intro (vn_in (by omega) (by omega)) ?_
    refine hy_fin ⟨Or.inl ⟨f, hf, rfl, ?_⟩, rfl⟩
    show F.1 1 (nI f).toNatClampNeg = _
    rw [hcl]
/-- the first find that is sure of a net -/
def sp_sf (g : Nat → Int32) (c : Nat) (a r : Int32) : Prop := (∃ f, f < c ∧ 0 ≤ a ∧ g f = a ∧ r = nI f ∧ ∀ h, h < f → g h ≠ a) ∨ ((¬ ∃ f, f < c ∧ 0 ≤ a ∧ g f = a) ∧ r = -1)
theorem l_f_sureFind (Q : hyQ) (a : Int32) (ha : 0 ≤ a) (s : Nat → Nat) (c : Nat) (hF : iF F s c) (K : ∀ r, sp_sf (F.1 1) c a r → Q (some r) (wW N F S T C R)) :
    ∀ (j i : Nat), c - i = j → i ≤ c → (∀ h, h < i → F.1 1 h ≠ a) → hy_X none 4 mX0_sureFind Q 0 0 (8, [some (hy_r 10), some (.inl a), some (.inl (nI i))], [], wW N F S T C R) := by
  obtain ⟨c1, c2, c3, c4⟩ := id hF
  intro j
  induction j with
  | zero =>
    intro i hj hi hg
    have : i = c := by omega
    subst this
    refine hy_go hy_pfA oX0_sureFind [8] 60 0 0 _ ?_
    refine And.intro (fun q => ?_) (fun q => absurd ?_ q)
    · refine K (-1) (Or.inr ⟨?_, rfl⟩)
      rintro ⟨f, h1, h2, h3⟩
      exact hg f h1 h3
    · rw [c1]; exact Int32.le_refl _
  | succ j ih =>
    intro i hj hi hg
    have hcl : (nI i).toNatClampNeg = i := cl_nI (by omega)
    refine hy_go hy_pfA oX0_sureFind [8] 60 0 0 _ ?_
    refine And.intro (fun q => ?_) (fun q => ?_)
    · rw [c1, nI_le24 (by omega) (by omega)] at q
      omega
    · refine And.intro (vn_in (by omega) (by omega)) ?_
      refine And.intro (fun q2 => ?_) (fun q2 => ?_)
      · rw [hcl] at q2
        exact K (nI i) (Or.inl ⟨i, by omega, ha, q2, rfl, hg⟩)
      · rw [hcl] at q2
        have nx := ih (i + 1) (by omega) (by omega) (fun h hh => by
          by_cases e : h = i
          · rw [e]; exact q2
          · exact hg h (by omega))
        rw [← nI_s] at nx
        exact nx
theorem r_f_sureFind (a : Int32) (s : Nat → Nat) (c : Nat) (hF : iF F s c) : hy_R 4 mX0_sureFind 0 0 [hy_r 10, .inl a] (wW N F S T C R) (fun o w1 => ∃ r, o = some r ∧ sp_sf (F.1 1) c a r ∧ w1 = wW N F S T C R) := by
  refine hy_Ri (L := [some (hy_r 10), some (.inl a), none]) rfl (by decide) (hy_ple rfl) rfl ?_
  refine hy_go hy_pfA oX0_sureFind [8] 60 0 0 _ ?_
  refine And.intro (fun q => ?_) (fun q => ?_)
  · exact l_f_sureFind N F S T C R _ a q s c hF (fun r hr => ⟨r, rfl, hr, rfl⟩) c 0 (by omega) (by omega) (fun h hh => by omega)
  · refine hy_fin ⟨Or.inr ⟨?_, rfl⟩, rfl⟩
    rintro ⟨f, -, h, -⟩
    exact q h
end
