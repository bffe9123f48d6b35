/-! ===== joining a lot; the least with some fixed ===== -/
theorem js_step (l : Nat → Nat) (n : Nat) (rs pr lo mm fm g : Nat → Nat) (F R : Nat) {A : Nat → Prop} {t Y p y a b : Nat} (hY : Y < 2 ^ 4) (hp : sub p Y) (h1 : 1 ≤ p) (hpr : ∀ r, pr r ≤ 1000) (hR : R ≤ 6)
    (hy : isMn (fun v => A v ∨ ∃ P, p < P ∧ sub P Y ∧ okL fm g F P t ∧ ∃ v1 v2, JF l n rs pr lo mm fm g F R (Y ^^^ P) t v1 ∧ PF l n rs pr lo t (cs mm n P) R v2 ∧ v = v1 + v2) y)
    (hok : okL fm g F p t) (ha : isMn (JF l n rs pr lo mm fm g F R (Y ^^^ p) t) a) (hb : isMn (PF l n rs pr lo t (cs mm n p) R) b) :
    isMn (fun v => A v ∨ ∃ P, ((p - 1) &&& Y) < P ∧ sub P Y ∧ okL fm g F P t ∧ ∃ v1 v2, JF l n rs pr lo mm fm g F R (Y ^^^ P) t v1 ∧ PF l n rs pr lo t (cs mm n P) R v2 ∧ v = v1 + v2) (if a + b < y then a + b else y) := by
  refine isMn_iff (isMn_add hy ha hb (fun v1 v2 z1 z2 => by
    have := PF_bd l n rs pr lo hpr z2
    have := JF_bd l n rs pr lo mm fm g F R hpr z1
    omega)) (fun v => ?_)
  rw [sub_step hY hp h1 (fun P => okL fm g F P t ∧ ∃ v1 v2, JF l n rs pr lo mm fm g F R (Y ^^^ P) t v1 ∧ PF l n rs pr lo t (cs mm n P) R v2 ∧ v = v1 + v2)]
  constructor
  · rintro ((h | h) | h)
    · exact Or.inl h
    · exact Or.inr (Or.inl h)
    · exact Or.inr (Or.inr ⟨hok, h⟩)
  · rintro (h | h | h)
    · exact Or.inl (Or.inl h)
    · exact Or.inl (Or.inr h)
    · exact Or.inr h.2
theorem js_skip (l : Nat → Nat) (n : Nat) (rs pr lo mm fm g : Nat → Nat) (F R : Nat) {A : Nat → Prop} {t Y p y : Nat} (hY : Y < 2 ^ 4) (hp : sub p Y) (h1 : 1 ≤ p)
    (hy : isMn (fun v => A v ∨ ∃ P, p < P ∧ sub P Y ∧ okL fm g F P t ∧ ∃ v1 v2, JF l n rs pr lo mm fm g F R (Y ^^^ P) t v1 ∧ PF l n rs pr lo t (cs mm n P) R v2 ∧ v = v1 + v2) y)
    (hok : ¬ okL fm g F p t) :
    isMn (fun v => A v ∨ ∃ P, ((p - 1) &&& Y) < P ∧ sub P Y ∧ okL fm g F P t ∧ ∃ v1 v2, JF l n rs pr lo mm fm g F R (Y ^^^ P) t v1 ∧ PF l n rs pr lo t (cs mm n P) R v2 ∧ v = v1 + v2) y := by
  refine isMn_iff hy (fun v => ?_)
  rw [sub_step hY hp h1 (fun P => okL fm g F P t ∧ ∃ v1 v2, JF l n rs pr lo mm fm g F R (Y ^^^ P) t v1 ∧ PF l n rs pr lo t (cs mm n P) R v2 ∧ v = v1 + v2)]
  constructor
  · rintro (h | h)
    · exact Or.inl h
    · exact Or.inr (Or.inl h)
  · rintro (h | h | h)
    · exact Or.inl h
    · exact Or.inr h
    · exact absurd h.1 hok
theorem JF_z (l : Nat → Nat) (n : Nat) (rs pr lo mm fm g : Nat → Nat) (F R : Nat) {t v : Nat} : JF l n rs pr lo mm fm g F R 0 (t + 1) v ↔ JF l n rs pr lo mm fm g F R 0 t v := by
  rw [JF_s]
  constructor
  · rintro (h | ⟨P, p1, p2, -⟩)
    · exact h
    · have := zero_sub p2; omega
  · exact Or.inl
section
variable (N F S T C : hyB) (W : hyW) (l m L lo : Nat → Nat) (R c : Nat)
theorem l_t_jlIn (Q : hyQ) (jn : Nat → Int32) (π : List Nat) (t Y : Nat) (hT : iTc T l m L lo R c) (hr : rowIs (T.1 4) π) (hπ : π.length ≤ c) (h1 : ∀ i, i < π.length → π.getD i 9 < R) (ht : t < 3) (hY : Y < 16) (hpk : pkI l L lo c (T.1 6) π t R)
    (hjn : ∀ Y', Y' ≤ Y → ∃ x, jn Y' = nI x ∧ isMn (Jp l m L lo R c π Y' t) x)
    (K : ∀ y x5 x6, isMn (Jp l m L lo R c π Y (t + 1)) y → hy_X none 5 mX1_joinLot Q 0 0 (74, [some (hy_r 20), some (.inl (nI t)), some (.inl (nI π.length)), some (.inl (nI Y)), some (.inl (nI y)), x5, x6], [], wW N F S (sa T 7 jn) C W)) :
    ∀ (j p y : Nat) (x6 : Option hyV), p ≤ j → sub p Y → isMn (fun v => Jp l m L lo R c π Y t v ∨ ∃ P, p < P ∧ sub P Y ∧ okL m (fg lo π) π.length P t ∧ ∃ v1 v2, JF (fl l π.length) (c - π.length) (frs l L π) (fpr l L π) lo (fmm m π.length) m (fg lo π) π.length R (Y ^^^ P) t v1 ∧ PF (fl l π.length) (c - π.length) (frs l L π) (fpr l L π) lo t (cs (fmm m π.length) (c - π.length) P) R v2 ∧ v = v1 + v2) y → hy_X none 5 mX1_joinLot Q 0 0 (18, [some (hy_r 20), some (.inl (nI t)), some (.inl (nI π.length)), some (.inl (nI Y)), some (.inl (nI y)), some (.inl (nI p)), x6], [], wW N F S (sa T 7 jn) C W) := by
  obtain ⟨⟨t0, t1, t2, t3, t4, t5⟩, d1, d2⟩ := id hT
  have hpw : 2 ^ (c - π.length) ≤ 256 := (Nat.pow_le_pow_right (n := 2) (by omega) (by omega) : 2 ^ (c - π.length) ≤ 2 ^ 8)
  have last : ∀ y x6, isMn (fun v => Jp l m L lo R c π Y t v ∨ ∃ P, 0 < P ∧ sub P Y ∧ okL m (fg lo π) π.length P t ∧ ∃ v1 v2, JF (fl l π.length) (c - π.length) (frs l L π) (fpr l L π) lo (fmm m π.length) m (fg lo π) π.length R (Y ^^^ P) t v1 ∧ PF (fl l π.length) (c - π.length) (frs l L π) (fpr l L π) lo t (cs (fmm m π.length) (c - π.length) P) R v2 ∧ v = v1 + v2) y → hy_X none 5 mX1_joinLot Q 0 0 (18, [some (hy_r 20), some (.inl (nI t)), some (.inl (nI π.length)), some (.inl (nI Y)), some (.inl (nI y)), some (.inl (nI 0)), x6], [], wW N F S (sa T 7 jn) C W) := fun y x6 hy => by
    refine hy_go hy_pfA oX1_joinLot [18, 74] 60 0 0 _ ?_
    refine And.intro (fun q => K y _ x6 (isMn_iff hy (fun v => ?_))) (fun q => absurd (Int32.le_refl _) q)
    exact (JF_s (fl l π.length) (c - π.length) (frs l L π) (fpr l L π) lo (fmm m π.length) m (fg lo π) π.length R).symm
  intro j
  induction j with
  | zero =>
    intro p y x6 hp hsub hy
    have hp0 : p = 0 := by omega
    subst hp0
    exact last y x6 hy
  | succ j ih =>
    intro p y x6 hp hsub hy
    by_cases hp0 : p = 0
    · subst hp0
      exact last y x6 hy
    · have hps := sub_le hsub
      have hxl := xor_lt hsub (by omega)
      obtain ⟨a, ha1, ha2⟩ := hjn (Y ^^^ p) (by omega)
      obtain ⟨b, hb1, hb2⟩ := hpk (cs (fmm m π.length) (c - π.length) p) (cs_lt _ _ _)
      have hcs := cs_lt (fmm m π.length) (c - π.length) p
      have hal := isMn_le ha2
      have hbl := isMn_le hb2
      have hyl := isMn_le hy
      have hnl : ((p - 1) &&& Y) ≤ j := by
        have := and_lt (t := p) (S := Y) (by omega)
        omega
      have hxcl : (nI Y ^^^ nI p).toNatClampNeg = Y ^^^ p := by rw [nI_xor]; exact cl_nI (by omega)
      have hxin : vp_in (nI Y ^^^ nI p) 16 := by rw [nI_xor]; exact vn_in (by omega) (by decide)
      have hsub2 : sub ((p - 1) &&& Y) Y := sub_and _ _
      have e2 : nI ((p - 1) &&& Y) = (nI p - 1) &&& nI Y := by
        rw [← nI_and]
        have := nI_pred (p - 1)
        rw [show p - 1 + 1 = p by omega] at this
        rw [this]
      refine hy_go hy_pfA oX1_joinLot [18, 74] 60 0 0 _ ?_
      refine And.intro (fun q => ?_) (fun q => ?_)
      · have q := zi_le.mp q
        rw [zi_nI (by omega), zi_lit0] at q; omega
      · refine hy_cl (r_t_ct N F S (sa T 7 jn) C W l m L lo R c π p t hT hr hπ h1 ht (by omega)) rfl ?_
        rintro o w1 ⟨x, rfl, hx, rfl⟩
        rcases hx with ⟨hok, rfl⟩ | ⟨hok, rfl⟩
        · refine And.intro (fun q2 => ?_) (fun q2 => ?_)
          · have q2 := zi_eq.mp q2
            rw [zi_nI (by omega), zi_m1] at q2; omega
          · have hccl : (nI (cs (fmm m π.length) (c - π.length) p)).toNatClampNeg = cs (fmm m π.length) (c - π.length) p := cl_nI (by omega)
            refine And.intro hxin (And.intro (vn_in (by omega) (by decide)) ?_)
            have hst := js_step (fl l π.length) (c - π.length) (frs l L π) (fpr l L π) lo (fmm m π.length) m (fg lo π) π.length R hY hsub (by omega) (fpr_bd l L (fun r => (t0 r).2.2.1) π) t2 hy hok ha2 hb2
            have nx := ih ((p - 1) &&& Y) _ (some (.inl (nI (cs (fmm m π.length) (c - π.length) p)))) hnl hsub2 hst
            have e1 : jn (nI Y ^^^ nI p).toNatClampNeg + T.1 6 (nI (cs (fmm m π.length) (c - π.length) p)).toNatClampNeg = nI (a + b) := by rw [hxcl, hccl, ha1, hb1, nI_add]
            have e3 : nI (if a + b < y then a + b else y) = if jn (nI Y ^^^ nI p).toNatClampNeg + T.1 6 (nI (cs (fmm m π.length) (c - π.length) p)).toNatClampNeg < nI y then jn (nI Y ^^^ nI p).toNatClampNeg + T.1 6 (nI (cs (fmm m π.length) (c - π.length) p)).toNatClampNeg else nI y := by
              rw [e1]
              by_cases z : a + b < y
              · rw [if_pos z, if_pos (by rw [zi_lt, zi_nI (by omega), zi_nI (by omega)]; omega)]
              · rw [if_neg z, if_neg (by rw [zi_lt, zi_nI (by omega), zi_nI (by omega)]; omega)]
            rw [e2, e3] at nx
            exact nx
        · refine And.intro (fun q2 => ?_) (fun q2 => absurd rfl q2)
          have hst := js_skip (fl l π.length) (c - π.length) (frs l L π) (fpr l L π) lo (fmm m π.length) m (fg lo π) π.length R hY hsub (by omega) hy hok
          have nx := ih ((p - 1) &&& Y) _ (some (.inl (-1))) hnl hsub2 hst
          rw [e2] at nx
          exact nx
def jnI (jn : Nat → Int32) (π : List Nat) (t : Nat) : Prop := ∀ Y, Y < 16 → ∃ x, jn Y = nI x ∧ isMn (Jp l m L lo R c π Y t) x
theorem l_t_jl (Q : hyQ) (π : List Nat) (t : Nat) (hT : iTc T l m L lo R c) (hr : rowIs (T.1 4) π) (hπ : π.length ≤ c) (h1 : ∀ i, i < π.length → π.getD i 9 < R) (ht : t < 3) (hpk : pkI l L lo c (T.1 6) π t R)
    (K : ∀ jn, jnI l m L lo R c jn π (t + 1) → Q none (wW N F S (sa T 7 jn) C W)) :
    ∀ (Y : Nat) (jn : Nat → Int32) (x4 x5 x6 : Option hyV), Y < 16 → (∀ Y', Y' ≤ Y → ∃ x, jn Y' = nI x ∧ isMn (Jp l m L lo R c π Y' t) x) → (∀ Y', Y < Y' → Y' < 16 → ∃ x, jn Y' = nI x ∧ isMn (Jp l m L lo R c π Y' (t + 1)) x) →
      hy_X none 5 mX1_joinLot Q 0 0 (3, [some (hy_r 20), some (.inl (nI t)), some (.inl (nI π.length)), some (.inl (nI Y)), x4, x5, x6], [], wW N F S (sa T 7 jn) C W) := by
  intro Y
  induction Y with
  | zero =>
    intro jn x4 x5 x6 hY g1 g2
    refine hy_go hy_pfA oX1_joinLot [3] 60 0 0 _ ?_
    refine And.intro (fun q => K jn (fun Y' hY' => ?_)) (fun q => absurd (Int32.le_refl _) q)
    by_cases e : Y' = 0
    · obtain ⟨x, hx1, hx2⟩ := g1 0 (Nat.le_refl _)
      rw [e]
      exact ⟨x, hx1, isMn_iff hx2 (fun v => (JF_z (fl l π.length) (c - π.length) (frs l L π) (fpr l L π) lo (fmm m π.length) m (fg lo π) π.length R).symm)⟩
    · exact g2 Y' (by omega) hY'
  | succ Y ih =>
    intro jn x4 x5 x6 hY g1 g2
    have hcl : (nI (Y + 1)).toNatClampNeg = Y + 1 := cl_nI (by omega)
    have hin : vp_in (nI (Y + 1)) 16 := vn_in (by omega) (by decide)
    obtain ⟨y, hy1, hy2⟩ := g1 (Y + 1) (Nat.le_refl _)
    refine hy_go hy_pfA oX1_joinLot [3, 18] 60 0 0 _ ?_
    refine And.intro (fun q => ?_) (fun q => ?_)
    · have q := zi_le.mp q
      rw [zi_nI (by omega), zi_lit0] at q; omega
    · refine And.intro hin ?_
      have inn := l_t_jlIn N F S T C W l m L lo R c Q jn π t (Y + 1) hT hr hπ h1 ht hY hpk g1 (fun y' x5' x6' hy' => by
        refine hy_go hy_pfA oX1_joinLot [3] 60 0 0 _ ?_
        refine And.intro hin ?_
        have nx := ih (upd jn (nI (Y + 1)).toNatClampNeg (nI y')) (some (.inl (nI y'))) x5' x6' (by omega) (fun Y' hY' => by
          rw [hcl]; unfold upd; rw [if_neg (by omega)]
          exact g1 Y' (by omega)) (fun Y' h3 h4 => by
          rw [hcl]; unfold upd
          by_cases e : Y' = Y + 1
          · rw [if_pos e, e]; exact ⟨y', rfl, hy'⟩
          · rw [if_neg e]; exact g2 Y' (by omega) h4)
        have e : nI Y = nI (Y + 1) + (-1) := by rw [← Int32.sub_eq_add_neg, nI_pred]
        rw [e] at nx
        exact nx) (Y + 1) (Y + 1) y x6 (Nat.le_refl _) (fun i h => h) (isMn_iff hy2 (fun v => ⟨Or.inl, fun h => by
          rcases h with h | ⟨P, p1, p2, -⟩
          · exact h
          · have := sub_le p2; omega⟩))
      have e : jn (nI (Y + 1)).toNatClampNeg = nI y := by rw [hcl]; exact hy1
      rw [← e] at inn
      exact inn
theorem r_t_jl (jn : Nat → Int32) (π : List Nat) (t : Nat) (hT : iTc T l m L lo R c) (hr : rowIs (T.1 4) π) (hπ : π.length ≤ c) (h1 : ∀ i, i < π.length → π.getD i 9 < R) (ht : t < 3) (hpk : pkI l L lo c (T.1 6) π t R) (hjn : jnI l m L lo R c jn π t) :
    hy_R 5 mX1_joinLot 0 0 [hy_r 20, .inl (nI t), .inl (nI π.length)] (wW N F S (sa T 7 jn) C W) (fun o w1 => o = none ∧ ∃ jn', jnI l m L lo R c jn' π (t + 1) ∧ w1 = wW N F S (sa T 7 jn') C W) := by
  refine hy_Rv (L := [some (hy_r 20), some (.inl (nI t)), some (.inl (nI π.length)), none, none, none, none]) rfl (by decide) (hy_ple rfl) rfl ?_
  refine hy_go hy_pfA oX1_joinLot [3] 60 0 0 _ ?_
  exact l_t_jl N F S T C W l m L lo R c (fun o w1 => o = none ∧ ∃ jn', jnI l m L lo R c jn' π (t + 1) ∧ w1 = wW N F S (sa T 7 jn') C W) π t hT hr hπ h1 ht hpk (fun jn' h => ⟨rfl, jn', h, rfl⟩) 15 jn none none none (by omega) (fun Y' hY' => hjn Y' (by omega)) (fun Y' h1 h2 => by omega)
end
