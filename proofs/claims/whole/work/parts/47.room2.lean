/-! ===== packing the rolls of a lot ===== -/
theorem pk_step (l : Nat → Nat) (n : Nat) (rs pr lo : Nat → Nat) {A : Nat → Prop} {t S k p y a : Nat} (hS : S < 2 ^ n) (hp : sub p S) (h1 : 1 ≤ p) (hpr : ∀ r, pr r ≤ 1000) (hk : k ≤ 6)
    (hy : isMn (fun v => A v ∨ ∃ P, p < P ∧ sub P S ∧ lnS l n P ≤ rs k ∧ ∃ v', PF l n rs pr lo t (S ^^^ P) k v' ∧ v = v' + pr k) y) (ha : isMn (PF l n rs pr lo t (S ^^^ p) k) a) :
    isMn (fun v => A v ∨ ∃ P, ((p - 1) &&& S) < P ∧ sub P S ∧ lnS l n P ≤ rs k ∧ ∃ v', PF l n rs pr lo t (S ^^^ P) k v' ∧ v = v' + pr k) (if a + pr k < y ∧ lnS l n p ≤ rs k then a + pr k else y) := by
  have step := fun v => sub_step hS hp h1 (fun P => lnS l n P ≤ rs k ∧ ∃ v', PF l n rs pr lo t (S ^^^ P) k v' ∧ v = v' + pr k)
  by_cases q : lnS l n p ≤ rs k
  · have e : (if a + pr k < y ∧ lnS l n p ≤ rs k then a + pr k else y) = (if a + pr k < y then a + pr k else y) := by
      by_cases z : a + pr k < y
      · rw [if_pos z, if_pos ⟨z, q⟩]
      · rw [if_neg z, if_neg (fun w => z w.1)]
    rw [e]
    have hb := hpr k
    refine isMn_iff (isMn_add hy ha (isMn_pt (pr k) (by omega)) (fun v1 v2 z1 z2 => by
      have := PF_bd l n rs pr lo hpr z1
      have z2 : v2 = pr k := z2
      omega)) (fun v => ?_)
    rw [step v]
    constructor
    · rintro ((h | h) | ⟨v1, v2, z1, z2, z3⟩)
      · exact Or.inl h
      · exact Or.inr (Or.inl h)
      · exact Or.inr (Or.inr ⟨q, v1, z1, by rw [z3, z2]⟩)
    · rintro (h | h | ⟨-, v1, z1, z2⟩)
      · exact Or.inl (Or.inl h)
      · exact Or.inl (Or.inr h)
      · exact Or.inr ⟨v1, pr k, z1, rfl, z2⟩
  · rw [if_neg (fun w => q w.2)]
    refine isMn_iff hy (fun v => ?_)
    rw [step v]
    constructor
    · rintro (h | h)
      · exact Or.inl h
      · exact Or.inr (Or.inl h)
    · rintro (h | h | h)
      · exact Or.inl h
      · exact Or.inr h
      · exact absurd h.1 q
theorem PF_z (l : Nat → Nat) (n : Nat) (rs pr lo : Nat → Nat) {t k v : Nat} (hl : ∀ j, j < n → 1 ≤ l j) : PF l n rs pr lo t 0 (k + 1) v ↔ PF l n rs pr lo t 0 k v := by
  by_cases h : lo k = t
  · rw [PF_s l n rs pr lo h (Nat.two_pow_pos n) hl]
    constructor
    · rintro (h | ⟨P, p1, p2, -⟩)
      · exact h
      · have := zero_sub p2; omega
    · exact Or.inl
  · exact PF_n l n rs pr lo h
section
variable (N F S T C : hyB) (W : hyW) (l m L lo : Nat → Nat) (R c : Nat)
theorem fpr_bd (hL : ∀ r, L r ≤ 1000) (π : List Nat) (r : Nat) : fpr l L π r ≤ 1000 := by
  have : fpr l L π r = if 0 < uL l π r then 0 else L r := rfl
  rw [this]
  split
  · omega
  · exact hL r
theorem l_t_prIn (Q : hyQ) (pk : Nat → Int32) (π : List Nat) (t s k : Nat) (x4 : Option hyV) (hT : iTc T l m L lo R c) (hln : ∀ s, s < 2 ^ c → T.1 5 s = nI (lnS l c s)) (hπ : π.length ≤ c) (hk : k < R) (hlo : lo k = t) (hs : s < 2 ^ (c - π.length))
    (hpk : ∀ s', s' ≤ s → ∃ x, pk s' = nI x ∧ isMn (Pp l L lo c π t s' k) x)
    (K : ∀ y x7 x8, isMn (Pp l L lo c π t s (k + 1)) y → hy_X none 4 mX1_packRoll Q 0 0 (77, [some (hy_r 20), some (.inl (nI (frs l L π k))), some (.inl (nI (fpr l L π k))), some (.inl (nI π.length)), x4, some (.inl (nI s)), some (.inl (nI y)), x7, x8], [], wW N F S (sa T 6 pk) C W)) :
    ∀ (j p y : Nat) (x8 : Option hyV), p ≤ j → sub p s → isMn (fun v => Pp l L lo c π t s k v ∨ ∃ P, p < P ∧ sub P s ∧ lnS (fl l π.length) (c - π.length) P ≤ frs l L π k ∧ ∃ v', PF (fl l π.length) (c - π.length) (frs l L π) (fpr l L π) lo t (s ^^^ P) k v' ∧ v = v' + fpr l L π k) y → hy_X none 4 mX1_packRoll Q 0 0 (22, [some (hy_r 20), some (.inl (nI (frs l L π k))), some (.inl (nI (fpr l L π k))), some (.inl (nI π.length)), x4, some (.inl (nI s)), some (.inl (nI y)), some (.inl (nI p)), x8], [], wW N F S (sa T 6 pk) C W) := by
  obtain ⟨⟨t0, t1, t2, t3, t4, t5⟩, d1, d2⟩ := id hT
  have hl : ∀ j, j < c - π.length → 1 ≤ fl l π.length j := fun j hj => t4 _ (by omega)
  have hpw : 2 ^ (c - π.length) ≤ 256 := (Nat.pow_le_pow_right (n := 2) (by omega) (by omega) : 2 ^ (c - π.length) ≤ 2 ^ 8)
  have hpc : 2 ^ (c - π.length) * 2 ^ π.length = 2 ^ c := by rw [← Nat.pow_add]; congr 1; omega
  have hpc2 : 2 ^ c ≤ 256 := (Nat.pow_le_pow_right (n := 2) (by omega) t3 : 2 ^ c ≤ 2 ^ 8)
  have hfp := fpr_bd l L (fun r => (t0 r).2.2.1) π k
  have hrs : frs l L π k ≤ 1000 := by
    have := (t0 k).2.2.1
    have e : frs l L π k = L k - uL l π k := rfl
    omega
  intro j
  induction j with
  | zero =>
    intro p y x8 hp hsub hy
    have hp0 : p = 0 := by omega
    subst hp0
    refine hy_go hy_pfA oX1_packRoll [22, 77] 60 0 0 _ ?_
    refine And.intro (fun q => K y _ x8 (isMn_iff hy (fun v => ?_))) (fun q => absurd (Int32.le_refl _) q)
    exact (PF_s (fl l π.length) (c - π.length) (frs l L π) (fpr l L π) lo hlo hs hl).symm
  | succ j ih =>
    intro p y x8 hp hsub hy
    by_cases hp0 : p = 0
    · subst hp0
      refine hy_go hy_pfA oX1_packRoll [22, 77] 60 0 0 _ ?_
      refine And.intro (fun q => K y _ x8 (isMn_iff hy (fun v => ?_))) (fun q => absurd (Int32.le_refl _) q)
      exact (PF_s (fl l π.length) (c - π.length) (frs l L π) (fpr l L π) lo hlo hs hl).symm
    · have hps := sub_le hsub
      have hxl := xor_lt hsub (by omega)
      obtain ⟨a, ha1, ha2⟩ := hpk (s ^^^ p) (by omega)
      have hal := isMn_le ha2
      have hyl := isMn_le hy
      have hst := pk_step (fl l π.length) (c - π.length) (frs l L π) (fpr l L π) lo hs hsub (by omega) (fpr_bd l L (fun r => (t0 r).2.2.1) π) (by omega) hy ha2
      have hnl : ((p - 1) &&& s) ≤ j := by
        have := and_lt (t := p) (S := s) (by omega)
        omega
      have hxcl : (nI s ^^^ nI p).toNatClampNeg = s ^^^ p := by rw [nI_xor]; exact cl_nI (by omega)
      have hxin : vp_in (nI s ^^^ nI p) 256 := by rw [nI_xor]; exact vn_in (by omega) (by decide)
      have hm : p * 2 ^ π.length < 2 ^ c := by
        rw [← hpc]
        exact Nat.mul_lt_mul_of_pos_right (by omega) (Nat.two_pow_pos _)
      have hsh : nI p <<< (nI π.length &&& 31) = nI (p * 2 ^ π.length) := shl_I (by omega) (by omega)
      have hshin : vp_in (nI p <<< (nI π.length &&& 31)) 256 := by rw [hsh]; exact vn_in (by omega) (by decide)
      have hlen : T.1 5 (nI p <<< (nI π.length &&& 31)).toNatClampNeg = nI (lnS (fl l π.length) (c - π.length) p) := by
        rw [hsh, cl_nI (by omega), hln _ hm, lnS_sh l hπ]
      have hlb : lnS (fl l π.length) (c - π.length) p ≤ 4000 := by
        have := sumf_bd (f := fun j => if p.testBit j = true then fl l π.length j else 0) (b := 500) (n := c - π.length) (fun k _ => by split; exact (t1 _).2.2.1; omega)
        unfold lnS
        omega
      have e1 : pk (nI s ^^^ nI p).toNatClampNeg + nI (fpr l L π k) = nI (a + fpr l L π k) := by rw [hxcl, ha1, nI_add]
      have hsub2 : sub ((p - 1) &&& s) s := sub_and _ _
      have e2 : nI ((p - 1) &&& s) = (nI p - 1) &&& nI s := by
        rw [← nI_and]
        have := nI_pred (p - 1)
        rw [show p - 1 + 1 = p by omega] at this
        rw [this]
      have nx := ih ((p - 1) &&& s) _ (some (.inl (pk (nI s ^^^ nI p).toNatClampNeg + nI (fpr l L π k)))) hnl hsub2 hst
      rw [e2] at nx
      have hno : ¬ (a + fpr l L π k < y ∧ lnS (fl l π.length) (c - π.length) p ≤ frs l L π k) → hy_X none 4 mX1_packRoll Q 0 0 (22, [some (hy_r 20), some (.inl (nI (frs l L π k))), some (.inl (nI (fpr l L π k))), some (.inl (nI π.length)), x4, some (.inl (nI s)), some (.inl (nI y)), some (.inl ((nI p - 1) &&& nI s)), (some (.inl (pk (nI s ^^^ nI p).toNatClampNeg + nI (fpr l L π k))))], [], wW N F S (sa T 6 pk) C W) := fun hc => by
        rw [if_neg hc] at nx
        exact nx
      refine hy_go hy_pfA oX1_packRoll [22, 77] 60 0 0 _ ?_
      refine And.intro (fun q => ?_) (fun q => ?_)
      · have q := zi_le.mp q
        rw [zi_nI (by omega), zi_lit0] at q; omega
      · refine And.intro hxin ?_
        refine And.intro (fun q2 => ?_) (fun q2 => ?_)
        · have q2 : nI y ≤ pk (nI s ^^^ nI p).toNatClampNeg + nI (fpr l L π k) := q2
          rw [e1, nI_le24 (by omega) (by omega)] at q2
          exact hno (by omega)
        · have q2 : ¬ nI y ≤ pk (nI s ^^^ nI p).toNatClampNeg + nI (fpr l L π k) := q2
          rw [e1, nI_le24 (by omega) (by omega)] at q2
          refine And.intro hshin ?_
          refine And.intro (fun q3 => ?_) (fun q3 => ?_)
          · have q3 : nI (frs l L π k) < T.1 5 (nI p <<< (nI π.length &&& 31)).toNatClampNeg := q3
            rw [hlen, zi_lt, zi_nI (by omega), zi_nI (by omega)] at q3
            exact hno (by omega)
          · have q3 : ¬ nI (frs l L π k) < T.1 5 (nI p <<< (nI π.length &&& 31)).toNatClampNeg := q3
            rw [hlen, zi_lt, zi_nI (by omega), zi_nI (by omega)] at q3
            rw [if_pos ⟨by omega, by omega⟩, ← e1] at nx
            exact nx
def pkI (pk : Nat → Int32) (π : List Nat) (t k : Nat) : Prop := ∀ s, s < 2 ^ (c - π.length) → ∃ x, pk s = nI x ∧ isMn (Pp l L lo c π t s k) x
theorem l_t_pr (Q : hyQ) (π : List Nat) (t k : Nat) (x4 : Option hyV) (hT : iTc T l m L lo R c) (hln : ∀ s, s < 2 ^ c → T.1 5 s = nI (lnS l c s)) (hπ : π.length ≤ c) (hk : k < R) (hlo : lo k = t)
    (K : ∀ pk, pkI l L lo c pk π t (k + 1) → Q none (wW N F S (sa T 6 pk) C W)) :
    ∀ (s : Nat) (pk : Nat → Int32) (x6 x7 x8 : Option hyV), s < 2 ^ (c - π.length) → (∀ s', s' ≤ s → ∃ x, pk s' = nI x ∧ isMn (Pp l L lo c π t s' k) x) → (∀ s', s < s' → s' < 2 ^ (c - π.length) → ∃ x, pk s' = nI x ∧ isMn (Pp l L lo c π t s' (k + 1)) x) →
      hy_X none 4 mX1_packRoll Q 0 0 (4, [some (hy_r 20), some (.inl (nI (frs l L π k))), some (.inl (nI (fpr l L π k))), some (.inl (nI π.length)), x4, some (.inl (nI s)), x6, x7, x8], [], wW N F S (sa T 6 pk) C W) := by
  obtain ⟨⟨t0, t1, t2, t3, t4, t5⟩, d1, d2⟩ := id hT
  have hl : ∀ j, j < c - π.length → 1 ≤ fl l π.length j := fun j hj => t4 _ (by omega)
  have hpw : 2 ^ (c - π.length) ≤ 256 := (Nat.pow_le_pow_right (n := 2) (by omega) (by omega) : 2 ^ (c - π.length) ≤ 2 ^ 8)
  intro s
  induction s with
  | zero =>
    intro pk x6 x7 x8 hs h1 h2
    refine hy_go hy_pfA oX1_packRoll [4] 60 0 0 _ ?_
    refine And.intro (fun q => K pk (fun s' hs' => ?_)) (fun q => absurd (Int32.le_refl _) q)
    by_cases e : s' = 0
    · obtain ⟨x, hx1, hx2⟩ := h1 0 (Nat.le_refl _)
      rw [e]
      exact ⟨x, hx1, isMn_iff hx2 (fun v => (PF_z (fl l π.length) (c - π.length) (frs l L π) (fpr l L π) lo hl).symm)⟩
    · exact h2 s' (by omega) hs'
  | succ s ih =>
    intro pk x6 x7 x8 hs h1 h2
    have hcl : (nI (s + 1)).toNatClampNeg = s + 1 := cl_nI (by omega)
    have hin : vp_in (nI (s + 1)) 256 := vn_in (by omega) (by decide)
    obtain ⟨y, hy1, hy2⟩ := h1 (s + 1) (Nat.le_refl _)
    refine hy_go hy_pfA oX1_packRoll [4, 22] 60 0 0 _ ?_
    refine And.intro (fun q => ?_) (fun q => ?_)
    · have q := zi_le.mp q
      rw [zi_nI (by omega), zi_lit0] at q; omega
    · refine And.intro hin ?_
      have inn := l_t_prIn N F S T C W l m L lo R c Q pk π t (s + 1) k x4 hT hln hπ hk hlo hs h1 (fun y' x7' x8' hy' => by
        refine hy_go hy_pfA oX1_packRoll [4] 60 0 0 _ ?_
        refine And.intro hin ?_
        have nx := ih (upd pk (nI (s + 1)).toNatClampNeg (nI y')) (some (.inl (nI y'))) x7' x8' (by omega) (fun s' hs' => by
          rw [hcl]; unfold upd; rw [if_neg (by omega)]
          exact h1 s' (by omega)) (fun s' h3 h4 => by
          rw [hcl]; unfold upd
          by_cases e : s' = s + 1
          · rw [if_pos e, e]; exact ⟨y', rfl, hy'⟩
          · rw [if_neg e]; exact h2 s' (by omega) h4)
        have e : nI s = nI (s + 1) + (-1) := by rw [← Int32.sub_eq_add_neg, nI_pred]
        rw [e] at nx
        exact nx) (s + 1) (s + 1) y x8 (Nat.le_refl _) (fun i h => h) (isMn_iff hy2 (fun v => ⟨Or.inl, fun h => by
          rcases h with h | ⟨P, p1, p2, -⟩
          · exact h
          · have := sub_le p2; omega⟩))
      have e : pk (nI (s + 1)).toNatClampNeg = nI y := by rw [hcl]; exact hy1
      rw [← e] at inn
      exact inn
theorem r_t_pr (pk : Nat → Int32) (π : List Nat) (t k : Nat) (hT : iTc T l m L lo R c) (hln : ∀ s, s < 2 ^ c → T.1 5 s = nI (lnS l c s)) (hπ : π.length ≤ c) (hk : k < R) (hlo : lo k = t) (hpk : pkI l L lo c pk π t k) :
    hy_R 4 mX1_packRoll 0 0 [hy_r 20, .inl (nI (frs l L π k)), .inl (nI (fpr l L π k)), .inl (nI π.length), .inl (nI (2 ^ (c - π.length) - 1))] (wW N F S (sa T 6 pk) C W) (fun o w1 => o = none ∧ ∃ pk', pkI l L lo c pk' π t (k + 1) ∧ w1 = wW N F S (sa T 6 pk') C W) := by
  refine hy_Rv (L := [some (hy_r 20), some (.inl (nI (frs l L π k))), some (.inl (nI (fpr l L π k))), some (.inl (nI π.length)), some (.inl (nI (2 ^ (c - π.length) - 1))), none, none, none, none]) rfl (by decide) (hy_ple rfl) rfl ?_
  refine hy_go hy_pfA oX1_packRoll [4] 60 0 0 _ ?_
  have hp := Nat.two_pow_pos (c - π.length)
  exact l_t_pr N F S T C W l m L lo R c (fun o w1 => o = none ∧ ∃ pk', pkI l L lo c pk' π t (k + 1) ∧ w1 = wW N F S (sa T 6 pk') C W) π t k _ hT hln hπ hk hlo (fun pk' h => ⟨rfl, pk', h, rfl⟩) (2 ^ (c - π.length) - 1) pk none none none (by omega) (fun s' hs' => hpk s' (by omega)) (fun s' h1 h2 => by omega)
end
