/-! ===== the least with some fixed ===== -/
def scrR (T T' : hyB) : Prop := (∀ k, k ≠ 6 → k ≠ 7 → T'.1 k = T.1 k) ∧ ∀ k, T'.2 k = T.2 k
theorem scrR_mk (T : hyB) (pk jn : Nat → Int32) : scrR T (sa (sa T 6 pk) 7 jn) := by
  refine ⟨fun k h1 h2 => ?_, fun k => rfl⟩
  show sv (sv T.1 6 pk) 7 jn k = T.1 k
  rw [sv_ne h2, sv_ne h1]
theorem scrR_refl (T : hyB) : scrR T T := ⟨fun _ _ _ => rfl, fun _ => rfl⟩
theorem scrR_tr {T T' T2 : hyB} (h : scrR T T') (h2 : scrR T' T2) : scrR T T2 := ⟨fun k a b => by rw [h2.1 k a b, h.1 k a b], fun k => by rw [h2.2 k, h.2 k]⟩
theorem scrR_iTc {T T' : hyB} {l m L lo : Nat → Nat} {R c : Nat} (h : scrR T T') (hT : iTc T l m L lo R c) : iTc T' l m L lo R c := by
  unfold iTc
  rw [h.1 0 (by omega) (by omega), h.1 1 (by omega) (by omega), h.1 2 (by omega) (by omega), h.1 3 (by omega) (by omega), h.2, h.2]
  exact hT
section
variable (N F S T C : hyB) (W : hyW) (l m L lo : Nat → Nat) (R c : Nat)
set_option maxRecDepth 100000 in
theorem l_t_lwC (Q : hyQ) (π : List Nat) (hT : iTc T l m L lo R c) (hln : ∀ s, s < 2 ^ c → T.1 5 s = nI (lnS l c s)) (hr : rowIs (T.1 4) π) (hπ : π.length ≤ c) (h1 : ∀ i, i < π.length → π.getD i 9 < R) (h2 : ∀ r, r < R → uL l π r ≤ L r)
    (K : ∀ v T', lwV l m L lo R c π v → scrR T T' → Q (some (nI v)) (wW N F S T' C W)) :
    ∀ (j t : Nat) (pk jn : Nat → Int32) (x4 : Option hyV), 3 - t = j → t ≤ 3 → jnI l m L lo R c jn π t → hy_X none 6 mX1_leastWith Q 0 0 (89, [some (hy_r 20), some (.inl (nI π.length)), some (.inl (nI (oL l L R π))), some (.inl (nI t)), x4], [], wW N F S (sa (sa T 6 pk) 7 jn) C W) := by
  obtain ⟨⟨t0, t1, t2, t3, t4, t5⟩, d1, d2⟩ := id hT
  have hob := oL_bd l L R (fun r => (t0 r).2.2.1) t2 π
  intro j
  induction j with
  | zero =>
    intro t pk jn x4 hj ht hjn
    have : t = 3 := by omega
    subst this
    obtain ⟨y, hy1, hy2⟩ := hjn 15 (by omega)
    have hyl := isMn_le hy2
    refine hy_go hy_pfA oX1_leastWith [89] 60 0 0 _ ?_
    refine And.intro (fun q => ?_) (fun q => absurd (by decide) q)
    refine And.intro (vn_in (k := 15) (by omega) (by decide)) ?_
    have k := K _ _ (lw_ok l m L lo R c hπ h1 h2 (fun i => (t1 i).2.2.2) (fun r => (t0 r).2.2.2) (fun r => (t0 r).2.2.1) t2 hy2) (scrR_mk T pk jn)
    have e : nI (if oL l L R π + y < 1000000 then oL l L R π + y else 1000000) = if nI (oL l L R π) + jn 15 < 1000000 then nI (oL l L R π) + jn 15 else 1000000 := by
      rw [hy1, nI_add]
      have e0 : (1000000 : Int32) = nI 1000000 := rfl
      by_cases z : oL l L R π + y < 1000000
      · rw [if_pos z, if_pos (by rw [e0, zi_lt, zi_nI (by omega), zi_nI (by omega)]; omega)]
      · rw [if_neg z, if_neg (by rw [e0, zi_lt, zi_nI (by omega), zi_nI (by omega)]; omega), e0]
    rw [e] at k
    exact k
  | succ j ih =>
    intro t pk jn x4 hj ht hjn
    refine hy_go hy_pfA oX1_leastWith [89] 60 0 0 _ ?_
    refine And.intro (fun q => ?_) (fun q => ?_)
    · have q : nI 3 ≤ nI t := q
      rw [nI_le24 (by omega) (by omega)] at q; omega
    · refine hy_cl (r_t_pl N F S (sa (sa T 6 pk) 7 jn) C W l m L lo R c π t hT hln hr hπ h1 h2 (by omega)) rfl ?_
      rintro o w1 ⟨rfl, pk', hp', rfl⟩
      refine hy_cl (r_t_jl N F S (sa T 6 pk') C W l m L lo R c jn π t hT hr hπ h1 (by omega) hp' hjn) rfl ?_
      rintro o w1 ⟨rfl, jn', hj', rfl⟩
      have nx := ih (t + 1) pk' jn' x4 (by omega) (by omega) hj'
      rw [← nI_s] at nx
      exact nx
theorem l_t_lwB (Q : hyQ) (π : List Nat) (hT : iTc T l m L lo R c) (hln : ∀ s, s < 2 ^ c → T.1 5 s = nI (lnS l c s)) (hr : rowIs (T.1 4) π) (hπ : π.length ≤ c) (h1 : ∀ i, i < π.length → π.getD i 9 < R) (h2 : ∀ r, r < R → uL l π r ≤ L r)
    (K : ∀ v T', lwV l m L lo R c π v → scrR T T' → Q (some (nI v)) (wW N F S T' C W)) :
    ∀ (j i : Nat) (jn : Nat → Int32) (x4 : Option hyV), 16 - i = j → 1 ≤ i → i ≤ 16 → (∀ Y, 1 ≤ Y → Y < i → jn Y = nI 1000000) → hy_X none 6 mX1_leastWith Q 0 0 (60, [some (hy_r 20), some (.inl (nI π.length)), some (.inl (nI (oL l L R π))), some (.inl (nI i)), x4], [], wW N F S (sa (sa T 6 (T.1 6)) 7 jn) C W) := by
  intro j
  induction j with
  | zero =>
    intro i jn x4 hj h3 hi hk
    have : i = 16 := by omega
    subst this
    refine hy_go hy_pfA oX1_leastWith [60, 89] 60 0 0 _ ?_
    refine And.intro (fun q => ?_) (fun q => absurd (by decide) q)
    refine And.intro (vn_in (k := 0) (by omega) (by decide)) ?_
    exact l_t_lwC N F S T C W l m L lo R c Q π hT hln hr hπ h1 h2 K 3 0 (T.1 6) (upd jn 0 0) x4 (by omega) (by omega) (fun Y hY => by
      unfold upd
      by_cases e : Y = 0
      · rw [if_pos e]
        refine ⟨0, rfl, isMn_iff (isMn_pt 0 (by omega)) (fun v => ?_)⟩
        unfold Jp
        rw [JF_0, e]
        exact ⟨fun h => ⟨rfl, h⟩, fun h => h.2⟩
      · rw [if_neg e]
        refine ⟨1000000, hk Y (by omega) hY, Or.inr ⟨rfl, fun v hv => ?_⟩⟩
        unfold Jp at hv
        rw [JF_0] at hv
        exact e hv.1)
  | succ j ih =>
    intro i jn x4 hj h3 hi hk
    have hcl : (nI i).toNatClampNeg = i := cl_nI (by omega)
    have hin : vp_in (nI i) 16 := vn_in (by omega) (by decide)
    refine hy_go hy_pfA oX1_leastWith [60, 89] 60 0 0 _ ?_
    refine And.intro (fun q => ?_) (fun q => ?_)
    · have q : nI 16 ≤ nI i := q
      rw [nI_le24 (by omega) (by omega)] at q; omega
    · refine And.intro hin ?_
      have nx := ih (i + 1) (upd jn (nI i).toNatClampNeg (nI 1000000)) x4 (by omega) (by omega) (by omega) (fun Y h4 h5 => by
        rw [hcl]; unfold upd
        by_cases e : Y = i
        · rw [if_pos e]
        · rw [if_neg e]; exact hk Y h4 (by omega))
      rw [← nI_s] at nx
      exact nx
theorem l_t_lwA (Q : hyQ) (π : List Nat) (hT : iTc T l m L lo R c) (hln : ∀ s, s < 2 ^ c → T.1 5 s = nI (lnS l c s)) (hr : rowIs (T.1 4) π) (hπ : π.length ≤ c) (h1 : ∀ i, i < π.length → π.getD i 9 < R)
    (K : ∀ v T', lwV l m L lo R c π v → scrR T T' → Q (some (nI v)) (wW N F S T' C W)) :
    ∀ (j r : Nat) (x4 : Option hyV), R - r = j → r ≤ R → (∀ r', r' < r → uL l π r' ≤ L r') → hy_X none 6 mX1_leastWith Q 0 0 (4, [some (hy_r 20), some (.inl (nI π.length)), some (.inl (nI (sumf (fun r => if 0 < uL l π r then L r else 0) r))), some (.inl (nI r)), x4], [], wW N F S T C W) := by
  obtain ⟨⟨t0, t1, t2, t3, t4, t5⟩, d1, d2⟩ := id hT
  intro j
  induction j with
  | zero =>
    intro r x4 hj hr2 hu
    have : r = R := by omega
    subst this
    refine hy_go hy_pfA oX1_leastWith [4, 60] 60 0 0 _ ?_
    refine And.intro (fun q => ?_) (fun q => absurd ?_ q)
    · exact l_t_lwB N F S T C W l m L lo r c Q π hT hln hr hπ h1 hu K 15 1 (T.1 7) x4 (by omega) (by omega) (by omega) (fun Y h3 h4 => by omega)
    · show T.2 8 ≤ nI r
      rw [d1]; exact Int32.le_refl _
  | succ j ih =>
    intro r x4 hj hr2 hu
    have hcl : (nI r).toNatClampNeg = r := cl_nI (by omega)
    have hin : vp_in (nI r) 6 := vn_in (by omega) (by decide)
    have e0 : T.1 0 (nI r).toNatClampNeg = nI (L r) := by rw [hcl]; exact (t0 r).1
    have hb := uL_bd l (fun i => (t1 i).2.2.1) π (by omega) r
    have hLr := (t0 r).2.2.1
    refine hy_go hy_pfA oX1_leastWith [4, 60] 60 0 0 _ ?_
    refine And.intro (fun q => ?_) (fun q => ?_)
    · have q : T.2 8 ≤ nI r := q
      rw [d1, nI_le24 (by omega) (by omega)] at q; omega
    · refine hy_cl (r_t_used N F S T C W l m L lo R c π r hT hr (by omega) (fun i hi => by have := h1 i hi; omega) (by omega)) rfl ?_
      rintro o w1 ⟨x, rfl, rfl, rfl⟩
      refine And.intro hin ?_
      refine And.intro (fun q2 => ?_) (fun q2 => ?_)
      · have q2 : nI (uL l π r) ≤ T.1 0 (nI r).toNatClampNeg := q2
        rw [e0, nI_le24 (by omega) (by omega)] at q2
        have nx := ih (r + 1) (some (.inl (nI (uL l π r)))) (by omega) (by omega) (fun r' hr' => by
          by_cases e : r' = r
          · rw [e]; exact q2
          · exact hu r' (by omega))
        rw [← nI_s, show sumf (fun r => if 0 < uL l π r then L r else 0) (r + 1) = sumf (fun r => if 0 < uL l π r then L r else 0) r + (if 0 < uL l π r then L r else 0) from rfl, ← nI_add] at nx
        refine And.intro (fun q3 => ?_) (fun q3 => ?_)
        · have q3 := zi_le.mp q3
          rw [zi_nI (by omega), zi_lit0] at q3
          rw [if_neg (by omega)] at nx
          exact nx
        · have q3 : ¬ (nI (uL l π r)).toInt ≤ (0 : Int32).toInt := fun h => q3 (zi_le.mpr h)
          rw [zi_nI (by omega), zi_lit0] at q3
          refine And.intro hin ?_
          rw [if_pos (by omega), ← e0] at nx
          exact nx
      · have q2 : ¬ nI (uL l π r) ≤ T.1 0 (nI r).toNatClampNeg := q2
        rw [e0, nI_le24 (by omega) (by omega)] at q2
        exact K 1000000 T (lw_no l m L lo R c (r := r) (by omega) (by omega)) (scrR_refl T)
theorem r_t_lw (π : List Nat) (hT : iTc T l m L lo R c) (hln : ∀ s, s < 2 ^ c → T.1 5 s = nI (lnS l c s)) (hr : rowIs (T.1 4) π) (hπ : π.length ≤ c) (h1 : ∀ i, i < π.length → π.getD i 9 < R) :
    hy_R 6 mX1_leastWith 0 0 [hy_r 20, .inl (nI π.length)] (wW N F S T C W) (fun o w1 => ∃ x, o = some x ∧ ∃ v T', x = nI v ∧ lwV l m L lo R c π v ∧ scrR T T' ∧ w1 = wW N F S T' C W) := by
  refine hy_Ri (L := [some (hy_r 20), some (.inl (nI π.length)), none, none, none]) rfl (by decide) (hy_ple rfl) rfl ?_
  refine hy_go hy_pfA oX1_leastWith [4] 60 0 0 _ ?_
  exact l_t_lwA N F S T C W l m L lo R c (fun o w1 => ∃ x, o = some x ∧ ∃ v T', x = nI v ∧ lwV l m L lo R c π v ∧ scrR T T' ∧ w1 = wW N F S T' C W) π hT hln hr hπ h1 (fun v T' h3 h4 => ⟨_, rfl, v, T', rfl, h3, h4, rfl⟩) R 0 none (by omega) (by omega) (fun r' h => by omega)
end
