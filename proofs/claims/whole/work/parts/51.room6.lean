/-! ===== the lay of the class ===== -/
theorem row_push {f : Nat → Int32} {π : List Nat} (h : rowIs f π) (x : Nat) : rowIs (upd f π.length (nI x)) (π ++ [x]) := fun i y hy => by
  rw [List.getElem?_append] at hy
  unfold upd
  by_cases e : i < π.length
  · rw [if_pos e] at hy
    rw [if_neg (by omega)]
    exact h i y hy
  · rw [if_neg e, List.getElem?_singleton] at hy
    split at hy
    · cases hy
      rw [if_pos (by omega)]
    · cases hy
section
variable (N F S T C : hyB) (W : hyW) (l m L lo : Nat → Nat) (R c : Nat)
/-- what holds while the lay goes on -/
def ctxT (B : Nat) (T : hyB) : Prop := iTc T l m L lo R c ∧ (∀ s, s < 2 ^ c → T.1 5 s = nI (lnS l c s)) ∧ T.2 10 = nI B ∧ T.2 11 = 1
theorem ctxT_scr {B : Nat} {T T' : hyB} (h : scrR T T') (hT : ctxT l m L lo R c B T) : ctxT l m L lo R c B T' := by
  obtain ⟨h1, h2, h3, h4⟩ := hT
  exact ⟨scrR_iTc h h1, fun s hs => by rw [h.1 5 (by omega) (by omega)]; exact h2 s hs, by rw [h.2]; exact h3, by rw [h.2]; exact h4⟩
/-- how far the lay is -/
def invL (B : Nat) (π : List Nat) : Prop := B < 1000000 ∧ (∀ p, eL l m L lo R c [] p → B ≤ oL l L R p) ∧ (∃ p, eL l m L lo R c π p ∧ oL l L R p = B) ∧ ∀ p, eL l m L lo R c [] p → oL l L R p = B → eL l m L lo R c π p ∨ ∀ q, eL l m L lo R c π q → rv q ≤ rv p
theorem eL_sub {π : List Nat} {x : Nat} {p : List Nat} (h : eL l m L lo R c (π ++ [x]) p) : eL l m L lo R c π p := by
  obtain ⟨h1, h2, q, rfl⟩ := h
  exact ⟨h1, h2, x :: q, by simp⟩
theorem eL_all {π p : List Nat} (h : eL l m L lo R c π p) : eL l m L lo R c [] p := by
  obtain ⟨h1, h2, q, rfl⟩ := h
  exact ⟨h1, h2, _, rfl⟩
theorem invL_s {B r : Nat} {π : List Nat} (hR : R ≤ 8) (hπ : π.length < c) (h : invL l m L lo R c B π) (hn : ∀ x, x < r → ∀ p, eL l m L lo R c (π ++ [x]) p → oL l L R p ≠ B) (hy : ∃ p, eL l m L lo R c (π ++ [r]) p ∧ oL l L R p = B) : invL l m L lo R c B (π ++ [r]) := by
  obtain ⟨h0, h1, h2, h3⟩ := h
  refine ⟨h0, h1, hy, fun p hp hB => ?_⟩
  rcases h3 p hp hB with h | h
  · obtain ⟨x, hx, h4⟩ := (eL_split l m L lo R c hπ).mp h
    by_cases e : x = r
    · exact Or.inl (e ▸ h4)
    · by_cases q : x < r
      · exact absurd hB (hn x q p h4)
      · exact Or.inr (fun q hq => eLj_rv l m L lo R c hR ⟨r, by omega, hq⟩ h4)
  · exact Or.inr (fun q hq => h q (eL_sub l m L lo R c hq))
theorem invL_end {B : Nat} {π : List Nat} (hπ : π.length = c) (h : invL l m L lo R c B π) : leastL l m L lo R c B π := by
  obtain ⟨h0, h1, ⟨p, h2, h3⟩, h4⟩ := h
  have key : ∀ p, eL l m L lo R c π p → p = π := fun p hp => by
    obtain ⟨a, -, q, rfl⟩ := hp
    have : q.length = 0 := by rw [List.length_append] at a; omega
    rw [List.length_eq_zero_iff.mp this, List.append_nil]
  have e := key p h2
  rw [e] at h2 h3
  refine ⟨eL_all l m L lo R c h2, h3, fun p hp => ⟨h1 p hp, fun hB => ?_⟩⟩
  rcases h4 p hp hB with h | h
  · rw [key p h]; exact Nat.le_refl _
  · exact h π h2
set_option maxRecDepth 100000 in
theorem l_t_lowest (Q : hyQ) (B : Nat) (π : List Nat) (hπ : π.length < c) (h1 : ∀ i, i < π.length → π.getD i 9 < R) (hI : invL l m L lo R c B π)
    (K : ∀ r T', r < R → invL l m L lo R c B (π ++ [r]) → ctxT l m L lo R c B T' → rowIs (T'.1 4) (π ++ [r]) → Q none (wW N F S T' C W)) :
    ∀ (j r : Nat) (T : hyB), R - r = j → r ≤ R → ctxT l m L lo R c B T → rowIs (T.1 4) π → (∀ x, x < r → ∀ p, eL l m L lo R c (π ++ [x]) p → oL l L R p ≠ B) → hy_X none 7 mX1_layOnLowestRoll Q 0 0 (2, [some (hy_r 20), some (.inl (nI π.length)), some (.inl (nI r))], [], wW N F S T C W) := by
  intro j
  induction j with
  | zero =>
    intro r T hj hr hT hrow hn
    obtain ⟨p, h2, h3⟩ := hI.2.2.1
    obtain ⟨x, hx, h4⟩ := (eL_split l m L lo R c hπ).mp h2
    exact absurd h3 (hn x (by omega) p h4)
  | succ j ih =>
    intro r T hj hr hT hrow hn
    obtain ⟨⟨⟨t0, t1, t2, t3, t4, t5⟩, d1, d2⟩, hln, hB, hlaid⟩ := id hT
    have hpl : (nI π.length).toNatClampNeg = π.length := cl_nI (by omega)
    have hpin : vp_in (nI π.length) 8 := vn_in (by omega) (by decide)
    have hlen : (π ++ [r]).length = π.length + 1 := by simp
    refine hy_go hy_pfA oX1_layOnLowestRoll [2] 60 0 0 _ ?_
    refine And.intro (fun q => ?_) (fun q => ?_)
    · have q : T.2 8 ≤ nI r := q
      rw [d1, nI_le24 (by omega) (by omega)] at q; omega
    · refine And.intro hpin ?_
      have hrow2 : rowIs (upd (T.1 4) (nI π.length).toNatClampNeg (nI r)) (π ++ [r]) := by rw [hpl]; exact row_push hrow r
      have cl := r_t_lw N F S (sa T 4 (upd (T.1 4) (nI π.length).toNatClampNeg (nI r))) C W l m L lo R c (π ++ [r]) hT.1 hln hrow2 (by omega) (fun i hi => by
        by_cases e : i = π.length
        · rw [e, gd_last]; omega
        · rw [gd_app (by omega)]; exact h1 i (by omega))
      rw [hlen, ← nI_s] at cl
      refine hy_cl cl rfl ?_
      rintro o w1 ⟨x, rfl, v, T', rfl, hv, hs, rfl⟩
      have hT2 : ctxT l m L lo R c B (sa T 4 (upd (T.1 4) (nI π.length).toNatClampNeg (nI r))) := hT
      have hT' := ctxT_scr l m L lo R c hs hT2
      have hrow' : rowIs (T'.1 4) (π ++ [r]) := by rw [hs.1 4 (by omega) (by omega)]; exact hrow2
      have hvl := isMn_le hv
      refine And.intro (fun q2 => ?_) (fun q2 => ?_)
      · have q2 : nI v = T'.2 10 := q2
        rw [hT'.2.2.1, nI_eqI (by omega) (by have := hI.1; omega)] at q2
        refine K r T' (by omega) (invL_s l m L lo R c (by omega) hπ hI hn ?_) hT' hrow'
        rcases hv with ⟨a1, a2, a3⟩ | ⟨a1, a2⟩
        · rw [← q2]; exact a2
        · have := hI.1; omega
      · have q2 : ¬ nI v = T'.2 10 := q2
        rw [hT'.2.2.1, nI_eqI (by omega) (by have := hI.1; omega)] at q2
        have nx := ih (r + 1) T' (by omega) (by omega) hT' (fun i y hy => hrow' i y (by
          have := (List.getElem?_eq_some_iff.mp hy).1
          rw [List.getElem?_append_left this]; exact hy)) (fun x hx p hp => by
          by_cases e : x = r
          · intro hb
            rw [e] at hp
            rcases hv with ⟨a1, ⟨p', a2, a4⟩, a3⟩ | ⟨a1, a2⟩
            · have b1 := a3 B ⟨p, hp, hb⟩
              have b2 := hI.2.1 p' (eL_all l m L lo R c a2)
              omega
            · exact a2 B ⟨p, hp, hb⟩
          · exact hn x (by omega) p hp)
        rw [← nI_s] at nx
        exact nx
theorem r_t_lowest (B : Nat) (π : List Nat) (hπ : π.length < c) (h1 : ∀ i, i < π.length → π.getD i 9 < R) (hI : invL l m L lo R c B π) (hT : ctxT l m L lo R c B T) (hr : rowIs (T.1 4) π) :
    hy_R 7 mX1_layOnLowestRoll 0 0 [hy_r 20, .inl (nI π.length)] (wW N F S T C W) (fun o w1 => o = none ∧ ∃ r T', r < R ∧ invL l m L lo R c B (π ++ [r]) ∧ ctxT l m L lo R c B T' ∧ rowIs (T'.1 4) (π ++ [r]) ∧ w1 = wW N F S T' C W) := by
  refine hy_Rv (L := [some (hy_r 20), some (.inl (nI π.length)), none]) rfl (by decide) (hy_ple rfl) rfl ?_
  refine hy_go hy_pfA oX1_layOnLowestRoll [2] 60 0 0 _ ?_
  exact l_t_lowest N F S C W l m L lo R c (fun o w1 => o = none ∧ ∃ r T', r < R ∧ invL l m L lo R c B (π ++ [r]) ∧ ctxT l m L lo R c B T' ∧ rowIs (T'.1 4) (π ++ [r]) ∧ w1 = wW N F S T' C W) B π hπ h1 hI (fun r T' h3 h4 h5 h6 => ⟨rfl, r, T', h3, h4, h5, h6, rfl⟩) R 0 T (by omega) (by omega) hT hr (fun x hx => by omega)
/-- the mat room of the class is sound -/
def laidT (T : hyB) : Prop := T.2 11 = 1 ∧ ((∃ B b, leastL l m L lo R c B b ∧ B ≤ 6000 ∧ T.2 10 = nI B ∧ rowIs (T.1 4) b) ∨ ((∀ p, ¬ eL l m L lo R c [] p) ∧ T.2 10 = -1))
def iT (T : hyB) : Prop := iTc T l m L lo R c ∧ (T.2 11 = 0 ∨ laidT l m L lo R c T)
theorem l_t_lay (Q : hyQ) (B : Nat) (K : ∀ T', iTc T' l m L lo R c → laidT l m L lo R c T' → Q none (wW N F S T' C W)) :
    ∀ (j : Nat) (π : List Nat) (T : hyB), c - π.length = j → π.length ≤ c → (∀ i, i < π.length → π.getD i 9 < R) → invL l m L lo R c B π → ctxT l m L lo R c B T → rowIs (T.1 4) π → hy_X none 8 mX1_lay Q 0 0 (43, [some (hy_r 20), some (.inl (nI π.length))], [], wW N F S T C W) := by
  intro j
  induction j with
  | zero =>
    intro π T hj hπ h1 hI hT hr
    obtain ⟨⟨⟨t0, t1, t2, t3, t4, t5⟩, d1, d2⟩, hln, hB, hlaid⟩ := id hT
    have hc : π.length = c := by omega
    refine hy_go hy_pfA oX1_lay [43] 60 0 0 _ ?_
    refine And.intro (fun q => ?_) (fun q => absurd ?_ q)
    · have hle := invL_end l m L lo R c hc hI
      have hob := oL_bd l L R (fun r => (t0 r).2.2.1) t2 π
      exact K T hT.1 ⟨hlaid, Or.inl ⟨B, π, hle, by rw [← hle.2.1]; exact hob, hB, hr⟩⟩
    · show T.2 9 ≤ nI π.length
      rw [d2, hc]; exact Int32.le_refl _
  | succ j ih =>
    intro π T hj hπ h1 hI hT hr
    obtain ⟨⟨⟨t0, t1, t2, t3, t4, t5⟩, d1, d2⟩, hln, hB, hlaid⟩ := id hT
    refine hy_go hy_pfA oX1_lay [43] 60 0 0 _ ?_
    refine And.intro (fun q => ?_) (fun q => ?_)
    · have q : T.2 9 ≤ nI π.length := q
      rw [d2, nI_le24 (by omega) (by omega)] at q; omega
    · refine hy_cl (r_t_lowest N F S T C W l m L lo R c B π (by omega) h1 hI hT hr) rfl ?_
      rintro o w1 ⟨rfl, r, T', g1, g2, g3, g4, rfl⟩
      have hlen : (π ++ [r]).length = π.length + 1 := by simp
      have nx := ih (π ++ [r]) T' (by omega) (by omega) (fun i hi => by
        by_cases e : i = π.length
        · rw [e, gd_last]; omega
        · rw [gd_app (by omega)]; exact h1 i (by omega)) g2 g3 g4
      rw [hlen, ← nI_s] at nx
      exact nx
set_option maxRecDepth 100000 in
theorem r_t_lay (hT : iT l m L lo R c T) : hy_R 8 mX1_lay 0 0 [hy_r 20] (wW N F S T C W) (fun o w1 => o = none ∧ ∃ T', iTc T' l m L lo R c ∧ laidT l m L lo R c T' ∧ w1 = wW N F S T' C W) := by
  obtain ⟨⟨t0, t1, t2, t3, t4, t5⟩, d1, d2⟩ := id hT.1
  refine hy_Rv (L := [some (hy_r 20), none]) rfl (by decide) (hy_ple rfl) rfl ?_
  refine hy_go hy_pfA oX1_lay [43] 60 0 0 _ ?_
  refine And.intro (fun q => ?_) (fun q => ?_)
  · refine And.intro (Or.inr rfl) ?_
    refine hy_cl (r_t_ms N F S (ss T 11 1) C W l m L lo R c hT.1) rfl ?_
    rintro o w1 ⟨rfl, ln, hln, rfl⟩
    have cl := r_t_lw N F S (sa (ss T 11 1) 5 ln) C W l m L lo R c [] hT.1 hln (fun i x h => by simp at h) (by simp) (fun i hi => by simp at hi)
    refine hy_cl cl rfl ?_
    rintro o w1 ⟨x, rfl, v, T', rfl, hv, hs, rfl⟩
    have hi := scrR_iTc hs (show iTc (sa (ss T 11 1) 5 ln) l m L lo R c from hT.1)
    have hvl := isMn_le hv
    have h11 : T'.2 11 = 1 := hs.2 11
    refine And.intro (fun q2 => ?_) (fun q2 => ?_)
    · have q2 : nI v < nI 1000000 := q2
      rw [zi_lt, zi_nI (by omega), zi_nI (by omega)] at q2
      have hinv : invL l m L lo R c v [] := by
        rcases hv with ⟨a1, ⟨p, a2, a4⟩, a3⟩ | ⟨a1, a2⟩
        · exact ⟨a1, fun p hp => a3 _ ⟨p, hp, rfl⟩, ⟨p, a2, a4⟩, fun p hp _ => Or.inl hp⟩
        · omega
      have hctx : ctxT l m L lo R c v (ss T' 10 (nI v)) := ⟨hi, fun s hs' => by
        show T'.1 5 s = _
        rw [hs.1 5 (by omega) (by omega)]
        exact hln s hs', rfl, h11⟩
      exact l_t_lay N F S C W l m L lo R c (fun o w1 => o = none ∧ ∃ T', iTc T' l m L lo R c ∧ laidT l m L lo R c T' ∧ w1 = wW N F S T' C W) v (fun T2 g1 g2 => ⟨rfl, T2, g1, g2, rfl⟩) c [] (ss T' 10 (nI v)) (by simp) (by simp) (fun i hi => by simp at hi) hinv hctx (fun i x h => by simp at h)
    · have q2 : ¬ nI v < nI 1000000 := q2
      rw [zi_lt, zi_nI (by omega), zi_nI (by omega)] at q2
      refine ⟨rfl, ss (ss T' 10 (nI v)) 10 (-1), hi, ⟨h11, Or.inr ⟨fun p hp => ?_, rfl⟩⟩, rfl⟩
      rcases hv with ⟨a1, a2, a3⟩ | ⟨a1, a2⟩
      · omega
      · exact a2 _ ⟨p, hp, rfl⟩
  · have q : ¬ T.2 11 = 0 := q
    refine ⟨rfl, T, hT.1, ?_, rfl⟩
    rcases hT.2 with h | h
    · exact absurd h q
    · exact h
theorem r_t_opened (hT : iT l m L lo R c T) : hy_R 9 mX1_leastOpened 0 0 [hy_r 20] (wW N F S T C W) (fun o w1 => ∃ x, o = some x ∧ ∃ T', iT l m L lo R c T' ∧ ((∃ B b, leastL l m L lo R c B b ∧ x = nI B) ∨ ((∀ p, ¬ eL l m L lo R c [] p) ∧ x = -1)) ∧ w1 = wW N F S T' C W) := by
  refine hy_Ri (L := [some (hy_r 20)]) rfl (by decide) (hy_ple rfl) rfl ?_
  refine hy_go hy_pfA oX1_leastOpened [] 60 0 0 _ ?_
  refine hy_cl (r_t_lay N F S T C W l m L lo R c hT) rfl ?_
  rintro o w1 ⟨rfl, T', g1, g2, rfl⟩
  refine hy_fin ⟨T', ⟨g1, Or.inr g2⟩, ?_, rfl⟩
  rcases g2.2 with ⟨B, b, h1, h2, h3, h4⟩ | ⟨h1, h2⟩
  · exact Or.inl ⟨B, b, h1, h3⟩
  · exact Or.inr ⟨h1, h2⟩
theorem r_t_from (a : Int32) (hT : iT l m L lo R c T) : hy_R 9 mX1_rollUnder 0 0 [hy_r 20, .inl a] (wW N F S T C W) (fun o w1 => ∃ x, o = some x ∧ ∃ T', iT l m L lo R c T' ∧ sp_from l m L lo R c a x ∧ w1 = wW N F S T' C W) := by
  obtain ⟨⟨t0, t1, t2, t3, t4, t5⟩, d1, d2⟩ := id hT.1
  refine hy_Ri (L := [some (hy_r 20), some (.inl a)]) rfl (by decide) (hy_ple rfl) rfl ?_
  refine hy_go hy_pfA oX1_rollUnder [] 60 0 0 _ ?_
  refine And.intro (fun q => ?_) (fun q => ?_)
  · rw [d2] at q
    refine hy_fin ⟨T, hT, Or.inr ⟨?_, rfl⟩, rfl⟩
    rintro ⟨k, B, b, h1, h2, -⟩
    exact net_out (by omega) q ⟨k, h1, h2⟩
  · rw [d2] at q
    obtain ⟨k, hk, rfl⟩ := net_in (by omega) q
    have hcl : (nI k).toNatClampNeg = k := cl_nI (by omega)
    refine hy_cl (r_t_lay N F S T C W l m L lo R c hT) rfl ?_
    rintro o w1 ⟨rfl, T', g1, g2, rfl⟩
    refine And.intro (fun q2 => ?_) (fun q2 => ?_)
    · have q2 : T'.2 10 = -1 := q2
      refine hy_fin ⟨T', ⟨g1, Or.inr g2⟩, Or.inr ⟨?_, rfl⟩, rfl⟩
      rintro ⟨k', B', b', h1', h2', h3'⟩
      rcases g2.2 with ⟨B, b, h1, h2, h3, h4⟩ | ⟨h1, h2⟩
      · rw [h3, zi_eq, zi_nI (by omega), zi_m1] at q2
        omega
      · exact h1 b' h3'.1
    · have q2 : ¬ T'.2 10 = -1 := q2
      rcases g2.2 with ⟨B, b, h1, h2, h3, h4⟩ | ⟨h1, h2⟩
      · refine And.intro (vn_in (by omega) (by decide)) ?_
        have hlen : b.length = c := h1.1.1
        have hb : b[k]? = some b[k] := List.getElem?_eq_getElem (by omega)
        refine hy_fin ⟨T', ⟨g1, Or.inr g2⟩, Or.inl ⟨k, B, b, b[k], hk, rfl, h1, hb, ?_⟩, rfl⟩
        show T'.1 4 (nI k).toNatClampNeg = _
        rw [hcl]; exact h4 k _ hb
      · exact absurd h2 q2
end
