/-! ===== nets on both sides ===== -/
theorem stv_upd_ne {s : Nat → Nat} {c k j : Nat} {st : Nat → Int32} {v : Int32} (h : k ≠ j) : stv s c (upd st j v) k = stv s c st k := by
  unfold stv upd
  rw [if_neg h]
theorem stv_at {s : Nat → Nat} {c k : Nat} {st : Nat → Int32} (h : st k ≠ 2) : stv s c st k = st k := by
  unfold stv
  rw [if_neg (fun q => h q.1)]
theorem upd_at {f : Nat → Int32} {k : Nat} {v : Int32} : upd f k v k = v := by unfold upd; rw [if_pos rfl]
theorem upd_ne {f : Nat → Int32} {k j : Nat} {v : Int32} (h : j ≠ k) : upd f k v j = f j := by unfold upd; rw [if_neg h]
theorem stv_0 {s : Nat → Nat} {c k : Nat} {st : Nat → Int32} : stv s c st k = 0 ↔ st k = 0 := by
  unfold stv
  by_cases q : st k = 2 ∧ ∃ f, sureN s c f k
  · rw [if_pos q, q.1]
    exact ⟨fun h => absurd h (by decide), fun h => absurd h (by decide)⟩
  · rw [if_neg q]
theorem stv_2 {s : Nat → Nat} {c k : Nat} {st : Nat → Int32} (h : stv s c st k = 2) : st k = 2 := by
  unfold stv at h
  split at h
  · exact absurd h (by decide)
  · exact h
theorem sureN_bit {s : Nat → Nat} {c f k : Nat} (h : sureN s c f k) : (s f).testBit k = true := by
  obtain ⟨φ, p1, p2⟩ := (h.2 k).mpr rfl
  have := p1.1 f h.1
  rwa [p2] at this
theorem ptf_congr {z z' : Nat → Prop} [DecidablePred z] [DecidablePred z'] {p r : Nat → Int32} {v : Int32} {n : Nat} (h : ∀ k, k < n → (z k ↔ z' k)) : ptf z p r v n = ptf z' p r v n := by
  funext k
  unfold ptf
  by_cases q : k < n ∧ z k
  · rw [if_pos q, if_pos ⟨q.1, (h k q.1).mp q.2⟩]
  · rw [if_neg q, if_neg (fun w => q ⟨w.1, (h k w.1).mpr w.2⟩)]
theorem cntf_congr {P P' : Nat → Prop} [DecidablePred P] [DecidablePred P'] : ∀ {n : Nat}, (∀ k, k < n → (P k ↔ P' k)) → cntf P n = cntf P' n
  | 0, _ => rfl
  | n + 1, h => by
    have ih := cntf_congr (n := n) (fun k hk => h k (by omega))
    rw [cntf, cntf, ih]
    congr 1
    by_cases q : P n
    · rw [if_pos q, if_pos ((h n (by omega)).mp q)]
    · rw [if_neg q, if_neg (fun w => q ((h n (by omega)).mpr w))]
section
variable (N F S T C M : hyB)
set_option maxRecDepth 100000 in
theorem st_net (a b h g : Int32) (hr : rel N F S T C M) : stp mX5_net mX6_net [.inl a, .inl b, .inl h, .inl g] N F S T C M := by
  obtain ⟨⟨s, c, n, hN⟩, hS, hT, hC⟩ := hr
  have hNM := iNM_of hN
  refine ⟨5, _, y_net N F S T C (wM M) a b h g n hN.2.2.1, by omega, ?_⟩
  rintro o w1 ⟨x, rfl, ⟨q, rfl, rfl⟩ | ⟨q, rfl, rfl⟩⟩
  · refine ⟨nI n, _, F, S, T, C, rfl, rfl, 4, _, m_net _ F S T C M a b h g n hNM, by omega, ?_⟩
    rintro o w2 ⟨x, rfl, ⟨_, rfl, rfl⟩ | ⟨q2, _⟩⟩
    · refine ⟨rfl, mnet M n a b h g (nI (n + 1)), ⟨⟨s, c, n + 1, ?_⟩, hS, hT, hC⟩, rfl⟩
      obtain ⟨⟨e0, e1, e2, e3, e4, e5, e6, e7, e8⟩, a2, ⟨i1, i2, i3, i4⟩, ⟨⟨k1, k2, k3, k4, k5, k6, k7⟩, kk⟩, a5, a6, a7, a8, b1, b2, b3, b4⟩ := hN
      obtain ⟨q1, q2, q3, q4, q5⟩ := q
      refine ⟨⟨e0, e1, ?_, ?_, ?_, ?_, ?_, e7, e8⟩, fun k hk => ?_, ⟨rfl, by omega, i3, ?_⟩, ⟨⟨k1, k2, k3, k4, rfl, by omega, fun f hf => ?_⟩, kk⟩, a5, a6, a7, fun k hk hz f hf => ?_, b1, ?_, ?_, b4⟩
      · show upd (N.1 2) n a = upd (M.1 4) n a
        rw [e2]
      · show upd (N.1 3) n b = upd (M.1 5) n b
        rw [e3]
      · show upd (N.1 4) n h = upd (M.1 6) n h
        rw [e4]
      · show upd (N.1 5) n g = upd (M.1 7) n g
        rw [e5]
      · show upd (N.1 6) n 0 = upd (M.1 8) n 0
        rw [e6]
      · show upd (N.1 7) n 0 k = stv s c (upd (M.1 9) n 0) k
        by_cases e : k = n
        · rw [e, upd_at, stv_at (by rw [upd_at]; decide), upd_at]
        · rw [stv_upd_ne e, upd_ne e]
          exact a2 k (by omega)
      · exact upd_bd i4 (zb (n := 7) q1.1 q1.2 (by omega))
      · have := k7 f hf
        rw [Nat.pow_succ]; omega
      · have hz : upd (M.1 9) n 0 k = 0 := hz
        by_cases e : k = n
        · cases hb : (s f).testBit k with
          | false => rfl
          | true =>
            have := tb_lt (k7 f hf) hb
            omega
        · rw [upd_ne e] at hz
          exact a8 k (by omega) hz f hf
      · exact upd_bd b2 (by
          have := zi_le.mp q4.1
          have := zi_le.mp q4.2
          have : (2000 : Int32).toInt = 2000 := rfl
          rw [zi_lit1] at *
          omega)
      · exact upd_bd b3 (by rw [zi_lit0]; have : 0 ≤ (N.2 9).toInt := b4.1; exact ⟨by omega, by show (0 : Int) ≤ 50 * (N.2 9).toInt; omega⟩)
    · exact absurd q q2
  · refine ⟨-1, N, F, S, T, C, rfl, rfl, 4, _, m_net N F S T C M a b h g n hNM, by omega, ?_⟩
    rintro o w2 ⟨x, rfl, ⟨q2, _⟩ | ⟨_, rfl, rfl⟩⟩
    · exact absurd q2 q
    · exact ⟨rfl, M, ⟨⟨s, c, n, hN⟩, hS, hT, hC⟩, rfl⟩
set_option maxRecDepth 100000 in
theorem st_weeks (v : Int32) (hr : rel N F S T C M) : stp mX5_weeks mX6_weeks [.inl v] N F S T C M := by
  obtain ⟨⟨s, c, n, hN⟩, hS, hT, hC⟩ := hr
  have hNM := iNM_of hN
  have hwk : N.2 9 = M.2 0 := hN.1.2.2.2.2.2.2.2.1
  refine ⟨5, _, y_weeks N F S T C (wM M) v n hN.2.2.1, by omega, ?_⟩
  rintro o w1 ⟨x, rfl, ⟨q, rfl, rfl⟩ | ⟨q, rfl, rfl⟩⟩
  · refine ⟨N.2 9 + v, _, F, S, T, C, rfl, rfl, 4, _, m_weeks _ F S T C M v n hNM, by omega, ?_⟩
    rintro o w2 ⟨x, rfl, ⟨_, rfl, rfl⟩ | ⟨q2, _⟩⟩
    · refine ⟨by rw [hwk], ss (sa M 8 (ptf (fun k => M.1 9 k = 0) (M.1 8) (rtf (M.1 2) (M.1 1) (M.1 4)) v n)) 0 (M.2 0 + v), ⟨⟨s, c, n, ?_⟩, hS, hT, hC⟩, rfl⟩
      obtain ⟨⟨e0, e1, e2, e3, e4, e5, e6, e7, e8⟩, a2, i1, k1, a5, a6, a7, a8, b1, b2, b3, b4⟩ := hN
      obtain ⟨⟨q1, q2⟩, q3⟩ := q
      have v1 := zi_le.mp q1
      have v2 := zi_le.mp q2
      have l100 : (100 : Int32).toInt = 100 := rfl
      have l500 : (500 : Int32).toInt = 500 := rfl
      rw [zi_lit1] at v1
      have hadd : (N.2 9 + v).toInt = (N.2 9).toInt + v.toInt := zi_add (by omega) (by omega)
      have q3 := zi_le.mp q3
      rw [hadd, l500] at q3
      refine ⟨⟨e0, e1, e2, e3, e4, e5, ?_, ?_, e8⟩, a2, i1, k1, a5, a6, a7, a8, b1, b2, fun i => ?_, ?_⟩
      · show ptf (fun k => N.1 7 k = 0) (N.1 6) (rtf (N.1 1) (N.1 0) (N.1 2)) v n = ptf (fun k => M.1 9 k = 0) (M.1 8) (rtf (M.1 2) (M.1 1) (M.1 4)) v n
        rw [← e0, ← e1, ← e2, ← e6]
        exact ptf_congr (fun k hk => by rw [a2 k hk]; exact stv_0)
      · show N.2 9 + v = M.2 0 + v
        rw [e7]
      · show 0 ≤ (ptf (fun k => N.1 7 k = 0) (N.1 6) (rtf (N.1 1) (N.1 0) (N.1 2)) v n i).toInt ∧ (ptf (fun k => N.1 7 k = 0) (N.1 6) (rtf (N.1 1) (N.1 0) (N.1 2)) v n i).toInt ≤ 50 * (N.2 9 + v).toInt
        rw [hadd]
        have p1 := b3 i
        unfold ptf
        split
        · have r1 := b1 (N.1 0 (N.1 2 i).toNatClampNeg).toNatClampNeg
          have r1 : 0 ≤ (rtf (N.1 1) (N.1 0) (N.1 2) i).toInt ∧ (rtf (N.1 1) (N.1 0) (N.1 2) i).toInt ≤ 50 := r1
          generalize rtf (N.1 1) (N.1 0) (N.1 2) i = r at r1
          have m0 : 0 ≤ v.toInt * r.toInt := Int.mul_nonneg (by omega) r1.1
          have m1 : v.toInt * r.toInt ≤ v.toInt * 50 := Int.mul_le_mul_of_nonneg_left r1.2 (by omega)
          have hm : (v * r).toInt = v.toInt * r.toInt := zi_mul (by omega) (by omega)
          rw [zi_add (by rw [hm]; omega) (by rw [hm]; omega), hm]
          omega
        · omega
      · show 0 ≤ (N.2 9 + v).toInt ∧ (N.2 9 + v).toInt ≤ 500
        rw [hadd]; omega
    · rw [hwk] at q
      exact absurd q q2
  · refine ⟨-1, N, F, S, T, C, rfl, rfl, 4, _, m_weeks N F S T C M v n hNM, by omega, ?_⟩
    rintro o w2 ⟨x, rfl, ⟨q2, _⟩ | ⟨_, rfl, rfl⟩⟩
    · rw [← hwk] at q2
      exact absurd q2 q
    · exact ⟨rfl, M, ⟨⟨s, c, n, hN⟩, hS, hT, hC⟩, rfl⟩
set_option maxRecDepth 100000 in
theorem st_pull (a : Int32) (hr : rel N F S T C M) : stp mX5_pull mX6_pull [.inl a] N F S T C M := by
  obtain ⟨⟨s, c, n, hN⟩, hS, hT, hC⟩ := hr
  obtain ⟨⟨e0, e1, e2, e3, e4, e5, e6, e7, e8⟩, a2, i1, k1, a5, a6, a7, a8, a9⟩ := id hN
  have hn := i1.2.1
  have hc : ∀ k, c_pull N.1 a n k ↔ c_pullM s c (M.1 9) a n k := fun k => by
    unfold c_pull c_pullM
    constructor
    · rintro ⟨h1, h2, h3⟩
      rw [a2 k h1] at h3
      exact ⟨h1, h2, h3⟩
    · rintro ⟨h1, h2, h3⟩
      rw [← a2 k h1] at h3
      exact ⟨h1, h2, h3⟩
  have hpl : ∀ k, plf N.1 k = plM M k := fun k => by
    unfold plf plM
    rw [e4, e5, e6]
  refine ⟨6, _, y_pull N F S T C (wM M) a n i1, by omega, ?_⟩
  rintro o w1 ⟨x, rfl, ⟨k, q, rfl, rfl⟩ | ⟨q, rfl, rfl⟩⟩
  · refine ⟨plf N.1 k, _, F, S, T, C, rfl, rfl, 10, _, m_pull _ F S T C M a s c n k1, by omega, ?_⟩
    rintro o w2 ⟨x, rfl, M', s1, s2, ⟨k', q2, rfl, rfl⟩ | ⟨q2, _⟩⟩
    · have ek : k = k' := by
        have h1 := q.2.1.symm.trans q2.2.1
        rw [nI_eqI (by have := q.1; omega) (by have := q2.1; omega)] at h1
        exact h1
      subst ek
      obtain ⟨hS', hT', hC'⟩ := rest_M s1 hS hT hC
      refine ⟨by rw [hpl], ss (sa M' 9 (upd (M.1 9) k 1)) 14 (M.2 14 + plM M k), ⟨⟨s, c, n, ?_⟩, hS', hT', hC'⟩, rfl⟩
      refine ⟨⟨e0.trans (s1.1 1 (by decide) (by decide)).symm, e1.trans (s1.1 2 (by decide) (by decide)).symm, e2.trans (s1.1 4 (by decide) (by decide)).symm, e3.trans (s1.1 5 (by decide) (by decide)).symm, e4.trans (s1.1 6 (by decide) (by decide)).symm, e5.trans (s1.1 7 (by decide) (by decide)).symm, e6.trans (s1.1 8 (by decide) (by decide)).symm, e7.trans (s1.2 0 (by decide)).symm, ?_⟩, fun j hj => ?_, i1, s2, a5, a6, a7, fun j hj hz f hf => ?_, a9⟩
      · show N.2 10 + plf N.1 k = M.2 14 + plM M k
        rw [e8, hpl]
      · show upd (N.1 7) k 1 j = stv s c (upd (M.1 9) k 1) j
        by_cases e : j = k
        · rw [e, upd_at, stv_at (by rw [upd_at]; decide), upd_at]
        · rw [stv_upd_ne e, upd_ne e]
          exact a2 j hj
      · have hz : upd (M.1 9) k 1 j = 0 := hz
        by_cases e : j = k
        · rw [e, upd_at] at hz
          exact absurd hz (by decide)
        · rw [upd_ne e] at hz
          exact a8 j hj hz f hf
    · exact absurd ⟨k, (hc k).mp q⟩ q2
  · refine ⟨-1, N, F, S, T, C, rfl, rfl, 10, _, m_pull N F S T C M a s c n k1, by omega, ?_⟩
    rintro o w2 ⟨x, rfl, M', s1, s2, ⟨k', q2, _⟩ | ⟨_, rfl, rfl⟩⟩
    · exact absurd ⟨k', (hc k').mpr q2⟩ q
    · exact ⟨rfl, M', rel_M s1 s2 hN hS hT hC, rfl⟩
set_option maxRecDepth 100000 in
theorem st_flood (a : Int32) (hr : rel N F S T C M) : stp mX5_flood mX6_flood [.inl a] N F S T C M := by
  obtain ⟨⟨s, c, n, hN⟩, hS, hT, hC⟩ := hr
  have hNM := iNM_of hN
  obtain ⟨⟨e0, e1, e2, e3, e4, e5, e6, e7, e8⟩, a2, i1, k1, a5, a6, a7, a8, a9⟩ := id hN
  have hP : ∀ k, k < n → ((N.1 7 k = 0 ∧ N.1 2 k = a) ↔ (M.1 9 k = 0 ∧ M.1 4 k = a)) := fun k hk => by
    rw [a2 k hk, stv_0, e2]
  refine ⟨5, _, y_flood N F S T C (wM M) a n i1, by omega, ?_⟩
  rintro o w1 ⟨x, rfl, ⟨q, rfl, rfl⟩ | ⟨q, rfl, rfl⟩⟩
  · refine ⟨_, _, F, S, T, C, rfl, rfl, 4, _, m_flood _ F S T C M a n hNM, by omega, ?_⟩
    rintro o w2 ⟨x, rfl, ⟨_, rfl, rfl⟩ | ⟨q2, _⟩⟩
    · refine ⟨by rw [cntf_congr hP], sa M 9 (stf (fun k => M.1 9 k = 0 ∧ M.1 4 k = a) (M.1 9) n), ⟨⟨s, c, n, ?_⟩, hS, hT, hC⟩, rfl⟩
      refine ⟨⟨e0, e1, e2, e3, e4, e5, e6, e7, e8⟩, fun k hk => ?_, i1, k1, a5, a6, a7, fun k hk hz f hf => ?_, a9⟩
      · show stf (fun k => N.1 7 k = 0 ∧ N.1 2 k = a) (N.1 7) n k = stv s c (stf (fun k => M.1 9 k = 0 ∧ M.1 4 k = a) (M.1 9) n) k
        by_cases z : M.1 9 k = 0 ∧ M.1 4 k = a
        · have z1 : stf (fun k => N.1 7 k = 0 ∧ N.1 2 k = a) (N.1 7) n k = 2 := by
            unfold stf; rw [if_pos ⟨hk, (hP k hk).mpr z⟩]
          have z2 : stf (fun k => M.1 9 k = 0 ∧ M.1 4 k = a) (M.1 9) n k = 2 := by
            unfold stf; rw [if_pos ⟨hk, z⟩]
          rw [z1]
          unfold stv
          rw [if_neg, z2]
          rintro ⟨-, f, hf⟩
          have h1 := sureN_bit hf
          rw [a8 k hk z.1 f hf.1] at h1
          cases h1
        · have z1 : stf (fun k => N.1 7 k = 0 ∧ N.1 2 k = a) (N.1 7) n k = N.1 7 k := by
            unfold stf; rw [if_neg (fun w => z ((hP k hk).mp w.2))]
          have z2 : stf (fun k => M.1 9 k = 0 ∧ M.1 4 k = a) (M.1 9) n k = M.1 9 k := by
            unfold stf; rw [if_neg (fun w => z w.2)]
          rw [z1, a2 k hk]
          unfold stv
          rw [z2]
      · have hz : stf (fun k => M.1 9 k = 0 ∧ M.1 4 k = a) (M.1 9) n k = 0 := hz
        refine a8 k hk ?_ f hf
        unfold stf at hz
        split at hz
        · exact absurd hz (by decide)
        · exact hz
    · exact absurd q q2
  · refine ⟨-1, N, F, S, T, C, rfl, rfl, 4, _, m_flood N F S T C M a n hNM, by omega, ?_⟩
    rintro o w2 ⟨x, rfl, ⟨q2, _⟩ | ⟨_, rfl, rfl⟩⟩
    · exact absurd q2 q
    · exact ⟨rfl, M, ⟨⟨s, c, n, hN⟩, hS, hT, hC⟩, rfl⟩
end
