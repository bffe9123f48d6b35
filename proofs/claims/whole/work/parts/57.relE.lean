/-! ===== orders, mats, scale, all on both sides; the new ones ===== -/
theorem upd_us {f : Nat → Int32} {g : Nat → Nat} {c : Nat} {a : Int32} (h : ∀ o, f o = nI (g o)) (ha : 0 ≤ a.toInt) (o : Nat) : upd f c a o = nI (us g c a.toInt.toNat o) := by
  unfold upd us
  by_cases e : o = c
  · rw [if_pos e, if_pos e]; exact zi_of ha
  · rw [if_neg e, if_neg e]; exact h o
theorem us_bd {g : Nat → Nat} {c : Nat} {a : Int32} {b : Nat} (h : ∀ o, g o ≤ b) (ha : a.toInt ≤ b) (o : Nat) : us g c a.toInt.toNat o ≤ b := by
  unfold us
  by_cases e : o = c
  · rw [if_pos e]; omega
  · rw [if_neg e]; exact h o
theorem zb1 {a : Int32} {n : Nat} (h : 1 ≤ a) (h2 : a ≤ nI n) (hn : n < 2147483648) : 1 ≤ a.toInt ∧ a.toInt ≤ n := by
  rw [zi_le, zi_lit1] at h
  rw [zi_le, zi_nI hn] at h2
  exact ⟨h, h2⟩
theorem iO_us {a0 a1 a2 a3 : Nat → Int32} {so ho du wo : Nat → Nat} {c : Nat} {a h d w : Int32} (hO : iO a0 a1 a2 a3 so ho du wo) (q : c_order a h d w c) : iO (upd a0 c a) (upd a1 c h) (upd a2 c d) (upd a3 c w) (us so c a.toInt.toNat) (us ho c h.toInt.toNat) (us du c d.toInt.toNat) (us wo c w.toInt.toNat) := by
  obtain ⟨q1, q2, q3, q4, -⟩ := q
  have z1 := zb (n := 3) q1.1 q1.2 (by omega)
  have z2 := zb1 (n := 100) q2.1 q2.2 (by omega)
  have z3 := zb (n := 1000) q3.1 q3.2 (by omega)
  have z4 := zb1 (n := 9) q4.1 q4.2 (by omega)
  intro o
  exact ⟨upd_us (fun o => (hO o).1) (by omega) o, upd_us (fun o => (hO o).2.1) (by omega) o, upd_us (fun o => (hO o).2.2.1) (by omega) o, upd_us (fun o => (hO o).2.2.2.1) (by omega) o, us_bd (fun o => (hO o).2.2.2.2.1) z1.2 o, us_bd (fun o => (hO o).2.2.2.2.2.1) z2.2 o, us_bd (fun o => (hO o).2.2.2.2.2.2.1) z3.2 o, us_bd (fun o => (hO o).2.2.2.2.2.2.2) z4.2 o⟩
section
variable (N F S T C M : hyB)
set_option maxRecDepth 100000 in
theorem st_order (a h d w : Int32) (hr : rel N F S T C M) : stp mX5_order mX6_order [.inl a, .inl h, .inl d, .inl w] N F S T C M := by
  obtain ⟨hN, ⟨so, ho, du, wo, ch, c, hS, hM⟩, hT, hC⟩ := hr
  refine ⟨5, _, y_order N F S T C c (wM M) a h d w hS.1.2.2.2.1 hS.1.2.2.2.2, by omega, ?_⟩
  rintro o w1 ⟨x, rfl, ⟨q, rfl, rfl⟩ | ⟨q, rfl, rfl⟩⟩
  · refine ⟨nI c, N, F, tkS S c a h d w (nI (c + 1)), T, C, rfl, rfl, 4, _, m_order N F _ T C M c a h d w hM.2.2.2.1 hM.2.2.2.2, by omega, ?_⟩
    rintro o w2 ⟨x, rfl, ⟨_, rfl, rfl⟩ | ⟨q2, _⟩⟩
    · have h7 := q.2.2.2.2
      refine ⟨rfl, tkM M c a h d w (nI (c + 1)), ⟨hN, ⟨us so c a.toInt.toNat, us ho c h.toInt.toNat, us du c d.toInt.toNat, us wo c w.toInt.toNat, ch, c + 1, ⟨⟨iO_us hS.1.1 q, hS.1.2.1, hS.1.2.2.1, rfl, by omega⟩, Or.inl rfl⟩, ⟨iO_us hM.1 q, hM.2.1, hM.2.2.1, rfl, by omega⟩⟩, hT, hC⟩, rfl⟩
    · exact absurd q q2
  · refine ⟨-1, N, F, S, T, C, rfl, rfl, 4, _, m_order N F S T C M c a h d w hM.2.2.2.1 hM.2.2.2.2, by omega, ?_⟩
    rintro o w2 ⟨x, rfl, ⟨q2, _⟩ | ⟨_, rfl, rfl⟩⟩
    · exact absurd q2 q
    · exact ⟨rfl, M, ⟨hN, ⟨so, ho, du, wo, ch, c, hS, hM⟩, hT, hC⟩, rfl⟩
theorem st_change (v : Int32) (hr : rel N F S T C M) : stp mX5_change mX6_change [.inl v] N F S T C M := by
  obtain ⟨hN, ⟨so, ho, du, wo, ch, c, hS, hM⟩, hT, hC⟩ := hr
  refine ⟨5, _, y_change N F S T C (wM M) v, by omega, ?_⟩
  rintro o w1 ⟨x, rfl, ⟨q, rfl, rfl⟩ | ⟨q, rfl, rfl⟩⟩
  · refine ⟨1, N, F, ss (ss S 7 v) 9 0, T, C, rfl, rfl, 4, _, m_change N F _ T C M v, by omega, ?_⟩
    rintro o w2 ⟨x, rfl, ⟨_, rfl, rfl⟩ | ⟨q2, _⟩⟩
    · have z := zb (n := 50) q.1 q.2 (by omega)
      refine ⟨rfl, ss M 20 v, ⟨hN, ⟨so, ho, du, wo, v.toInt.toNat, c, ⟨⟨hS.1.1, zi_of z.1, by omega, hS.1.2.2.2⟩, Or.inl rfl⟩, ⟨hM.1, zi_of z.1, by omega, hM.2.2.2⟩⟩, hT, hC⟩, rfl⟩
    · exact absurd q q2
  · refine ⟨0, N, F, S, T, C, rfl, rfl, 4, _, m_change N F S T C M v, by omega, ?_⟩
    rintro o w2 ⟨x, rfl, ⟨q2, _⟩ | ⟨_, rfl, rfl⟩⟩
    · exact absurd q2 q
    · exact ⟨rfl, M, ⟨hN, ⟨so, ho, du, wo, ch, c, hS, hM⟩, hT, hC⟩, rfl⟩
theorem st_late (hr : rel N F S T C M) : stp mX5_late mX6_late [] N F S T C M := by
  obtain ⟨hN, ⟨so, ho, du, wo, ch, c, hS, hM⟩, hT, hC⟩ := hr
  refine ⟨24, _, y_late N F S T C so ho du wo ch c (wM M) hS, by omega, ?_⟩
  rintro o w1 ⟨x, rfl, S', B, b, rfl, s1, hb, hS', rfl⟩
  refine ⟨nI B, N, F, S', T, C, rfl, rfl, 7, _, m_late N F S' T C M so ho du wo ch c hM, by omega, ?_⟩
  rintro o w2 ⟨x, rfl, M', B', b', rfl, s2, hb', rfl⟩
  have hc := hM.2.2.2.2
  obtain ⟨e, -⟩ := bestR_eq (by omega) hb hb'
  exact ⟨by rw [e], M', rel_P s2 hN ⟨so, ho, du, wo, ch, c, hS', hM⟩ hT hC, rfl⟩
theorem st_spun (a b : Int32) (hr : rel N F S T C M) : stp mX5_spun mX6_spun [.inl a, .inl b] N F S T C M := by
  obtain ⟨hN, ⟨so, ho, du, wo, ch, c, hS, hM⟩, hT, hC⟩ := hr
  refine ⟨24, _, y_spun N F S T C so ho du wo ch c (wM M) a b hS, by omega, ?_⟩
  rintro o w1 ⟨x, rfl, hx, S', s1, hS', rfl⟩
  refine ⟨x, N, F, S', T, C, rfl, rfl, 7, _, m_spun N F S' T C M so ho du wo ch c a b hM, by omega, ?_⟩
  rintro o w2 ⟨x2, rfl, hx2, M', s2, rfl⟩
  exact ⟨by rw [sp_spun_eq hM.2.2.2.2 hx hx2], M', rel_P s2 hN ⟨so, ho, du, wo, ch, c, hS', hM⟩ hT hC, rfl⟩
theorem st_clear (hr : rel N F S T C M) : stp mX5_clear mX6_clear [] N F S T C M := by
  obtain ⟨hN, ⟨so, ho, du, wo, ch, c, hS, hM⟩, hT, hC⟩ := hr
  refine ⟨4, _, y_clear N F S T C (wM M), by omega, ?_⟩
  rintro o w1 ⟨x, rfl, rfl, rfl⟩
  refine ⟨S.2 6, N, F, ss (ss S 6 0) 9 0, T, C, rfl, rfl, 3, _, m_clear N F _ T C M, by omega, ?_⟩
  rintro o w2 ⟨x2, rfl, rfl, rfl⟩
  refine ⟨by rw [hS.1.2.2.2.1, hM.2.2.2.1], ss M 15 0, ⟨hN, ⟨so, ho, du, wo, ch, 0, ⟨⟨hS.1.1, hS.1.2.1, hS.1.2.2.1, rfl, by omega⟩, Or.inl rfl⟩, ⟨hM.1, hM.2.1, hM.2.2.1, rfl, by omega⟩⟩, hT, hC⟩, rfl⟩
theorem iTd_roll {a0 a1 a2 a3 : Nat → Int32} {l m L lo : Nat → Nat} {R c : Nat} {a b : Int32} (h : iTd a0 a1 a2 a3 l m L lo R c) (q : c_roll a b R) : iTd (upd a0 R a) (upd a1 R b) a2 a3 l m (us L R a.toInt.toNat) (us lo R b.toInt.toNat) (R + 1) c := by
  obtain ⟨t0, t1, t2, t3, t4, t5⟩ := h
  obtain ⟨q1, q2, q3⟩ := q
  have z1 := zb1 (n := 1000) q1.1 q1.2 (by omega)
  have z2 := zb (n := 2) q2.1 q2.2 (by omega)
  refine ⟨fun r => ⟨upd_us (fun o => (t0 o).1) (by omega) r, upd_us (fun o => (t0 o).2.1) (by omega) r, us_bd (fun o => (t0 o).2.2.1) z1.2 r, us_bd (fun o => (t0 o).2.2.2) z2.2 r⟩, t1, by omega, t3, t4, fun r hr => ?_⟩
  unfold us
  by_cases e : r = R
  · rw [if_pos e]; omega
  · rw [if_neg e]; exact t5 r (by omega)
theorem iTd_cut {a0 a1 a2 a3 : Nat → Int32} {l m L lo : Nat → Nat} {R c : Nat} {a b : Int32} (h : iTd a0 a1 a2 a3 l m L lo R c) (q : c_cut a b c) : iTd a0 a1 (upd a2 c a) (upd a3 c b) (us l c a.toInt.toNat) (us m c b.toInt.toNat) L lo R (c + 1) := by
  obtain ⟨t0, t1, t2, t3, t4, t5⟩ := h
  obtain ⟨q1, q2, q3⟩ := q
  have z1 := zb1 (n := 500) q1.1 q1.2 (by omega)
  have z2 := zb (n := 3) q2.1 q2.2 (by omega)
  refine ⟨t0, fun r => ⟨upd_us (fun o => (t1 o).1) (by omega) r, upd_us (fun o => (t1 o).2.1) (by omega) r, us_bd (fun o => (t1 o).2.2.1) z1.2 r, us_bd (fun o => (t1 o).2.2.2) z2.2 r⟩, t2, by omega, fun r hr => ?_, t5⟩
  unfold us
  by_cases e : r = c
  · rw [if_pos e]; omega
  · rw [if_neg e]; exact t4 r (by omega)
set_option maxRecDepth 100000 in
theorem st_roll (a b : Int32) (hr : rel N F S T C M) : stp mX5_roll mX6_roll [.inl a, .inl b] N F S T C M := by
  obtain ⟨hN, hS, ⟨l, m, L, lo, R, c, hT, hM⟩, hC⟩ := hr
  have hR := hT.1.1.2.2.1
  refine ⟨5, _, y_roll N F S T C (wM M) a b R hT.1.2.1 hR, by omega, ?_⟩
  rintro o w1 ⟨x, rfl, ⟨q, rfl, rfl⟩ | ⟨q, rfl, rfl⟩⟩
  · refine ⟨nI R, N, F, S, tkR T R a b (nI (R + 1)), C, rfl, rfl, 4, _, m_roll N F S _ C M a b R hM.2.1 hR, by omega, ?_⟩
    rintro o w2 ⟨x, rfl, ⟨_, rfl, rfl⟩ | ⟨q2, _⟩⟩
    · exact ⟨rfl, tkRM M R a b (nI (R + 1)), ⟨hN, hS, ⟨l, m, us L R a.toInt.toNat, us lo R b.toInt.toNat, R + 1, c, ⟨⟨iTd_roll hT.1.1 q, rfl, hT.1.2.2⟩, Or.inl rfl⟩, ⟨iTd_roll hM.1 q, rfl, hM.2.2⟩⟩, hC⟩, rfl⟩
    · exact absurd q q2
  · refine ⟨-1, N, F, S, T, C, rfl, rfl, 4, _, m_roll N F S T C M a b R hM.2.1 hR, by omega, ?_⟩
    rintro o w2 ⟨x, rfl, ⟨q2, _⟩ | ⟨_, rfl, rfl⟩⟩
    · exact absurd q2 q
    · exact ⟨rfl, M, ⟨hN, hS, ⟨l, m, L, lo, R, c, hT, hM⟩, hC⟩, rfl⟩
set_option maxRecDepth 100000 in
theorem st_cut (a b : Int32) (hr : rel N F S T C M) : stp mX5_cut mX6_cut [.inl a, .inl b] N F S T C M := by
  obtain ⟨hN, hS, ⟨l, m, L, lo, R, c, hT, hM⟩, hC⟩ := hr
  have hc := hT.1.1.2.2.2.1
  refine ⟨5, _, y_cut N F S T C (wM M) a b c hT.1.2.2 hc, by omega, ?_⟩
  rintro o w1 ⟨x, rfl, ⟨q, rfl, rfl⟩ | ⟨q, rfl, rfl⟩⟩
  · refine ⟨nI c, N, F, S, tkK T c a b (nI (c + 1)), C, rfl, rfl, 4, _, m_cut N F S _ C M a b c hM.2.2 hc, by omega, ?_⟩
    rintro o w2 ⟨x, rfl, ⟨_, rfl, rfl⟩ | ⟨q2, _⟩⟩
    · exact ⟨rfl, tkKM M c a b (nI (c + 1)), ⟨hN, hS, ⟨us l c a.toInt.toNat, us m c b.toInt.toNat, L, lo, R, c + 1, ⟨⟨iTd_cut hT.1.1 q, hT.1.2.1, rfl⟩, Or.inl rfl⟩, ⟨iTd_cut hM.1 q, hM.2.1, rfl⟩⟩, hC⟩, rfl⟩
    · exact absurd q q2
  · refine ⟨-1, N, F, S, T, C, rfl, rfl, 4, _, m_cut N F S T C M a b c hM.2.2 hc, by omega, ?_⟩
    rintro o w2 ⟨x, rfl, ⟨q2, _⟩ | ⟨_, rfl, rfl⟩⟩
    · exact absurd q2 q
    · exact ⟨rfl, M, ⟨hN, hS, ⟨l, m, L, lo, R, c, hT, hM⟩, hC⟩, rfl⟩
theorem st_opened (hr : rel N F S T C M) : stp mX5_opened mX6_opened [] N F S T C M := by
  obtain ⟨hN, hS, ⟨l, m, L, lo, R, c, hT, hM⟩, hC⟩ := hr
  refine ⟨10, _, y_opened N F S T C (wM M) l m L lo R c hT, by omega, ?_⟩
  rintro o w1 ⟨x, rfl, T', hT', hx, rfl⟩
  refine ⟨x, N, F, S, T', C, rfl, rfl, 8, _, m_opened N F S T' C M l m L lo R c hM, by omega, ?_⟩
  rintro o w2 ⟨x2, rfl, M', s2, hx2, rfl⟩
  exact ⟨by rw [sp_op_eq hT.1.1.2.2.1 hx hx2], M', rel_T s2 hN hS ⟨l, m, L, lo, R, c, hT', hM⟩ hC, rfl⟩
theorem st_from (a : Int32) (hr : rel N F S T C M) : stp mX5_from mX6_from [.inl a] N F S T C M := by
  obtain ⟨hN, hS, ⟨l, m, L, lo, R, c, hT, hM⟩, hC⟩ := hr
  refine ⟨10, _, y_from N F S T C (wM M) a l m L lo R c hT, by omega, ?_⟩
  rintro o w1 ⟨x, rfl, T', hT', hx, rfl⟩
  refine ⟨x, N, F, S, T', C, rfl, rfl, 8, _, m_from N F S T' C M l m L lo R c a hM, by omega, ?_⟩
  rintro o w2 ⟨x2, rfl, M', s2, hx2, rfl⟩
  exact ⟨by rw [sp_from_eq hT.1.1.2.2.1 hT.1.1.2.2.2.1 hx hx2], M', rel_T s2 hN hS ⟨l, m, L, lo, R, c, hT', hM⟩ hC, rfl⟩
theorem iTd_0 {a0 a1 a2 a3 : Nat → Int32} {l m L lo : Nat → Nat} {R c : Nat} (h : iTd a0 a1 a2 a3 l m L lo R c) : iTd a0 a1 a2 a3 l m L lo 0 0 :=
  ⟨h.1, h.2.1, by omega, by omega, fun i hi => by omega, fun r hr => by omega⟩
set_option maxRecDepth 100000 in
theorem st_away (hr : rel N F S T C M) : stp mX5_away mX6_away [] N F S T C M := by
  obtain ⟨hN, hS, ⟨l, m, L, lo, R, c, hT, hM⟩, hC⟩ := hr
  refine ⟨4, _, y_away N F S T C (wM M), by omega, ?_⟩
  rintro o w1 ⟨x, rfl, rfl, rfl⟩
  refine ⟨T.2 9, N, F, S, ss (ss (ss T 8 0) 9 0) 11 0, C, rfl, rfl, 3, _, m_away N F S _ C M, by omega, ?_⟩
  rintro o w2 ⟨x2, rfl, rfl, rfl⟩
  exact ⟨by rw [hT.1.2.2, hM.2.2], ss (ss M 24 0) 21 0, ⟨hN, hS, ⟨l, m, L, lo, 0, 0, ⟨⟨iTd_0 hT.1.1, rfl, rfl⟩, Or.inl rfl⟩, ⟨iTd_0 hM.1, rfl, rfl⟩⟩, hC⟩, rfl⟩
theorem iCM_of {C M : hyB} (h : relC C M) : iCM M := by
  obtain ⟨h1, h2, h3, h4⟩ := h
  unfold iC at h4
  rw [h1, h2, h3] at h4
  exact h4
set_option maxRecDepth 100000 in
theorem st_reading (x y : Int32) (hr : rel N F S T C M) : stp mX5_reading mX6_reading [.inl x, .inl y] N F S T C M := by
  obtain ⟨hN, hS, hT, hC⟩ := hr
  obtain ⟨c0, c1, c2, c3⟩ := id hC
  refine ⟨5, _, y_reading N F S T C (wM M) x y c3, by omega, ?_⟩
  rintro o w1 ⟨r, rfl, lo', hi', cn', hx, rfl⟩
  refine ⟨r, N, F, S, T, ss (ss (ss C 0 lo') 1 hi') 2 cn', rfl, rfl, 4, _, m_reading N F S T _ M x y (iCM_of hC), by omega, ?_⟩
  rintro o w2 ⟨r2, rfl, lo2, hi2, cn2, hx2, rfl⟩
  rw [← c0, ← c1, ← c2] at hx2
  obtain ⟨q1, q2, q3, q4⟩ := sp_reading_eq hx hx2
  subst q1 q2 q3 q4
  refine ⟨rfl, ss (ss (ss M 28 lo') 29 hi') 27 cn', ⟨hN, hS, hT, rfl, rfl, rfl, ?_⟩, rfl⟩
  show -200 ≤ lo'.toInt ∧ lo'.toInt ≤ hi'.toInt ∧ hi'.toInt ≤ 200 ∧ 0 ≤ cn'.toInt ∧ cn'.toInt ≤ 20
  obtain ⟨d1, d2, d3, d4, d5⟩ := c3
  rcases hx with ⟨⟨-, -, p⟩, -, -, rfl, p1, p2, p3, -⟩ | ⟨-, -, rfl, rfl, rfl⟩
  · rw [zi_add (by rw [zi_lit1]; omega) (by rw [zi_lit1]; omega), zi_lit1]
    omega
  · exact ⟨d1, d2, d3, d4, d5⟩
theorem st_errs (h : Int32) (hr : rel N F S T C M) : stp mX5_errs mX6_errs [.inl h] N F S T C M := by
  obtain ⟨c0, c1, c2, c3⟩ := id hr.2.2.2
  refine ⟨4, _, y_errs N F S T C (wM M) h, by omega, ?_⟩
  rintro o w1 ⟨x, rfl, rfl, rfl⟩
  refine ⟨_, N, F, S, T, C, rfl, rfl, 3, _, m_errs N F S T C M h, by omega, ?_⟩
  rintro o w2 ⟨x2, rfl, rfl, rfl⟩
  exact ⟨by rw [c0, c1], M, hr, rfl⟩
theorem st_back (y h : Int32) (hr : rel N F S T C M) : stp mX5_back mX6_back [.inl y, .inl h] N F S T C M := by
  obtain ⟨c0, c1, c2, c3⟩ := id hr.2.2.2
  refine ⟨6, _, y_back N F S T C (wM M) y h c3, by omega, ?_⟩
  rintro o w1 ⟨x, rfl, hx, rfl⟩
  refine ⟨x, N, F, S, T, C, rfl, rfl, 4, _, m_back N F S T C M y h (iCM_of hr.2.2.2), by omega, ?_⟩
  rintro o w2 ⟨x2, rfl, hx2, rfl⟩
  rw [← c0, ← c1] at hx2
  exact ⟨by rw [sp_back_eq hx hx2], M, hr, rfl⟩
theorem st_about (b : Int32) (hr : rel N F S T C M) : stp mX5_about mX6_about [.inl b] N F S T C M := by
  obtain ⟨⟨s, c, n, hN⟩, hS, hT, hC⟩ := hr
  obtain ⟨⟨e0, e1, e2, e3, e4, e5, e6, e7, e8⟩, a2, i1, k1, a5, -⟩ := id hN
  refine ⟨5, _, y_about N F S T C (wM M) b n i1, by omega, ?_⟩
  rintro o w1 ⟨x, rfl, hx, rfl⟩
  refine ⟨x, N, F, S, T, C, rfl, rfl, 10, _, m_about N F S T C M b s c n k1, by omega, ?_⟩
  rintro o w2 ⟨x2, rfl, hx2, M', s1, s2, rfl⟩
  refine ⟨?_, M', rel_M s1 s2 hN hS hT hC, rfl⟩
  congr 1
  obtain ⟨so, ho, du, wo, ch, cS, gS, gM⟩ := hS
  obtain ⟨l, m, L, lo, R, cT, gT, gM2⟩ := hT
  have f1 : N.2 8 = M.2 3 := by rw [i1.1, k1.1.2.2.2.2.1]
  have f2 : F.2 2 = M.2 10 := by rw [a5.1, k1.1.1]
  have f3 : S.2 6 = M.2 15 := by rw [gS.1.2.2.2.1, gM.2.2.2.1]
  have f4 : T.2 8 = M.2 21 := by rw [gT.1.2.1, gM2.2.1]
  have f5 : T.2 9 = M.2 24 := by rw [gT.1.2.2, gM2.2.2]
  have f6 : C.2 2 = M.2 27 := hC.2.2.1
  have f8 : cntf (fun k => N.1 7 k = 2) n = cntf (fun k => stv s c (M.1 9) k = 2) n := cntf_congr (fun k hk => by rw [a2 k hk])
  have f9 : cntf (fun k => N.1 7 k = 3) n = cntf (fun k => stv s c (M.1 9) k = 3) n := cntf_congr (fun k hk => by rw [a2 k hk])
  have key : abM s c n M b.toInt x := by
    unfold abY at hx
    rw [e7, f1, f2, f3, f4, f5, f6, e8, f8, f9] at hx
    exact hx
  unfold abM at key hx2
  by_cases g : 0 ≤ b.toInt ∧ b.toInt ≤ 9
  · have : b.toInt = 0 ∨ b.toInt = 1 ∨ b.toInt = 2 ∨ b.toInt = 3 ∨ b.toInt = 4 ∨ b.toInt = 5 ∨ b.toInt = 6 ∨ b.toInt = 7 ∨ b.toInt = 8 ∨ b.toInt = 9 := by omega
    rcases this with h | h | h | h | h | h | h | h | h | h
    · simp [h] at key hx2; rw [key, hx2]
    · simp [h] at key hx2; rw [key, hx2]
    · simp [h] at key hx2; rw [key, hx2]
    · simp [h] at key hx2; rw [key, hx2]
    · simp [h] at key hx2; rw [key, hx2]
    · simp [h] at key hx2; rw [key, hx2]
    · simp [h] at key hx2; rw [key, hx2]
    · simp [h] at key hx2; rw [key, hx2]
    · simp [h] at key hx2; rw [key, hx2]
    · simp [h] at key hx2; rw [key, hx2]
  · have pick : ∀ y, abM s c n M b.toInt y → y = -1 := fun y hy => by
      unfold abM at hy
      rcases hy with ⟨h, -⟩ | ⟨h, -⟩ | ⟨h, -⟩ | ⟨h, -⟩ | ⟨h, -⟩ | ⟨h, -⟩ | ⟨h, -⟩ | ⟨h, -⟩ | ⟨h, -⟩ | ⟨h, -⟩ | ⟨-, h⟩
      · omega
      · omega
      · omega
      · omega
      · omega
      · omega
      · omega
      · omega
      · omega
      · omega
      · exact h
    rw [pick x key, pick x2 hx2]
end
theorem rt0_bd (i : Nat) : 0 ≤ (rt0 10 i).toInt ∧ (rt0 10 i).toInt ≤ 50 := by
  unfold rt0
  split
  · rw [zi_add (by rw [zi_lit1, zi_nI (by omega)]; omega) (by rw [zi_lit1, zi_nI (by omega)]; omega), zi_lit1, zi_nI (by omega)]
    omega
  · rw [zi_lit0]; omega
theorem rel_0 : rel yN0 zB yS0 zB yC0 (yM0 10) := by
  have z0 : (0 : Int) ≤ (0 : Int32).toInt := by decide
  have z9 : (0 : Int32).toInt ≤ 9 := by decide
  have z7 : (0 : Int32).toInt ≤ 7 := by decide
  have z2 : (0 : Int32).toInt ≤ 2000 := by decide
  have z5 : (0 : Int32).toInt ≤ 50 * (0 : Int32).toInt := by decide
  have zp : (0 : Nat) < 2 ^ 24 := by decide
  refine ⟨⟨fun _ => 0, 0, 0, ⟨rfl, rfl, rfl, rfl, rfl, rfl, rfl, rfl, rfl⟩, fun k hk => by omega, ⟨rfl, by omega, fun i => ⟨z0, z9⟩, fun i => ⟨z0, z7⟩⟩, ⟨⟨rfl, by omega, fun f => rfl, fun f => zp, rfl, by omega, fun f hf => by omega⟩, Or.inl rfl⟩, ⟨rfl, by omega, fun f => rfl, fun f => zp⟩, fun f hf => by omega, ⟨fun _ => 0, fun f hf => by omega, fun f g hf => by omega⟩, fun k hk => by omega, fun i => rt0_bd i, fun i => ⟨z0, z2⟩, fun i => ⟨z0, z5⟩, by decide, by decide⟩, ?_, ?_, rfl, rfl, rfl, by decide, by decide, by decide, by decide, by decide⟩
  · exact ⟨fun _ => 0, fun _ => 0, fun _ => 0, fun _ => 0, 2, 0, ⟨⟨fun o => ⟨rfl, rfl, rfl, rfl, Nat.zero_le _, Nat.zero_le _, Nat.zero_le _, Nat.zero_le _⟩, rfl, by omega, rfl, by omega⟩, Or.inl rfl⟩, ⟨fun o => ⟨rfl, rfl, rfl, rfl, Nat.zero_le _, Nat.zero_le _, Nat.zero_le _, Nat.zero_le _⟩, rfl, by omega, rfl, by omega⟩⟩
  · exact ⟨fun _ => 0, fun _ => 0, fun _ => 0, fun _ => 0, 0, 0, ⟨⟨⟨fun r => ⟨rfl, rfl, Nat.zero_le _, Nat.zero_le _⟩, fun r => ⟨rfl, rfl, Nat.zero_le _, Nat.zero_le _⟩, by omega, by omega, fun i hi => by omega, fun r hr => by omega⟩, rfl, rfl⟩, Or.inl rfl⟩, ⟨⟨fun r => ⟨rfl, rfl, Nat.zero_le _, Nat.zero_le _⟩, fun r => ⟨rfl, rfl, Nat.zero_le _, Nat.zero_le _⟩, by omega, by omega, fun i hi => by omega, fun r hr => by omega⟩, rfl, rfl⟩⟩
