/-! ===== finds on both sides ===== -/
theorem bitf_congr {P P' : Nat → Prop} [DecidablePred P] [DecidablePred P'] : ∀ {n : Nat}, (∀ k, k < n → (P k ↔ P' k)) → bitf P n = bitf P' n
  | 0, _ => rfl
  | n + 1, h => by
    have ih := bitf_congr (n := n) (fun k hk => h k (by omega))
    rw [bitf, bitf, ih]
    congr 1
    by_cases q : P n
    · rw [if_pos q, if_pos ((h n (by omega)).mp q)]
    · rw [if_neg q, if_neg (fun w => q ((h n (by omega)).mpr w))]
theorem us_old {s : Nat → Nat} {c x f : Nat} (h : f < c) : us s c x f = s f := by
  unfold us; rw [if_neg (by omega)]
theorem us_new {s : Nat → Nat} {c x : Nat} : us s c x c = x := by
  unfold us; rw [if_pos rfl]
theorem way_us {s : Nat → Nat} {c x : Nat} {φ : Nat → Nat} : way (us s c x) c φ ↔ way s c φ := by
  constructor
  · rintro ⟨h1, h2⟩
    exact ⟨fun f hf => by have := h1 f hf; rwa [us_old hf] at this, h2⟩
  · rintro ⟨h1, h2⟩
    exact ⟨fun f hf => by rw [us_old hf]; exact h1 f hf, h2⟩
theorem sureP_us {s : Nat → Nat} {c x f : Nat} {v : Int32} (h : sureP s c f v) : sureP (us s c x) c f v := by
  unfold sureP at h ⊢
  simp only [way_us]
  exact h
theorem sureN_us {s : Nat → Nat} {c x f k : Nat} : sureN (us s c x) c f k ↔ sureN s c f k := by
  unfold sureN
  simp only [way_us]
theorem stv_us {s : Nat → Nat} {c x k : Nat} {st : Nat → Int32} : stv (us s c x) c st k = stv s c st k := by
  unfold stv
  by_cases q : st k = 2 ∧ ∃ f, sureN s c f k
  · obtain ⟨q1, f, q2⟩ := q
    rw [if_pos ⟨q1, f, sureN_us.mpr q2⟩, if_pos ⟨q1, f, q2⟩]
  · rw [if_neg q, if_neg (fun ⟨q1, f, q2⟩ => q ⟨q1, f, sureN_us.mp q2⟩)]
theorem stv_find {s : Nat → Nat} {c n x k : Nat} {st ns g : Nat → Int32} (hn : n ≤ 24) (hk : k < n) (hst : ns k = stv s c st k) (hw : ∃ φ, way (us s c x) (c + 1) φ) (hg : ∀ f, f < c + 1 → sureP (us s c x) (c + 1) f (g f)) : bbf g ns n (c + 1) k = stv (us s c x) (c + 1) st k := by
  have hgk : (∃ f, f < c + 1 ∧ g f = nI k) ↔ ∃ f, sureN (us s c x) (c + 1) f k := by
    constructor
    · rintro ⟨f, h1, h2⟩
      exact ⟨f, (sureP_iff (hg f h1) h1 (by omega)).mp h2⟩
    · rintro ⟨f, h⟩
      exact ⟨f, h.1, (sureP_iff (hg f h.1) h.1 (by omega)).mpr h⟩
  by_cases q : st k = 2 ∧ ∃ f, sureN s c f k
  · have e : ns k = 3 := by rw [hst]; unfold stv; rw [if_pos q]
    have e1 : bbf g ns n (c + 1) k = 3 := by
      unfold bbf
      split
      · rfl
      · exact e
    rw [e1]
    obtain ⟨q1, f, q2⟩ := q
    unfold stv
    rw [if_pos ⟨q1, f, by have := q2.1; omega, sure_stays q2.2 (fun f hf => us_old hf) hw⟩]
  · have e : ns k = st k := by rw [hst]; unfold stv; rw [if_neg q]
    unfold bbf stv
    rw [e]
    by_cases z : st k = 2 ∧ ∃ f, sureN (us s c x) (c + 1) f k
    · rw [if_pos z, if_pos ⟨hk, z.1, hgk.mpr z.2⟩]
    · rw [if_neg z, if_neg (fun w => z ⟨w.2.1, hgk.mp w.2.2⟩)]
section
variable (N F S T C M : hyB)
set_option maxRecDepth 100000 in
theorem st_find (y no : Int32) (hr : rel N F S T C M) : stp mX5_find mX6_find [.inl y, .inl no] N F S T C M := by
  obtain ⟨⟨s, c, n, hN⟩, hS, hT, hC⟩ := hr
  obtain ⟨⟨e0, e1, e2, e3, e4, e5, e6, e7, e8⟩, a2, i1, k1, a5, a6, a7, a8, a9⟩ := id hN
  have hn := i1.2.1
  have hx : bitf (fit (N.1 7) (N.1 3) y no) n = bitf (fit (stv s c (M.1 9)) (M.1 5) y no) n := bitf_congr (fun k hk => by
    unfold fit
    rw [a2 k hk, e3])
  have hxl : bitf (fit (stv s c (M.1 9)) (M.1 5) y no) n < 2 ^ n := bitf_lt _ _
  have hx2 : bitf (fit (stv s c (M.1 9)) (M.1 5) y no) n < 2 ^ 24 := Nat.lt_of_lt_of_le hxl (Nat.pow_le_pow_right (by omega) hn)
  have hbit : ∀ k, (bitf (fit (stv s c (M.1 9)) (M.1 5) y no) n).testBit k = true → M.1 9 k = 2 := fun k hb => by
    rw [bitf_test, decide_eq_true_eq] at hb
    exact stv_2 hb.2.1
  refine ⟨7, _, y_find N F S T C (wM M) y no s c n i1 a5, by omega, ?_⟩
  rintro o w1 ⟨r, rfl, N', F', hY, rfl⟩
  rw [hx] at hY
  refine ⟨r, N', F', S, T, C, rfl, rfl, 10, _, m_find N' F' S T C M y no s c n k1, by omega, ?_⟩
  rintro o w2 ⟨r2, rfl, M', hM, rfl⟩
  generalize bitf (fit (stv s c (M.1 9)) (M.1 5) y no) n = x at hY hM hxl hx2 hbit
  rcases hM with ⟨m1, m2, m3, rfl, M1, s1, rfl⟩ | ⟨m1, m2, m3, rfl, M1, s1, s2, rfl⟩ | ⟨m1, rfl, rfl⟩
  · rcases hY with ⟨-, ⟨t1, t2, rfl, g, t4, rfl⟩ | ⟨t1, t2, -⟩ | ⟨t1, -⟩, hN'⟩ | ⟨q, -⟩
    · rcases hN' with ⟨z, -⟩ | ⟨-, rfl⟩
      · have z := zi_eq.mp z
        rw [zi_nI (by omega), zi_m1] at z; omega
      · obtain ⟨hS', hT', hC'⟩ := rest_M s1 hS hT hC
        refine ⟨rfl, ss (ss (sa M1 11 (upd (M.1 11) c (nI x))) 10 (nI (c + 1))) 12 0, ⟨⟨us s c x, c + 1, n, ?_⟩, hS', hT', hC'⟩, rfl⟩
        refine ⟨⟨e0.trans (s1.1 1 (by decide) (by decide)).symm, e1.trans (s1.1 2 (by decide) (by decide)).symm, e2.trans (s1.1 4 (by decide) (by decide)).symm, e3.trans (s1.1 5 (by decide) (by decide)).symm, e4.trans (s1.1 6 (by decide) (by decide)).symm, e5.trans (s1.1 7 (by decide) (by decide)).symm, e6.trans (s1.1 8 (by decide) (by decide)).symm, e7.trans (s1.2 0 (by decide)).symm, e8.trans (s1.2 14 (by decide)).symm⟩, fun k hk => ?_, i1, ⟨iFM_us (M1 := M1) (v := 0) k1.1 s1 m2 hxl, Or.inl rfl⟩, ?_, t4, t2, fun k hk hz f hf => ?_, a9⟩
        · show bbf g (N.1 7) n (c + 1) k = stv (us s c x) (c + 1) (M1.1 9) k
          rw [s1.1 9 (by decide) (by decide)]
          exact stv_find hn hk (a2 k hk) t2 t4
        · obtain ⟨d1, d2, d3, d4⟩ := iF_upd a5 hx2
          exact ⟨rfl, by omega, d3, d4⟩
        · have hz : M1.1 9 k = 0 := hz
          rw [s1.1 9 (by decide) (by decide)] at hz
          by_cases e : f = c
          · rw [e, us_new]
            cases hb : x.testBit k with
            | false => rfl
            | true =>
              have := hbit k hb
              rw [hz] at this
              exact absurd this (by decide)
          · rw [us_old (by omega)]
            exact a8 k hk hz f (by omega)
    · exact absurd m3 t2
    · exact absurd m2 t1
    · exact absurd m1 q
  · rcases hY with ⟨-, ⟨t1, t2, -⟩ | ⟨t1, t2, rfl, rfl⟩ | ⟨t1, -⟩, hN'⟩ | ⟨q, -⟩
    · exact absurd t2 m3
    · rcases hN' with ⟨-, rfl⟩ | ⟨z, -⟩
      · obtain ⟨hS', hT', hC'⟩ := rest_M s1 hS hT hC
        refine ⟨rfl, ss (sa M1 11 (upd (M.1 11) c (nI x))) 10 (nI c), ⟨⟨us s c x, c, n, ?_⟩, hS', hT', hC'⟩, rfl⟩
        refine ⟨⟨e0.trans (s1.1 1 (by decide) (by decide)).symm, e1.trans (s1.1 2 (by decide) (by decide)).symm, e2.trans (s1.1 4 (by decide) (by decide)).symm, e3.trans (s1.1 5 (by decide) (by decide)).symm, e4.trans (s1.1 6 (by decide) (by decide)).symm, e5.trans (s1.1 7 (by decide) (by decide)).symm, e6.trans (s1.1 8 (by decide) (by decide)).symm, e7.trans (s1.2 0 (by decide)).symm, e8.trans (s1.2 14 (by decide)).symm⟩, fun k hk => ?_, i1, ⟨?_, ?_⟩, iF_upd a5 hx2, fun f hf => sureP_us (a6 f hf), ?_, fun k hk hz f hf => ?_, a9⟩
        · show N'.1 7 k = stv (us s c x) c (M1.1 9) k
          rw [s1.1 9 (by decide) (by decide), stv_us]
          exact a2 k hk
        · obtain ⟨d1, d2, d3, d4, d5, d6, d7⟩ := iFM_us (v := 0) k1.1 s1 m2 hxl
          exact ⟨rfl, by omega, d3, d4, d5, d6, fun f hf => d7 f (by omega)⟩
        · rcases s2.2 with h | ⟨h, h2⟩
          · exact Or.inl h
          · exact Or.inr ⟨h, fun f hf => sureP_us (h2 f hf)⟩
        · obtain ⟨φ, hφ⟩ := a7
          exact ⟨φ, way_us.mpr hφ⟩
        · have hz : M1.1 9 k = 0 := hz
          rw [s1.1 9 (by decide) (by decide)] at hz
          rw [us_old hf]
          exact a8 k hk hz f hf
      · exact absurd rfl z
    · exact absurd m2 t1
    · exact absurd m1 q
  · rcases hY with ⟨q, ⟨t1, t2, -⟩ | ⟨t1, t2, -⟩ | ⟨t1, rfl, rfl⟩, hN'⟩ | ⟨q, rfl, rfl, rfl⟩
    · exact absurd ⟨q, t1⟩ m1
    · exact absurd ⟨q, t1⟩ m1
    · rcases hN' with ⟨-, rfl⟩ | ⟨z, -⟩
      · exact ⟨rfl, M', ⟨⟨s, c, n, hN⟩, hS, hT, hC⟩, rfl⟩
      · exact absurd rfl z
    · exact ⟨rfl, M', ⟨⟨s, c, n, hN⟩, hS, hT, hC⟩, rfl⟩
theorem st_found (a b : Int32) (hr : rel N F S T C M) : stp mX5_found mX6_found [.inl a, .inl b] N F S T C M := by
  obtain ⟨⟨s, c, n, hN⟩, hS, hT, hC⟩ := hr
  obtain ⟨-, a2, i1, k1, a5, a6, a7, a8, a9⟩ := id hN
  have hc := a5.2.1
  have hn := i1.2.1
  refine ⟨6, _, y_found N F S T C (wM M) a b s c a5, by omega, ?_⟩
  rintro o w1 ⟨x, rfl, hx, rfl⟩
  refine ⟨x, N, F, S, T, C, rfl, rfl, 10, _, m_found N F S T C M a b s c n k1, by omega, ?_⟩
  rintro o w2 ⟨x2, rfl, hx2, M', s1, s2, rfl⟩
  refine ⟨?_, M', rel_M s1 s2 hN hS hT hC, rfl⟩
  congr 1
  have l0 : b = 0 ↔ b.toInt = 0 := zi_eq
  have l1 : b = 1 ↔ b.toInt = 1 := zi_eq
  rcases hx2 with ⟨f, f1, f2, h⟩ | ⟨f1, h⟩
  · have one : ∀ f', f' < c → a = nI f' → f' = f := fun f' g1 g2 => by
      have := f2.symm.trans g2
      rw [nI_eqI (by omega) (by omega)] at this
      exact this.symm
    rcases hx with ⟨b0, ⟨f', g1, g2, g3⟩ | ⟨g1, -⟩⟩ | ⟨b1, ⟨f', g1, g2, g3⟩ | ⟨g1, -⟩⟩ | ⟨b0, b1, g⟩
    · have := one f' g1 g2
      subst this
      rcases h with ⟨-, h⟩ | ⟨h, -⟩ | ⟨h, -⟩
      · rw [h, g3]
        unfold pcn
        rw [cb_to (c := n) (m := 24) (fun k hk => ?_) hn]
        cases hb : (s f').testBit k with
        | false => rfl
        | true =>
          have := tb_lt (k1.1.2.2.2.2.2.2 f' g1) hb
          omega
      · rw [l1] at h; omega
      · exact absurd (l0.mpr b0) h
    · exact absurd ⟨f, f1, f2⟩ g1
    · have := one f' g1 g2
      subst this
      rcases h with ⟨h, -⟩ | ⟨-, h⟩ | ⟨-, h, -⟩
      · rw [l0] at h; omega
      · rw [g3]; exact sureP_eq h (a6 f' g1)
      · exact absurd (l1.mpr b1) h
    · exact absurd ⟨f, f1, f2⟩ g1
    · rcases h with ⟨h, -⟩ | ⟨h, -⟩ | ⟨-, -, h⟩
      · exact absurd (l0.mp h) b0
      · exact absurd (l1.mp h) b1
      · rw [h, g]
  · rw [h]
    rcases hx with ⟨b0, ⟨f', g1, g2, g3⟩ | ⟨g1, g⟩⟩ | ⟨b1, ⟨f', g1, g2, g3⟩ | ⟨g1, g⟩⟩ | ⟨b0, b1, g⟩
    · exact absurd ⟨f', g1, g2⟩ f1
    · exact g.symm
    · exact absurd ⟨f', g1, g2⟩ f1
    · exact g.symm
    · exact g.symm
theorem wk_eq {st st2 pt ag rt : Int32} (h1 : st = 0 ↔ st2 = 0) (hp : 0 ≤ pt.toInt ∧ pt.toInt ≤ 25000) (ha : 0 ≤ ag.toInt ∧ ag.toInt ≤ 2000) (hr : 0 ≤ rt.toInt) : wkf st pt ag rt = wkM st2 (ag - pt) rt := by
  have hs : (ag - pt).toInt = ag.toInt - pt.toInt := zi_sub (by omega) (by omega)
  unfold wkf wkM
  by_cases q : st = 0
  · rw [if_neg (show ¬ ¬ st = 0 from fun h => h q), if_neg (show ¬ ¬ st2 = 0 from fun h => h (h1.mp q))]
    by_cases q2 : pt < ag
    · have n1 : ¬ ag - pt ≤ 0 := by
        rw [zi_le, hs, zi_lit0]
        have := zi_lt.mp q2
        omega
      rw [if_neg (show ¬ ¬ pt < ag from fun h => h q2), if_neg n1]
      by_cases q3 : 0 < rt
      · have n2 : ¬ rt = 0 := fun h => by
          rw [h] at q3
          exact absurd q3 (by decide)
        rw [if_neg (show ¬ ¬ 0 < rt from fun h => h q3), if_neg n2]
      · have n2 : rt = 0 := by
          rw [zi_eq, zi_lit0]
          have : ¬ (0 : Int32).toInt < rt.toInt := fun h => q3 (zi_lt.mpr h)
          rw [zi_lit0] at this
          omega
        rw [if_pos q3, if_pos n2]
    · have n1 : ag - pt ≤ 0 := by
        rw [zi_le, hs, zi_lit0]
        have : ¬ pt.toInt < ag.toInt := fun h => q2 (zi_lt.mpr h)
        omega
      rw [if_pos q2, if_pos n1]
  · rw [if_pos q, if_pos (show ¬ st2 = 0 from fun h => q (h1.mpr h))]
theorem st_netOf (a b : Int32) (hr : rel N F S T C M) : stp mX5_netOf mX6_netOf [.inl a, .inl b] N F S T C M := by
  obtain ⟨⟨s, c, n, hN⟩, hS, hT, hC⟩ := hr
  have hNM := iNM_of hN
  obtain ⟨⟨e0, e1, e2, e3, e4, e5, e6, e7, e8⟩, a2, i1, k1, a5, a6, a7, a8, b1, b2, b3, b4⟩ := id hN
  have hc := a5.2.1
  have hn := i1.2.1
  refine ⟨6, _, y_netOf N F S T C (wM M) a b s c n i1 a5, by omega, ?_⟩
  rintro o w1 ⟨x, rfl, hx, rfl⟩
  refine ⟨x, N, F, S, T, C, rfl, rfl, 10, _, m_netOf N F S T C M a b s c n k1 hNM, by omega, ?_⟩
  rintro o w2 ⟨x2, rfl, hx2, M', s1, s2, rfl⟩
  refine ⟨?_, M', rel_M s1 s2 hN hS hT hC, rfl⟩
  congr 1
  have l6 : b = 6 ↔ b.toInt = 6 := zi_eq
  rcases hx with ⟨b6, hx⟩ | ⟨b6, hx⟩
  · have ho := sf_of a6 hx
    rcases hx2 with ⟨k, g1, g2, h⟩ | ⟨g1, h⟩
    · rw [g2] at ho
      have h6 := l6.mp b6
      rcases h with ⟨h, -⟩ | ⟨h, -⟩ | ⟨h, -⟩ | ⟨h, -⟩ | ⟨h, -⟩ | ⟨h, -⟩ | ⟨-, h⟩ | ⟨h, -⟩ | ⟨h, -⟩
      · omega
      · omega
      · omega
      · omega
      · omega
      · omega
      · exact sp_of_eq h ho
      · omega
      · omega
    · rw [h]
      rcases ho with ⟨f, k, h1, h2, h3, h4⟩ | ⟨-, h⟩
      · have := tb_lt (k1.1.2.2.2.2.2.2 f h3.1) (sureN_bit h3)
        exact absurd ⟨k, this, h1⟩ g1
      · exact h.symm
  · have b6 : ¬ b.toInt = 6 := fun h => b6 (l6.mpr h)
    rcases hx with ⟨k, g1, g2, h⟩ | ⟨g1, h⟩
    · rcases hx2 with ⟨k', g1', g2', h2⟩ | ⟨g1', h2⟩
      · have : k = k' := by
          have := g2.symm.trans g2'
          rw [nI_eqI (by omega) (by omega)] at this
          exact this
        subst this
        rw [h]
        unfold tlf
        rcases h2 with ⟨w, h2⟩ | ⟨w, h2⟩ | ⟨w, h2⟩ | ⟨w, h2⟩ | ⟨w, h2⟩ | ⟨w, h2⟩ | ⟨w, h2⟩ | ⟨w, h2⟩ | ⟨w, h2⟩
        · rw [if_pos w, h2, e2]
        · rw [if_neg (by omega), if_pos w, h2, e6]
        · rw [if_neg (by omega), if_neg (by omega), if_pos w, h2, e6, e5]
        · rw [if_neg (by omega), if_neg (by omega), if_neg (by omega), if_pos w, h2, a2 k g1]
        · rw [if_neg (by omega), if_neg (by omega), if_neg (by omega), if_neg (by omega), if_pos w, h2, e3]
        · rw [if_neg (by omega), if_neg (by omega), if_neg (by omega), if_neg (by omega), if_neg (by omega), if_pos w, h2, e4]
        · exact absurd w b6
        · rw [if_neg (by omega), if_neg (by omega), if_neg (by omega), if_neg (by omega), if_neg (by omega), if_neg (by omega), if_pos w, h2, ← e5, ← e6, ← e0, ← e1, ← e2]
          refine (wk_eq ?_ ?_ (b2 k) (b1 _).1).symm
          · rw [a2 k g1]; exact stv_0
          · have := b3 k; omega
        · rw [if_neg (by omega), if_neg (by omega), if_neg (by omega), if_neg (by omega), if_neg (by omega), if_neg (by omega), if_neg (by omega), h2]
      · exact absurd ⟨k, g1, g2⟩ g1'
    · rcases hx2 with ⟨k', g1', g2', h2⟩ | ⟨g1', h2⟩
      · exact absurd ⟨k', g1', g2'⟩ g1
      · rw [h, h2]
end
