/-! ===== the ends of the spin yard: reference, and the yard's own face ===== -/
section
variable (N F S T C M : hyB) (so ho du wo : Nat → Nat) (ch c : Nat)
theorem m_late (hM : iSM M so ho du wo ch c) : hy_R 7 mX6_late 0 0 [hy_r 30] (wW N F S T C (wM M)) (fun o w1 => ∃ x, o = some x ∧ ∃ M' B b, x = nI B ∧ scrP M M' ∧ bestR (tot so ho du wo ch) c B b ∧ w1 = wW N F S T C (wM M')) := by
  refine hy_Ri (L := [some (hy_r 30)]) rfl (by decide) (hy_ple rfl) rfl ?_
  refine hy_go hy_pfA oX6_late [] 60 0 0 _ ?_
  refine hy_cl (m_spins N F S T C M so ho du wo ch c hM) rfl ?_
  rintro o w1 ⟨x, rfl, M', B, b, h1, h2, h3, h4, h5, rfl⟩
  exact hy_fin ⟨M', B, b, h1, h3, h4, rfl⟩
theorem iSM_scr {M M' : hyB} {so ho du wo : Nat → Nat} {ch c : Nat} (h : iSM M so ho du wo ch c) (hs : scrP M M') : iSM M' so ho du wo ch c := by
  obtain ⟨d0, d1, d2, d3, d4⟩ := h
  refine ⟨?_, (hs.2 20 (by decide)).trans d1, d2, (hs.2 15 (by decide)).trans d3, d4⟩
  rw [hs.1 16 (by decide) (by decide), hs.1 17 (by decide) (by decide), hs.1 18 (by decide) (by decide), hs.1 19 (by decide) (by decide)]
  exact d0
/-- what spun answers -/
def sp_spun (so ho du wo : Nat → Nat) (ch c : Nat) (a b x : Int32) : Prop :=
  (b.toInt = 0 ∧ ((∃ k B l y, k < c ∧ a = nI k ∧ bestR (tot so ho du wo ch) c B l ∧ l[k]? = some y ∧ x = nI y) ∨ ((¬ ∃ k, k < c ∧ a = nI k) ∧ x = -1))) ∨
  (b.toInt = 1 ∧ ((∃ k B l, k < c ∧ a = nI k ∧ bestR (tot so ho du wo ch) c B l ∧ x = nI (rn so ho du wo ch (l.take (k + 1)) (0, 0, 0)).1) ∨ ((¬ ∃ k, k < c ∧ a = nI k) ∧ x = -1))) ∨ (¬ b.toInt = 0 ∧ ¬ b.toInt = 1 ∧ x = -1)
theorem nI_inj24 {a b : Nat} (ha : a < 2147483648) (hb : b < 2147483648) (h : nI a = nI b) : a = b := (nI_eqI ha hb).mp h
theorem sp_spun_eq {so ho du wo : Nat → Nat} {ch c : Nat} {a b x x2 : Int32} (hc : c ≤ 7) (h : sp_spun so ho du wo ch c a b x) (h2 : sp_spun so ho du wo ch c a b x2) : x = x2 := by
  rcases h with ⟨h0, h⟩ | ⟨h0, h⟩ | ⟨h0, h1, h⟩
  · rcases h2 with ⟨g0, g⟩ | ⟨g0, g⟩ | ⟨g0, g1, g⟩
    · rcases h with ⟨k, B, l, y, a1, a2, a3, a4, a5⟩ | ⟨a1, a2⟩
      · rcases g with ⟨k', B', l', y', b1, b2, b3, b4, b5⟩ | ⟨b1, b2⟩
        · have e := nI_inj24 (by omega) (by omega) (a2.symm.trans b2)
          subst e
          obtain ⟨-, e2⟩ := bestR_eq (by omega) a3 b3
          subst e2
          rw [a4] at b4
          cases b4
          rw [a5, b5]
        · exact absurd ⟨k, a1, a2⟩ b1
      · rcases g with ⟨k', B', l', y', b1, b2, b3, b4, b5⟩ | ⟨b1, b2⟩
        · exact absurd ⟨k', b1, b2⟩ a1
        · rw [a2, b2]
    · omega
    · exact absurd h0 g0
  · rcases h2 with ⟨g0, g⟩ | ⟨g0, g⟩ | ⟨g0, g1, g⟩
    · omega
    · rcases h with ⟨k, B, l, a1, a2, a3, a5⟩ | ⟨a1, a2⟩
      · rcases g with ⟨k', B', l', b1, b2, b3, b5⟩ | ⟨b1, b2⟩
        · have e := nI_inj24 (by omega) (by omega) (a2.symm.trans b2)
          subst e
          obtain ⟨-, e2⟩ := bestR_eq (by omega) a3 b3
          subst e2
          rw [a5, b5]
        · exact absurd ⟨k, a1, a2⟩ b1
      · rcases g with ⟨k', B', l', b1, b2, b3, b5⟩ | ⟨b1, b2⟩
        · exact absurd ⟨k', b1, b2⟩ a1
        · rw [a2, b2]
    · exact absurd h0 g1
  · rcases h2 with ⟨g0, g⟩ | ⟨g0, g⟩ | ⟨g0, g1, g⟩
    · exact absurd g0 h0
    · exact absurd g0 h1
    · rw [h, g]
theorem lget {b : List Nat} {k : Nat} (h : k < b.length) : b[k]? = some (b.getD k 0) := by
  rw [List.getD_eq_getElem?_getD, List.getElem?_eq_getElem h]; rfl
theorem sg_getD {b : List Nat} {m : Nat} (h : m ≤ b.length) : sg (fun k => b.getD k 0) 0 m = b.take m := by
  apply List.ext_getElem?
  intro i
  rw [sg_get, List.getElem?_take]
  by_cases q : i < m
  · rw [if_pos q, if_pos q, Nat.zero_add, lget (by omega)]
  · rw [if_neg q, if_neg q]
theorem m_spun (a b : Int32) (hM : iSM M so ho du wo ch c) : hy_R 7 mX6_spun 0 0 [hy_r 30, .inl a, .inl b] (wW N F S T C (wM M)) (fun o w1 => ∃ x, o = some x ∧ sp_spun so ho du wo ch c a b x ∧ ∃ M', scrP M M' ∧ w1 = wW N F S T C (wM M')) := by
  obtain ⟨d0, d1, d2, d3, d4⟩ := id hM
  refine hy_Ri (L := [some (hy_r 30), some (.inl a), some (.inl b), none]) rfl (by decide) (hy_ple rfl) rfl ?_
  refine hy_go hy_pfA oX6_spun [] 60 0 0 _ ?_
  refine And.intro (fun q => ?_) (fun q => And.intro (fun q2 => ?_) (fun q2 => ?_))
  · rw [d3] at q
    refine hy_fin ⟨?_, M, scrP_refl M, rfl⟩
    have hno := net_out (n := c) (by omega) q
    by_cases e0 : b.toInt = 0
    · exact Or.inl ⟨e0, Or.inr ⟨hno, rfl⟩⟩
    · by_cases e1 : b.toInt = 1
      · exact Or.inr (Or.inl ⟨e1, Or.inr ⟨hno, rfl⟩⟩)
      · exact Or.inr (Or.inr ⟨e0, e1, rfl⟩)
  · refine hy_fin ⟨Or.inr (Or.inr ⟨fun e => ?_, fun e => ?_, rfl⟩), M, scrP_refl M, rfl⟩
    · exact g_within_I q2 (by rw [e]; decide)
    · exact g_within_I q2 (by rw [e]; decide)
  · rw [d3] at q
    obtain ⟨k, hk, rfl⟩ := net_in (by omega) q
    have hb : 0 ≤ b.toInt ∧ b.toInt ≤ 1 := g_within_nI q2
    have hcl : (nI k).toNatClampNeg = k := cl_nI (by omega)
    refine hy_cl (m_spins N F S T C M so ho du wo ch c hM) rfl ?_
    rintro o w1 ⟨x, rfl, M', B, l, h1, h2, h3, h4, h5, rfl⟩
    have hlen : l.length = c := by rw [h4.1.length_eq]; simp
    refine And.intro (fun q3 => ?_) (fun q3 => ?_)
    · refine And.intro (vn_in (by omega) (by decide)) ?_
      have hb0 : b.toInt = 0 := by rw [q3]; rfl
      have hl : l[k]? = some l[k] := List.getElem?_eq_getElem (by omega)
      refine hy_fin ⟨Or.inl ⟨hb0, Or.inl ⟨k, B, l, l[k], hk, rfl, h4, hl, ?_⟩⟩, M', h3, rfl⟩
      show M'.1 32 (nI k).toNatClampNeg = _
      rw [hcl]; exact h5 k _ hl
    · have hb1 : b.toInt = 1 := by
        have : ¬ b.toInt = 0 := fun e => q3 (zi_eq.mpr e)
        omega
      have hg : ∀ j, j < k + 1 → (if (1 : Int32) = 0 then M'.1 31 else M'.1 32) j = nI (l.getD j 0) ∧ l.getD j 0 < 7 := fun j hj => by
        have hj2 := lget (b := l) (k := j) (by omega)
        refine ⟨?_, ?_⟩
        · rw [if_neg (by decide)]; exact h5 j _ hj2
        · have := List.mem_range.mp (h4.1.mem_iff.mp (List.mem_of_getElem? hj2))
          omega
      have he := m_endOf N F S T C M' so ho du wo ch c 1 (fun j => l.getD j 0) (k + 1) (iSM_scr hM h3) (by omega) hg
      rw [nI_pred, sg_getD (by omega)] at he
      refine hy_cl he rfl ?_
      rintro o w1 ⟨y, rfl, hy, rfl⟩
      exact hy_fin ⟨Or.inr (Or.inl ⟨hb1, Or.inl ⟨k, B, l, hk, rfl, h4, hy⟩⟩), _, scrP_mk3 h3 _, rfl⟩
def tkM (M : hyB) (j : Nat) (a h d w v : Int32) : hyB := ss (sa (sa (sa (sa M 16 (upd (M.1 16) j a)) 17 (upd (M.1 17) j h)) 18 (upd (M.1 18) j d)) 19 (upd (M.1 19) j w)) 15 v
set_option maxRecDepth 100000 in
theorem m_order (a h d w : Int32) (h6 : M.2 15 = nI c) (h7 : c ≤ 7) : hy_R 4 mX6_order 0 0 [hy_r 30, .inl a, .inl h, .inl d, .inl w] (wW N F S T C (wM M)) (fun o w1 => ∃ x, o = some x ∧ (c_order a h d w c ∧ x = nI c ∧ w1 = wW N F S T C (wM (tkM M c a h d w (nI (c + 1)))) ∨ ¬ c_order a h d w c ∧ x = -1 ∧ w1 = wW N F S T C (wM M))) := by
  refine hy_Ri (L := [some (hy_r 30), some (.inl a), some (.inl h), some (.inl d), some (.inl w)]) rfl (by decide) (hy_ple rfl) rfl ?_
  refine hy_go hy_pfA oX6_order [] 80 0 0 _ ?_
  have hi : c < 7 → vp_in (M.2 15) 7 := fun h => by rw [h6]; exact vn_in h (by decide)
  have l7 : (7 : Int32).toInt = 7 := rfl
  refine And.intro (fun q => ?_) (fun q => And.intro (fun q2 => ?_) (fun q2 => And.intro (fun q3 => ?_) (fun q3 => And.intro (fun q4 => ?_) (fun q4 => And.intro (fun q5 => ?_) (fun q5 => ?_)))))
  · exact hy_fin (Or.inr ⟨fun h => g_within_0 q h.1, rfl, rfl⟩)
  · exact hy_fin (Or.inr ⟨fun h => g_within_0 q2 h.2.1, rfl, rfl⟩)
  · exact hy_fin (Or.inr ⟨fun h => g_within_0 q3 h.2.2.1, rfl, rfl⟩)
  · exact hy_fin (Or.inr ⟨fun h => g_within_0 q4 h.2.2.2.1, rfl, rfl⟩)
  · refine hy_fin (Or.inr ⟨fun h => ?_, rfl, rfl⟩)
    have := h.2.2.2.2
    have q5 := zi_eq.mp q5
    rw [h6, zi_nI (by omega)] at q5; omega
  · have hn : c < 7 := by
      have q5 : ¬ (M.2 15).toInt = 7 := fun h => q5 (zi_eq.mpr h)
      rw [h6, zi_nI (by omega)] at q5; omega
    refine And.intro (hi hn) (And.intro (hi hn) (And.intro (hi hn) (And.intro (hi hn) ?_)))
    have hcl : (M.2 15).toNatClampNeg = c := by rw [h6]; exact cl_nI (by omega)
    have e1 : M.2 15 + 1 = nI (c + 1) := by rw [h6, nI_s]
    have e2 : M.2 15 + 1 - 1 = nI c := by rw [e1]; exact nI_pred c
    have key : ∃ x, some (M.2 15 + 1 - 1) = some x ∧ (c_order a h d w c ∧ x = nI c ∧ wW N F S T C (wM (tkM M (M.2 15).toNatClampNeg a h d w (M.2 15 + 1))) = wW N F S T C (wM (tkM M c a h d w (nI (c + 1)))) ∨ ¬ c_order a h d w c ∧ x = -1 ∧ wW N F S T C (wM (tkM M (M.2 15).toNatClampNeg a h d w (M.2 15 + 1))) = wW N F S T C (wM M)) := ⟨_, rfl, Or.inl ⟨⟨g_within_n0 q, g_within_n0 q2, g_within_n0 q3, g_within_n0 q4, hn⟩, e2, by rw [hcl, e1]⟩⟩
    exact key
theorem m_change (v : Int32) : hy_R 4 mX6_change 0 0 [hy_r 30, .inl v] (wW N F S T C (wM M)) (fun o w1 => ∃ x, o = some x ∧ ((0 ≤ v ∧ v ≤ 50) ∧ x = 1 ∧ w1 = wW N F S T C (wM (ss M 20 v)) ∨ ¬ (0 ≤ v ∧ v ≤ 50) ∧ x = 0 ∧ w1 = wW N F S T C (wM M))) := by
  refine hy_Rz (L := [some (hy_r 30), some (.inl v)]) rfl (by decide) (fun x w h => ?_) (hy_ple rfl) rfl ?_
  · rcases h with ⟨-, h, -⟩ | ⟨-, h, -⟩
    · exact Or.inr h
    · exact Or.inl h
  refine hy_go hy_pfA oX6_change [] 60 0 0 _ ?_
  refine And.intro (fun q => ?_) (fun q => ?_)
  · exact hy_fin (Or.inr ⟨g_within_0 q, rfl, rfl⟩)
  · exact hy_fin (Or.inl ⟨g_within_n0 q, rfl, rfl⟩)
theorem m_clear : hy_R 3 mX6_clear 0 0 [hy_r 30] (wW N F S T C (wM M)) (fun o w1 => ∃ x, o = some x ∧ x = M.2 15 ∧ w1 = wW N F S T C (wM (ss M 15 0))) := by
  refine hy_Ri (L := [some (hy_r 30), none]) rfl (by decide) (hy_ple rfl) rfl ?_
  refine hy_go hy_pfA oX6_clear [] 60 0 0 _ ?_
  exact hy_fin ⟨rfl, rfl⟩
variable (R : hyW)
theorem y_order (a h d w : Int32) (h6 : S.2 6 = nI c) (h7 : c ≤ 7) : hy_R 5 mX5_order 0 0 [hy_r 0, .inl a, .inl h, .inl d, .inl w] (wW N F S T C R) (fun o w1 => ∃ x, o = some x ∧ (c_order a h d w c ∧ x = nI c ∧ w1 = wW N F (tkS S c a h d w (nI (c + 1))) T C R ∨ ¬ c_order a h d w c ∧ x = -1 ∧ w1 = wW N F S T C R)) := by
  refine hy_Ri (L := [some (hy_r 0), some (.inl a), some (.inl h), some (.inl d), some (.inl w)]) rfl (by decide) (hy_ple rfl) rfl ?_
  refine hy_go hy_pfA oX5_order [] 60 0 0 _ ?_
  refine hy_cl (r_s_take N F S T C R c a h d w h6 h7) rfl ?_
  rintro o w1 ⟨x, rfl, hx⟩
  exact hy_fin hx
theorem y_change (v : Int32) : hy_R 5 mX5_change 0 0 [hy_r 0, .inl v] (wW N F S T C R) (fun o w1 => ∃ x, o = some x ∧ ((0 ≤ v ∧ v ≤ 50) ∧ x = 1 ∧ w1 = wW N F (ss (ss S 7 v) 9 0) T C R ∨ ¬ (0 ≤ v ∧ v ≤ 50) ∧ x = 0 ∧ w1 = wW N F S T C R)) := by
  refine hy_Rz (L := [some (hy_r 0), some (.inl v)]) rfl (by decide) (fun x w h => ?_) (hy_ple rfl) rfl ?_
  · rcases h with ⟨-, h, -⟩ | ⟨-, h, -⟩
    · exact Or.inr h
    · exact Or.inl h
  refine hy_go hy_pfA oX5_change [] 60 0 0 _ ?_
  refine hy_cl (r_s_change N F S T C R v) rfl ?_
  rintro o w1 ⟨x, rfl, hx⟩
  exact hy_fin hx
theorem y_late (hS : iS S so ho du wo ch c) : hy_R 24 mX5_late 0 0 [hy_r 0] (wW N F S T C R) (fun o w1 => ∃ x, o = some x ∧ ∃ S' B b, x = nI B ∧ scrS S S' ∧ bestR (tot so ho du wo ch) c B b ∧ iS S' so ho du wo ch c ∧ w1 = wW N F S' T C R) := by
  refine hy_Ri (L := [some (hy_r 0)]) rfl (by decide) (hy_ple rfl) rfl ?_
  refine hy_go hy_pfA oX5_late [] 60 0 0 _ ?_
  refine hy_cl (r_s_late N F S T C R so ho du wo ch c hS) rfl ?_
  rintro o w1 ⟨x, rfl, hx⟩
  exact hy_fin hx
theorem y_spun (a b : Int32) (hS : iS S so ho du wo ch c) : hy_R 24 mX5_spun 0 0 [hy_r 0, .inl a, .inl b] (wW N F S T C R) (fun o w1 => ∃ x, o = some x ∧ sp_spun so ho du wo ch c a b x ∧ ∃ S', scrS S S' ∧ iS S' so ho du wo ch c ∧ w1 = wW N F S' T C R) := by
  refine hy_Ri (L := [some (hy_r 0), some (.inl a), some (.inl b)]) rfl (by decide) (hy_ple rfl) rfl ?_
  refine hy_go hy_pfA oX5_spun [] 60 0 0 _ ?_
  refine And.intro (fun h0 => ?_) (fun h0 => And.intro (fun h1 => ?_) (fun h1 => ?_))
  · refine hy_cl (r_s_orderAt N F S T C R so ho du wo ch c a hS) rfl ?_
    rintro o w1 ⟨x, rfl, S', s1, s2, hx, rfl⟩
    exact hy_fin ⟨Or.inl ⟨h0, hx⟩, S', s1, s2, rfl⟩
  · refine hy_cl (r_s_endAt N F S T C R so ho du wo ch c a hS) rfl ?_
    rintro o w1 ⟨x, rfl, S', s1, s2, hx, rfl⟩
    exact hy_fin ⟨Or.inr (Or.inl ⟨h1, hx⟩), S', s1, s2, rfl⟩
  · exact hy_fin ⟨Or.inr (Or.inr ⟨h0, h1, rfl⟩), S, scrS_refl S, hS, rfl⟩
theorem y_clear : hy_R 4 mX5_clear 0 0 [hy_r 0] (wW N F S T C R) (fun o w1 => ∃ x, o = some x ∧ x = S.2 6 ∧ w1 = wW N F (ss (ss S 6 0) 9 0) T C R) := by
  refine hy_Ri (L := [some (hy_r 0)]) rfl (by decide) (hy_ple rfl) rfl ?_
  refine hy_go hy_pfA oX5_clear [] 60 0 0 _ ?_
  refine hy_cl (r_s_drop N F S T C R) rfl ?_
  rintro o w1 ⟨x, rfl, hx⟩
  exact hy_fin hx
end
