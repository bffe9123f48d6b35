/-! ===== the reference's search for the least lay ===== -/
section
variable (N F S T C M : hyB) (l m L lo : Nat → Nat) (R c : Nat)
theorem oL_bd (hL : ∀ r, L r ≤ 1000) (hR : R ≤ 6) (π : List Nat) : oL l L R π ≤ 6000 := by
  have := sumf_bd (f := fun r => if 0 < uL l π r then L r else 0) (b := 1000) (n := R) (fun k _ => by split; exact hL k; omega)
  unfold oL
  omega
/-- the roll array while a lay of the beginning π is looked at -/
def frIs (fr : Nat → Int32) (π : List Nat) : Prop := rowIs fr π ∧ ∀ i, π.length ≤ i → i < 8 → fr i = -1
theorem frIs_gd {fr : Nat → Int32} {π : List Nat} {i : Nat} (h : frIs fr π) (hi : i < π.length) : fr i = nI (π.getD i 9) := row_gd h.1 hi
theorem l_ly3 (Q : hyQ) (x1 x2 : Option hyV) (fr ls : Nat → Int32) (h24 : M.2 24 = nI c) (hc : c ≤ 8)
    (K : hy_X none 7 mX6_lays Q 0 0 (75, [some (hy_r 30), x1, x2, some (.inl (nI c))], [], wW N F S T C (wM (sa (sa M 35 (cpf fr ls c)) 34 fr)))) :
    ∀ (j i : Nat), c - i = j → i ≤ c → hy_X none 7 mX6_lays Q 0 0 (49, [some (hy_r 30), x1, x2, some (.inl (nI i))], [], wW N F S T C (wM (sa (sa M 35 (cpf fr ls i)) 34 fr))) := by
  intro j
  induction j with
  | zero =>
    intro i hj hi
    have : i = c := by omega
    subst this
    refine hy_go hy_pfA oX6_lays [49, 75] 60 0 0 _ ?_
    refine And.intro (fun q => K) (fun q => absurd ?_ q)
    show M.2 24 ≤ nI i
    rw [h24]; exact Int32.le_refl _
  | succ j ih =>
    intro i hj hi
    have hcl : (nI i).toNatClampNeg = i := cl_nI (by omega)
    have hin : vp_in (nI i) 8 := vn_in (by omega) (by decide)
    refine hy_go hy_pfA oX6_lays [49, 75] 60 0 0 _ ?_
    refine And.intro (fun q => ?_) (fun q => ?_)
    · have q : M.2 24 ≤ nI i := q
      rw [h24, nI_le24 (by omega) (by omega)] at q
      omega
    · refine And.intro hin (And.intro hin ?_)
      have nx := ih (i + 1) (by omega) (by omega)
      rw [← nI_s, cpf_s] at nx
      have e : upd (cpf fr ls i) (nI i).toNatClampNeg (fr (nI i).toNatClampNeg) = upd (cpf fr ls i) i (fr i) := by rw [hcl]
      rw [← e] at nx
      exact nx
def lyK (Q : hyQ) (π : List Nat) (B : Nat) (b : List Nat) : Prop := ∀ (B' : Nat) (b' : List Nat) (fr' ls' : Nat → Int32) (x3 : Option hyV), usp (oL l L R) (eL l m L lo R c π) B b B' b' → rowIs ls' b' → frIs fr' π → B' ≤ 1000000000 → hy_X none 7 mX6_lays Q 0 0 (26, [some (hy_r 30), some (.inl (nI B')), some (.inl (nI π.length - 1)), x3], [], wW N F S T C (wM (sa (sa M 35 ls') 34 fr')))
theorem l_lyD (Q : hyQ) (hM : iTM M l m L lo R c) : ∀ (d : Nat) (π : List Nat) (B : Nat) (b : List Nat) (fr ls : Nat → Int32) (x3 : Option hyV), π.length + d = c → lyP l m L lo R π → oL l L R π < B → B ≤ 1000000000 → rowIs ls b → frIs fr π → lyK N F S T C M l m L lo R c Q π B b → hy_X none 7 mX6_lays Q 0 0 (26, [some (hy_r 30), some (.inl (nI B)), some (.inl (nI π.length)), x3], [], wW N F S T C (wM (sa (sa M 35 ls) 34 fr))) := by
  obtain ⟨⟨t0, t1, t2, t3, t4, t5⟩, d1, d2⟩ := id hM
  have ob := oL_bd l L R (fun r => (t0 r).2.2.1) t2
  intro d
  induction d with
  | zero =>
    intro π B b fr ls x3 hd hly hlt hB hb hfr hK
    have hpc : π.length = c := by omega
    have hobp := ob π
    refine hy_go hy_pfA oX6_lays [49] 60 0 0 _ ?_
    refine And.intro (fun q => ?_) (fun q => And.intro (fun q2 => ?_) (fun q2 => absurd ?_ q2))
    · have q := zi_lt.mp q
      rw [zi_nI (by omega), zi_lit0] at q; omega
    · have hop : hy_R 5 mX6_openedBy 0 0 [hy_r 30, .inl (M.2 24)] (wW N F S T C (wM (sa (sa M 35 ls) 34 fr))) (fun o w1 => ∃ x, o = some x ∧ x = nI (oL l L R π) ∧ w1 = wW N F S T C (wM (sa (sa M 35 ls) 34 fr))) := by
        rw [d2, ← hpc]
        exact m_openedBy N F S T C (sa M 35 ls) l m L lo R c fr π hM hfr.1 (by omega) (fun i hi => by have := hly.1 i hi; omega)
      refine hy_cl hop rfl ?_
      rintro o w1 ⟨x, rfl, rfl, rfl⟩
      have fin := hK (oL l L R π) π fr (cpf fr ls c) (some (.inl (nI c))) (Or.inr ⟨hlt, ⟨hpc, hly, [], by simp⟩, rfl, fun p hp => ⟨eL_low l m L lo R c hp, fun _ => by
          obtain ⟨p1, -, q3, rfl⟩ := hp
          have : q3 = [] := List.length_eq_zero_iff.mp (by simp at p1; omega)
          rw [this, List.append_nil]; exact Nat.le_refl _⟩⟩) (fun i x hx => by
            have hi := (List.getElem?_eq_some_iff.mp hx).1
            unfold cpf
            rw [if_pos (by omega)]
            exact hfr.1 i x hx) hfr (by omega)
      have e1 : nI π.length - 1 = nI π.length + (-1) := Int32.sub_eq_add_neg _ _
      rw [e1] at fin
      have l3 := l_ly3 N F S T C M c Q (some (.inl (nI (oL l L R π)))) (some (.inl (nI π.length))) fr ls d2 t3 (by
        refine hy_go hy_pfA oX6_lays [26] 60 0 0 _ ?_
        exact fin) c 0 (by omega) (by omega)
      rw [cpf_0] at l3
      exact l3
    · show nI π.length = M.2 24
      rw [d2, hpc]
  | succ d ih =>
    intro π B b fr ls x3 hd hly hlt hB hb hfr hK
    have hpl : (nI π.length).toNatClampNeg = π.length := cl_nI (by omega)
    have hpin : vp_in (nI π.length) 8 := vn_in (by omega) (by decide)
    have hxp : ∀ i, i < π.length → π.getD i 9 < 6 := fun i hi => by have := hly.1 i hi; omega
    -- the loop over the rolls for this cut
    have loop : ∀ (k j : Nat) (B1 : Nat) (b1 : List Nat) (fr1 ls1 : Nat → Int32) (x3 : Option hyV), R - j = k → j ≤ R → usp (oL l L R) (eLj l m L lo R c j π) B b B1 b1 → rowIs ls1 b1 → (∀ i, i < π.length → fr1 i = nI (π.getD i 9)) → fr1 π.length = nI j → (∀ i, π.length < i → i < 8 → fr1 i = -1) → B1 ≤ 1000000000 → hy_X none 7 mX6_lays Q 0 0 (91, [some (hy_r 30), some (.inl (nI B1)), some (.inl (nI π.length)), x3], [], wW N F S T C (wM (sa (sa M 35 ls1) 34 fr1))) := by
      intro k
      induction k with
      | zero =>
        intro j B1 b1 fr1 ls1 x3 hk hj hu hb1 f1 f2 f3 hB1
        have hjR : j = R := by omega
        have e0 : fr1 (nI π.length).toNatClampNeg = nI j := by rw [hpl]; exact f2
        refine hy_go hy_pfA oX6_lays [26] 60 0 0 _ ?_
        refine And.intro hpin ?_
        refine And.intro (fun q => ?_) (fun q => absurd ?_ q)
        · refine And.intro hpin ?_
          refine And.intro (fun q2 => ?_) (fun q2 => ?_)
          · have q2 : fr1 (nI π.length).toNatClampNeg < M.2 21 := q2
            rw [e0, d1, hjR] at q2
            exact (Int32.lt_irrefl q2).elim
          · refine And.intro hpin ?_
            have fin := hK B1 b1 (upd fr1 (nI π.length).toNatClampNeg (-1)) ls1 x3 (usp_iff hu (fun p => by rw [hjR]; exact (eL_split l m L lo R c (by omega)).symm)) hb1 ⟨fun i x hx => by
                have hi := (List.getElem?_eq_some_iff.mp hx).1
                rw [hpl]
                unfold upd
                rw [if_neg (by omega), f1 i hi, List.getD_eq_getElem?_getD, hx]; rfl, fun i h1 h2 => by
                rw [hpl]
                unfold upd
                by_cases e : i = π.length
                · rw [if_pos e]
                · rw [if_neg e]; exact f3 i (by omega) h2⟩ hB1
            have e1 : nI π.length - 1 = nI π.length + (-1) := Int32.sub_eq_add_neg _ _
            rw [e1] at fin
            exact fin
        · show M.2 21 ≤ fr1 (nI π.length).toNatClampNeg
          rw [e0, d1, hjR]; exact Int32.le_refl _
      | succ k ihk =>
        intro j B1 b1 fr1 ls1 x3 hk hj hu hb1 f1 f2 f3 hB1
        have hjR : j < R := by omega
        have e0 : fr1 (nI π.length).toNatClampNeg = nI j := by rw [hpl]; exact f2
        have hrow : rowIs fr1 (π ++ [j]) := fun i x hx => by
          rw [List.getElem?_append] at hx
          by_cases e : i < π.length
          · rw [if_pos e] at hx
            rw [f1 i e, List.getD_eq_getElem?_getD, hx]; rfl
          · rw [if_neg e, List.getElem?_singleton] at hx
            split at hx
            · cases hx
              have : i = π.length := by omega
              rw [this]; exact f2
            · cases hx
        have hob2 := ob (π ++ [j])
        -- the next roll, when this one gives nothing
        have skip : (∀ p, eL l m L lo R c (π ++ [j]) p → B1 ≤ oL l L R p) → vp_in (nI π.length) 8 ∧ vp_in (nI π.length) 8 ∧ hy_X none 7 mX6_lays Q 0 0 (91, [some (hy_r 30), some (.inl (nI B1)), some (.inl (nI π.length)), x3], [], wW N F S T C (wM (sa (sa M 35 ls1) 34 (upd fr1 (nI π.length).toNatClampNeg (fr1 (nI π.length).toNatClampNeg + 1))))) := fun hno => by
          refine ⟨hpin, hpin, ?_⟩
          refine ihk (j + 1) B1 b1 _ ls1 x3 (by omega) (by omega) (usp_cat hu (usp_none hno) (fun p => eLj_s l m L lo R c) (fun p q h1 h2 => eLj_rv l m L lo R c (by omega) h1 h2)) hb1 (fun i hi => ?_) ?_ (fun i h1 h2 => ?_) hB1
          · rw [hpl]; unfold upd; rw [if_neg (by omega)]; exact f1 i hi
          · rw [hpl]; unfold upd; rw [if_pos rfl, f2, nI_s]
          · rw [hpl]; unfold upd; rw [if_neg (by omega)]; exact f3 i h1 h2
        refine hy_go hy_pfA oX6_lays [26, 91] 60 0 0 _ ?_
        refine And.intro hpin ?_
        refine And.intro (fun q => ?_) (fun q => ?_)
        · have q : M.2 21 ≤ fr1 (nI π.length).toNatClampNeg := q
          rw [e0, d1, nI_le24 (by omega) (by omega)] at q; omega
        · have hml := m_mayLie N F S T C (sa M 35 ls1) l m L lo R c fr1 π j hM hrow (by omega) hxp (by omega)
          rw [← nI_s] at hml
          refine hy_cl hml rfl ?_
          rintro o w1 ⟨v, rfl, hv, rfl⟩
          refine And.intro (fun q2 => ?_) (fun q2 => ?_)
          · rcases hv with ⟨h1, h2⟩ | ⟨h1, h2⟩
            · rw [h1] at q2; exact absurd q2 (by decide)
            · have hno : ¬ lyP l m L lo R (π ++ [j]) := fun h => h2 ((lyP_s l m L lo R).mp h).2.2
              have sk := skip (fun p hp => absurd hp (eL_no l m L lo R c hno p))
              exact And.intro sk.1 (And.intro sk.2.1 sk.2.2)
          · rcases hv with ⟨h1, h2⟩ | ⟨h1, h2⟩
            · have hly2 : lyP l m L lo R (π ++ [j]) := (lyP_s l m L lo R).mpr ⟨hly, hjR, h2.1, h2.2⟩
              have hop := m_openedBy N F S T C (sa M 35 ls1) l m L lo R c fr1 (π ++ [j]) hM hrow (by simp; omega) (fun i hi => by have := hly2.1 i hi; omega)
              rw [show (π ++ [j]).length = π.length + 1 by simp, ← nI_s] at hop
              refine hy_cl hop rfl ?_
              rintro o w1 ⟨y, rfl, rfl, rfl⟩
              refine And.intro (fun q3 => ?_) (fun q3 => ?_)
              · rw [zi_lt, zi_nI (by omega), zi_nI (by omega)] at q3
                refine And.intro hpin ?_
                refine And.intro (fun q4 => ?_) (fun q4 => absurd ?_ q4)
                · have dn := ih (π ++ [j]) B1 b1 fr1 ls1 x3 (by simp; omega) hly2 (by omega) hB1 hb1 ⟨hrow, fun i h3 h4 => f3 i (by simp at h3; omega) h4⟩ (fun B2 b2 fr2 ls2 x4 hu2 hb2 hfr2 hB2 => by
                      rw [show (π ++ [j]).length = π.length + 1 by simp, nI_pred]
                      have hf2 : ∀ i, i < π.length → fr2 i = nI (π.getD i 9) := fun i hi => by
                        have := frIs_gd hfr2 (i := i) (by simp; omega)
                        rwa [gd_app hi] at this
                      have hf3 : fr2 π.length = nI j := by
                        have := frIs_gd hfr2 (i := π.length) (by simp)
                        rwa [gd_last] at this
                      have e3 : fr2 (nI π.length).toNatClampNeg = nI j := by rw [hpl]; exact hf3
                      have hu3 := usp_cat hu hu2 (fun p => eLj_s l m L lo R c) (fun p q h1 h2 => eLj_rv l m L lo R c (by omega) h1 h2)
                      refine hy_go hy_pfA oX6_lays [91] 60 0 0 _ ?_
                      refine And.intro (fun q5 => ?_) (fun q5 => And.intro (fun q6 => ?_) (fun q6 => ?_))
                      · have q5 := zi_lt.mp q5
                        rw [zi_nI (by omega), zi_lit0] at q5; omega
                      · have q6 : nI π.length = M.2 24 := q6
                        rw [d2, nI_eqI (by omega) (by omega)] at q6; omega
                      · refine And.intro hpin (And.intro hpin ?_)
                        refine ihk (j + 1) B2 b2 (upd fr2 (nI π.length).toNatClampNeg (fr2 (nI π.length).toNatClampNeg + 1)) ls2 x4 (by omega) (by omega) hu3 hb2 (fun i hi => ?_) ?_ (fun i h1 h2 => ?_) hB2
                        · rw [hpl]; unfold upd; rw [if_neg (by omega)]; exact hf2 i hi
                        · rw [hpl]; unfold upd; rw [if_pos rfl]; show fr2 π.length + 1 = _; rw [hf3, nI_s]
                        · rw [hpl]; unfold upd; rw [if_neg (by omega)]; exact hfr2.2 i (by simp; omega) h2)
                  rw [show (π ++ [j]).length = π.length + 1 by simp, ← nI_s] at dn
                  exact dn
                · show fr1 (nI π.length).toNatClampNeg < M.2 21
                  rw [e0, d1]; exact nI_lt hjR (by omega)
              · rw [zi_lt, zi_nI (by omega), zi_nI (by omega)] at q3
                have sk := skip (fun p hp => by have := eL_low l m L lo R c hp; omega)
                exact And.intro sk.1 (And.intro sk.2.1 sk.2.2)
            · rw [h1] at q2; exact absurd rfl q2
    refine hy_go hy_pfA oX6_lays [91] 60 0 0 _ ?_
    refine And.intro (fun q => ?_) (fun q => And.intro (fun q2 => ?_) (fun q2 => ?_))
    · have q := zi_lt.mp q
      rw [zi_nI (by omega), zi_lit0] at q; omega
    · have q2 : nI π.length = M.2 24 := q2
      rw [d2, nI_eqI (by omega) (by omega)] at q2; omega
    · refine And.intro hpin (And.intro hpin ?_)
      have e0 : fr (nI π.length).toNatClampNeg = -1 := by rw [hpl]; exact hfr.2 _ (Nat.le_refl _) (by omega)
      refine loop R 0 B b (upd fr (nI π.length).toNatClampNeg (fr (nI π.length).toNatClampNeg + 1)) ls x3 (by omega) (by omega) (usp_none (fun p hp => by
        obtain ⟨x, hx, -⟩ := hp
        omega)) hb (fun i hi => ?_) ?_ (fun i h1 h2 => ?_) hB
      · rw [hpl]; unfold upd; rw [if_neg (by omega)]; exact frIs_gd hfr hi
      · rw [hpl]; unfold upd; rw [if_pos rfl]
        show fr π.length + 1 = _
        rw [hfr.2 _ (Nat.le_refl _) (by omega)]; rfl
      · rw [hpl]; unfold upd; rw [if_neg (by omega)]; exact hfr.2 i (by omega) h2
theorem l_ly0 (Q : hyQ) (x1 x2 : Option hyV) (K : ∀ fr x3, frIs fr [] → hy_X none 7 mX6_lays Q 0 0 (26, [some (hy_r 30), x1, x2, x3], [], wW N F S T C (wM (sa M 34 fr)))) :
    ∀ (j i : Nat) (fr : Nat → Int32), 8 - i = j → i ≤ 8 → (∀ k, k < i → fr k = -1) → hy_X none 7 mX6_lays Q 0 0 (7, [some (hy_r 30), x1, x2, some (.inl (nI i))], [], wW N F S T C (wM (sa M 34 fr))) := by
  intro j
  induction j with
  | zero =>
    intro i fr hj hi hf
    have : i = 8 := by omega
    subst this
    refine hy_go hy_pfA oX6_lays [7, 26] 60 0 0 _ ?_
    exact And.intro (fun q => K fr _ ⟨fun i x hx => by simp at hx, fun i _ h => hf i h⟩) (fun q => absurd (by decide : (8 : Int32) ≤ nI 8) q)
  | succ j ih =>
    intro i fr hj hi hf
    have hcl : (nI i).toNatClampNeg = i := cl_nI (by omega)
    have hin : vp_in (nI i) 8 := vn_in (by omega) (by decide)
    refine hy_go hy_pfA oX6_lays [7, 26] 60 0 0 _ ?_
    refine And.intro (fun q => ?_) (fun q => ?_)
    · have q : nI 8 ≤ nI i := q
      rw [nI_le24 (by omega) (by omega)] at q; omega
    · refine And.intro hin ?_
      have nx := ih (i + 1) (upd fr (nI i).toNatClampNeg (-1)) (by omega) (by omega) (fun k hk => by
        rw [hcl]
        unfold upd
        by_cases e : k = i
        · rw [if_pos e]
        · rw [if_neg e]; exact hf k (by omega))
      rw [← nI_s] at nx
      exact nx
def scrT (M M' : hyB) : Prop := (∀ k, k ≠ 34 → k ≠ 35 → M'.1 k = M.1 k) ∧ ∀ k, M'.2 k = M.2 k
theorem scrT_refl (M : hyB) : scrT M M := ⟨fun _ _ _ => rfl, fun _ => rfl⟩
theorem scrT_mk (M : hyB) (ls fr : Nat → Int32) : scrT M (sa (sa M 35 ls) 34 fr) := by
  refine ⟨fun k h1 h2 => ?_, fun k => rfl⟩
  show sv (sv M.1 35 ls) 34 fr k = M.1 k
  rw [sv_ne h1, sv_ne h2]
/-- what the search gives -/
def sp_lays (x : Int32) (ls : Nat → Int32) : Prop := (∃ B b, leastL l m L lo R c B b ∧ B ≤ 6000 ∧ x = nI B ∧ rowIs ls b) ∨ ((∀ p, ¬ eL l m L lo R c [] p) ∧ x = 1000000000)
theorem m_lays (hM : iTM M l m L lo R c) : hy_R 7 mX6_lays 0 0 [hy_r 30] (wW N F S T C (wM M)) (fun o w1 => ∃ x, o = some x ∧ ∃ M', scrT M M' ∧ sp_lays l m L lo R c x (M'.1 35) ∧ w1 = wW N F S T C (wM M')) := by
  obtain ⟨⟨t0, t1, t2, t3, t4, t5⟩, d1, d2⟩ := id hM
  have ob := oL_bd l L R (fun r => (t0 r).2.2.1) t2
  refine hy_Ri (L := [some (hy_r 30), none, none, none]) rfl (by decide) (hy_ple rfl) rfl ?_
  refine hy_go hy_pfA oX6_lays [7] 60 0 0 _ ?_
  refine l_ly0 N F S T C M _ _ _ (fun fr x3 hfr => ?_) 8 0 (M.1 34) (by omega) (by omega) (fun k hk => by omega)
  have hz : ∀ r, uL l [] r = 0 := fun r => rfl
  have h0 : lyP l m L lo R [] := ⟨fun i hi => by simp at hi, fun r hr => Nat.zero_le _, fun i j hi => by simp at hi⟩
  have ho0 : oL l L R [] < 1000000000 := by have := ob []; omega
  have key := l_lyD N F S T C M l m L lo R c (fun o w1 => ∃ x, o = some x ∧ ∃ M', scrT M M' ∧ sp_lays l m L lo R c x (M'.1 35) ∧ w1 = wW N F S T C (wM M')) hM c [] 1000000000 [] fr (M.1 35) x3 (by simp) h0 ho0 (Nat.le_refl _) (fun i x hx => by simp at hx) hfr (fun B' b' fr' ls' x4 hu hb hf hB => by
    refine hy_go hy_pfA oX6_lays [26] 60 0 0 _ ?_
    refine And.intro (fun q => ?_) (fun q => absurd (by decide) q)
    refine hy_fin ⟨_, scrT_mk M ls' fr', ?_, rfl⟩
    rcases hu with ⟨e1, e2, e3⟩ | ⟨e1, e2, e3, e4⟩
    · refine Or.inr ⟨fun p hp => ?_, by rw [e1]; rfl⟩
      have := e3 p hp
      have := ob p
      omega
    · refine Or.inl ⟨B', b', ⟨e2, e3, e4⟩, ?_, rfl, hb⟩
      have := ob b'
      omega)
  exact key
theorem m_opened (hM : iTM M l m L lo R c) : hy_R 8 mX6_opened 0 0 [hy_r 30] (wW N F S T C (wM M)) (fun o w1 => ∃ x, o = some x ∧ ∃ M', scrT M M' ∧ ((∃ B b, leastL l m L lo R c B b ∧ x = nI B) ∨ ((∀ p, ¬ eL l m L lo R c [] p) ∧ x = -1)) ∧ w1 = wW N F S T C (wM M')) := by
  refine hy_Ri (L := [some (hy_r 30), none]) rfl (by decide) (hy_ple rfl) rfl ?_
  refine hy_go hy_pfA oX6_opened [] 60 0 0 _ ?_
  refine hy_cl (m_lays N F S T C M l m L lo R c hM) rfl ?_
  rintro o w1 ⟨x, rfl, M', s1, hx, rfl⟩
  refine And.intro (fun q => ?_) (fun q => ?_)
  · refine hy_fin ⟨M', s1, ?_, rfl⟩
    rcases hx with ⟨B, b, h1, h2, h3, h4⟩ | ⟨h1, h2⟩
    · have q := zi_eq.mp q
      rw [h3, zi_nI (by omega)] at q
      have : (1000000000 : Int32).toInt = 1000000000 := rfl
      omega
    · exact Or.inr ⟨h1, rfl⟩
  · refine hy_fin ⟨M', s1, ?_, rfl⟩
    rcases hx with ⟨B, b, h1, h2, h3, h4⟩ | ⟨h1, h2⟩
    · exact Or.inl ⟨B, b, h1, h3⟩
    · exact absurd h2 q
/-- what from answers -/
def sp_from (a x : Int32) : Prop := (∃ k B b y, k < c ∧ a = nI k ∧ leastL l m L lo R c B b ∧ b[k]? = some y ∧ x = nI y) ∨ ((¬ ∃ k B b, k < c ∧ a = nI k ∧ leastL l m L lo R c B b) ∧ x = -1)
theorem m_from (a : Int32) (hM : iTM M l m L lo R c) : hy_R 8 mX6_from 0 0 [hy_r 30, .inl a] (wW N F S T C (wM M)) (fun o w1 => ∃ x, o = some x ∧ ∃ M', scrT M M' ∧ sp_from l m L lo R c a x ∧ w1 = wW N F S T C (wM M')) := by
  obtain ⟨⟨t0, t1, t2, t3, t4, t5⟩, d1, d2⟩ := id hM
  refine hy_Ri (L := [some (hy_r 30), some (.inl a)]) rfl (by decide) (hy_ple rfl) rfl ?_
  refine hy_go hy_pfA oX6_from [] 60 0 0 _ ?_
  refine And.intro (fun q => ?_) (fun q => ?_)
  · rw [d2] at q
    refine hy_fin ⟨M, scrT_refl M, Or.inr ⟨?_, rfl⟩, rfl⟩
    rintro ⟨k, B, b, h1, h2, -⟩
    exact net_out (by omega) q ⟨k, h1, h2⟩
  · rw [d2] at q
    obtain ⟨k, hk, rfl⟩ := net_in (by omega) q
    have hcl : (nI k).toNatClampNeg = k := cl_nI (by omega)
    refine hy_cl (m_lays N F S T C M l m L lo R c hM) rfl ?_
    rintro o w1 ⟨x, rfl, M', s1, hx, rfl⟩
    refine And.intro (fun q2 => ?_) (fun q2 => ?_)
    · refine hy_fin ⟨M', s1, Or.inr ⟨?_, rfl⟩, rfl⟩
      rintro ⟨k', B', b', h1', h2', h3'⟩
      rcases hx with ⟨B, b, h1, h2, h3, h4⟩ | ⟨h1, h2⟩
      · have q2 := zi_eq.mp q2
        rw [h3, zi_nI (by omega)] at q2
        have : (1000000000 : Int32).toInt = 1000000000 := rfl
        omega
      · exact h1 b' h3'.1
    · rcases hx with ⟨B, b, h1, h2, h3, h4⟩ | ⟨h1, h2⟩
      · refine And.intro (vn_in (by omega) (by decide)) ?_
        have hlen : b.length = c := h1.1.1
        have hb : b[k]? = some b[k] := List.getElem?_eq_getElem (by omega)
        refine hy_fin ⟨M', s1, Or.inl ⟨k, B, b, b[k], hk, rfl, h1, hb, ?_⟩, rfl⟩
        show M'.1 35 (nI k).toNatClampNeg = _
        rw [hcl]; exact h4 k _ hb
      · exact absurd h2 q2
end
