/-! ===== the reference's spin yard: ends, all rows ===== -/
theorem sub1_I {m : Nat} (h : m < 1000000) : (nI m - 1).toInt = (m : Int) - 1 := by
  have z := zi_nI (n := m) (by omega)
  rw [zi_sub]
  · rw [z]; rfl
  · rw [z]; show -2147483648 ≤ (m : Int) - 1; omega
  · rw [z]; show (m : Int) - 1 < 2147483648; omega
theorem sub1_lt {m k : Nat} (h : m < 1000000) (hk : k < 1000000) : nI m - 1 < nI k ↔ m ≤ k := by
  rw [zi_lt, sub1_I h, zi_nI (by omega)]; omega
theorem sg_s (f : Nat → Nat) (k : Nat) : sg f 0 (k + 1) = sg f 0 k ++ [f k] := by
  rw [sg_add, sg_one, Nat.zero_add]
section
variable (N F S T C M : hyB) (so ho du wo : Nat → Nat) (ch c : Nat)
theorem l_m_endOf (Q : hyQ) (fl : Int32) (g : Nat → Nat) (m : Nat) (hM : iSM M so ho du wo ch c) (hm : m ≤ 7) (hg : ∀ k, k < m → (if fl = 0 then M.1 31 else M.1 32) k = nI (g k) ∧ g k < 7)
    (K : Q (some (nI (rn so ho du wo ch (sg g 0 m) (0, 0, 0)).1)) (wW N F S T C (wM (ss M 33 (nI (rn so ho du wo ch (sg g 0 m) (0, 0, 0)).2.2))))) :
    ∀ (j k : Nat) (x6 : Option hyV), m - k = j → k ≤ m → hy_X none 4 mX6_endOf Q 0 0 (13, [some (hy_r 30), some (.inl (nI m - 1)), some (.inl fl), some (.inl (nI (rn so ho du wo ch (sg g 0 k) (0, 0, 0)).1)), some (.inl (nI (rn so ho du wo ch (sg g 0 k) (0, 0, 0)).2.1)), some (.inl (nI k)), x6], [], wW N F S T C (wM (ss M 33 (nI (rn so ho du wo ch (sg g 0 k) (0, 0, 0)).2.2)))) := by
  obtain ⟨d0, d1, d2, d3, d4⟩ := id hM
  intro j
  induction j with
  | zero =>
    intro k x6 hj hk
    have : k = m := by omega
    subst this
    refine hy_go hy_pfA oX6_endOf [13] 80 0 0 _ ?_
    exact And.intro (fun q => K) (fun q => absurd ((sub1_lt (by omega) (by omega)).mpr (by omega)) q)
  | succ j ih =>
    intro k x6 hj hk
    obtain ⟨g1, g2⟩ := hg k (by omega)
    have hcl : (nI k).toNatClampNeg = k := cl_nI (by omega)
    have hgl : (nI (g k)).toNatClampNeg = g k := cl_nI (by omega)
    have hin : vp_in (nI k) 7 := vn_in (by omega) (by decide)
    have hgn : vp_in (nI (g k)) 7 := vn_in g2 (by decide)
    obtain ⟨o1, o2, o3, o4, o5, o6, o7, o8⟩ := d0 (g k)
    have nx := fun x => ih (k + 1) x (by omega) (by omega)
    have bd := rn_bd so ho du wo ch (fun o => (d0 o).2.2.2.2.2.1) (fun o => (d0 o).2.2.2.2.2.2.2) d2 (sg g 0 k) 0 0 0 0 (by omega) (by omega) (by rw [sg_len]; omega)
    have bs := rn_sort so ho du wo ch (fun o => (d0 o).2.2.2.2.1) (sg g 0 k) 0 0 0 (by omega)
    rw [sg_len] at bd
    rw [sg_s, rn_app] at nx
    generalize rn so ho du wo ch (sg g 0 k) (0, 0, 0) = st at *
    obtain ⟨h, s, l⟩ := st
    dsimp only [rn] at *
    have k40 : hy_X none 4 mX6_endOf Q 0 0 (42, [some (hy_r 30), some (.inl (nI m - 1)), some (.inl fl), some (.inl (nI h)), some (.inl (nI s)), some (.inl (nI k)), some (.inl (nI (g k)))], [], wW N F S T C (wM (ss M 33 (nI l)))) := by
      have f0 : M.1 16 (nI (g k)).toNatClampNeg = nI (so (g k)) := by rw [hgl]; exact o1
      have f1 : M.1 17 (nI (g k)).toNatClampNeg = nI (ho (g k)) := by rw [hgl]; exact o2
      have f2 : M.1 18 (nI (g k)).toNatClampNeg = nI (du (g k)) := by rw [hgl]; exact o3
      have f3 : M.1 19 (nI (g k)).toNatClampNeg = nI (wo (g k)) := by rw [hgl]; exact o4
      have k82 : hy_X none 4 mX6_endOf Q 0 0 (82, [some (hy_r 30), some (.inl (nI m - 1)), some (.inl fl), some (.inl (nI (en so ho ch h s (g k)))), some (.inl (M.1 16 (nI (g k)).toNatClampNeg)), some (.inl (nI k)), some (.inl (nI (g k)))], [], wW N F S T C (wM (ss M 33 (nI l)))) := by
        have nx := nx (some (.inl (nI (g k))))
        rw [← nI_s, ← f0] at nx
        have hen : en so ho ch h s (g k) ≤ 150 * 8 := by
          unfold en
          split <;> omega
        refine hy_go hy_pfA oX6_endOf [13] 80 0 0 _ ?_
        refine And.intro hgn ?_
        refine And.intro (fun q => ?_) (fun q => ?_)
        · have q : nI (en so ho ch h s (g k)) ≤ M.1 18 (nI (g k)).toNatClampNeg := q
          rw [f2, nI_le24 (by omega) (by omega)] at q
          have e : la so ho du wo ch h s l (g k) = l := by
            unfold la
            rw [show en so ho ch h s (g k) - du (g k) = 0 by omega, Nat.zero_mul, Nat.add_zero]
          rw [e, ← Int32.add_zero (nI l)] at nx
          exact nx
        · have q : ¬ nI (en so ho ch h s (g k)) ≤ M.1 18 (nI (g k)).toNatClampNeg := q
          rw [f2, nI_le24 (by omega) (by omega)] at q
          refine And.intro hgn (And.intro hgn ?_)
          have e : nI (la so ho du wo ch h s l (g k)) = nI l + (nI (en so ho ch h s (g k)) - M.1 18 (nI (g k)).toNatClampNeg) * M.1 19 (nI (g k)).toNatClampNeg := by
            rw [f2, f3, pk_sub (by omega), pk_mul, nI_add]; rfl
          rw [e] at nx
          exact nx
      refine hy_go hy_pfA oX6_endOf [82] 80 0 0 _ ?_
      refine And.intro hgn ?_
      refine And.intro (fun q => ?_) (fun q => ?_)
      · have q : M.1 16 (nI (g k)).toNatClampNeg = nI s := q
        rw [f0, nI_eqI (by omega) (by omega)] at q
        refine And.intro hgn (And.intro hgn ?_)
        have e : nI (en so ho ch h s (g k)) = nI h + (0 + M.1 17 (nI (g k)).toNatClampNeg) := by
          rw [f1]
          unfold en
          rw [if_pos q, ← nI_add, Int32.zero_add]
        rw [e] at k82
        exact k82
      · have q : ¬ M.1 16 (nI (g k)).toNatClampNeg = nI s := q
        rw [f0, nI_eqI (by omega) (by omega)] at q
        refine And.intro hgn (And.intro hgn ?_)
        have e : nI (en so ho ch h s (g k)) = nI h + (M.2 20 + M.1 17 (nI (g k)).toNatClampNeg) := by
          rw [f1, d1, nI_add, nI_add]
          unfold en
          rw [if_neg q]
          congr 1; omega
        rw [e] at k82
        exact k82
    refine hy_go hy_pfA oX6_endOf [42] 80 0 0 _ ?_
    refine And.intro (fun q => ?_) (fun q => ?_)
    · rw [sub1_lt (by omega) (by omega)] at q; omega
    · refine And.intro (fun q2 => ?_) (fun q2 => ?_)
      · refine And.intro hin ?_
        rw [if_pos q2] at g1
        have e : M.1 31 (nI k).toNatClampNeg = nI (g k) := by rw [hcl]; exact g1
        rw [← e] at k40
        exact k40
      · refine And.intro hin ?_
        rw [if_neg q2] at g1
        have e : M.1 32 (nI k).toNatClampNeg = nI (g k) := by rw [hcl]; exact g1
        rw [← e] at k40
        exact k40
theorem m_endOf (fl : Int32) (g : Nat → Nat) (m : Nat) (hM : iSM M so ho du wo ch c) (hm : m ≤ 7) (hg : ∀ k, k < m → (if fl = 0 then M.1 31 else M.1 32) k = nI (g k) ∧ g k < 7) : hy_R 4 mX6_endOf 0 0 [hy_r 30, .inl (nI m - 1), .inl fl] (wW N F S T C (wM M)) (fun o w1 => ∃ x, o = some x ∧ x = nI (rn so ho du wo ch (sg g 0 m) (0, 0, 0)).1 ∧ w1 = wW N F S T C (wM (ss M 33 (nI (rn so ho du wo ch (sg g 0 m) (0, 0, 0)).2.2)))) := by
  refine hy_Ri (L := [some (hy_r 30), some (.inl (nI m - 1)), some (.inl fl), none, none, none, none]) rfl (by decide) (hy_ple rfl) rfl ?_
  refine hy_go hy_pfA oX6_endOf [13] 60 0 0 _ ?_
  exact l_m_endOf N F S T C M so ho du wo ch c _ fl g m hM hm hg ⟨_, rfl, rfl, rfl⟩ m 0 none (by omega) (by omega)
def scrP (M M' : hyB) : Prop := (∀ k, k ≠ 31 → k ≠ 32 → M'.1 k = M.1 k) ∧ ∀ k, k ≠ 33 → M'.2 k = M.2 k
theorem scrP_refl (M : hyB) : scrP M M := ⟨fun _ _ _ => rfl, fun _ _ => rfl⟩
theorem scrP_mk (M : hyB) (v : Int32) (r bf : Nat → Int32) : scrP M (sa (sa (ss M 33 v) 32 bf) 31 r) := by
  refine ⟨fun k h1 h2 => ?_, fun k h1 => ?_⟩
  · show sv (sv M.1 32 bf) 31 r k = M.1 k
    rw [sv_ne h1, sv_ne h2]
  · show sv M.2 33 v k = M.2 k
    rw [sv_ne h1]
theorem scrP_mk3 {M M' : hyB} (h : scrP M M') (v : Int32) : scrP M (ss M' 33 v) := by
  refine ⟨h.1, fun k h1 => ?_⟩
  show sv M'.2 33 v k = M.2 k
  rw [sv_ne h1]; exact h.2 k h1
theorem l_sp2 (Q : hyQ) (x1 x2 x3 : Option hyV) (r : Nat → Int32) (v : Int32) (h15 : M.2 15 = nI c) (hc : c ≤ 7) (bf : Nat → Int32)
    (K : hy_X none 6 mX6_spins Q 0 0 (89, [some (hy_r 30), x1, x2, x3, some (.inl (nI c))], [], wW N F S T C (wM (sa (sa (ss M 33 v) 32 (cpf r bf c)) 31 r)))) :
    ∀ (j i : Nat), c - i = j → i ≤ c → hy_X none 6 mX6_spins Q 0 0 (60, [some (hy_r 30), x1, x2, x3, some (.inl (nI i))], [], wW N F S T C (wM (sa (sa (ss M 33 v) 32 (cpf r bf i)) 31 r))) := by
  intro j
  induction j with
  | zero =>
    intro i hj hi
    have : i = c := by omega
    subst this
    refine hy_go hy_pfA oX6_spins [60, 89] 60 0 0 _ ?_
    refine And.intro (fun q => K) (fun q => absurd ?_ q)
    show M.2 15 ≤ nI i
    rw [h15]; exact Int32.le_refl _
  | succ j ih =>
    intro i hj hi
    have hcl : (nI i).toNatClampNeg = i := cl_nI (by omega)
    have hin : vp_in (nI i) 7 := vn_in (by omega) (by decide)
    refine hy_go hy_pfA oX6_spins [60, 89] 60 0 0 _ ?_
    refine And.intro (fun q => ?_) (fun q => ?_)
    · have q : M.2 15 ≤ nI i := q
      rw [h15, nI_le24 (by omega) (by omega)] at q
      omega
    · refine And.intro hin (And.intro hin ?_)
      have nx := ih (i + 1) (by omega) (by omega)
      rw [← nI_s, cpf_s] at nx
      have e : upd (cpf r bf i) (nI i).toNatClampNeg (r (nI i).toNatClampNeg) = upd (cpf r bf i) i (r i) := by rw [hcl]
      rw [← e] at nx
      exact nx
/-- all rows, one behind the other -/
theorem l_sp1 (Q : hyQ) (hM : iSM M so ho du wo ch c) (K : ∀ (B : Nat) (b : List Nat) (v : Int32) (r bf : Nat → Int32), bestR (tot so ho du wo ch) c B b → rowIs bf b → B < 1000000 → Q (some (nI B)) (wW N F S T C (wM (sa (sa (ss M 33 v) 32 bf) 31 r)))) :
    ∀ (m : Nat) (f : Nat → Nat) (r bf : Nat → Int32) (v : Int32) (L : Nat) (b : List Nat) (x3 x4 : Option hyV), 8 ^ c - rv (sg f 0 c) = m → rowF r f c → (sg f 0 c).Perm (List.range c) → usp (tot so ho du wo ch) (fun q => q.Perm (List.range c) ∧ rv q < rv (sg f 0 c)) 1000000000 [] L b → rowIs bf b → L ≤ 1000000000 → hy_X none 6 mX6_spins Q 0 0 (28, [some (hy_r 30), some (.inl (nI L)), some (.inl 1), x3, x4], [], wW N F S T C (wM (sa (sa (ss M 33 v) 32 bf) 31 r))) := by
  obtain ⟨d0, d1, d2, d3, d4⟩ := id hM
  intro m
  induction m using Nat.strongRecOn with
  | ind m ih =>
    intro f r bf v L b x3 x4 hm hr hp hu hb hL
    obtain ⟨hf, hd⟩ := sg_inj hp
    have hsm : sm (sg f 0 c) := fun x hx => by
      have := hp.mem_iff.mp hx
      rw [List.mem_range] at this; omega
    have hlt := rv_lt hsm
    rw [sg_len] at hlt
    have htot : tot so ho du wo ch (sg f 0 c) = (rn so ho du wo ch (sg f 0 c) (0, 0, 0)).2.2 := (rn_lf so ho du wo ch _ 0 0 0).symm
    have hbd : tot so ho du wo ch (sg f 0 c) < 1000000 := by
      have := rn_bd so ho du wo ch (fun o => (d0 o).2.2.2.2.2.1) (fun o => (d0 o).2.2.2.2.2.2.2) d2 (sg f 0 c) 0 0 0 0 (by omega) (by omega) (by rw [sg_len]; omega)
      rw [sg_len] at this
      rw [htot]; omega
    -- behind the evaluation of the row
    have tail : ∀ (L' : Nat) (b' : List Nat) (bf' : Nat → Int32) (x3 x4 : Option hyV) (v' : Int32), usp (tot so ho du wo ch) (fun q => q = sg f 0 c) L b L' b' → rowIs bf' b' → L' ≤ 1000000000 → hy_X none 6 mX6_spins Q 0 0 (89, [some (hy_r 30), some (.inl (nI L')), some (.inl 1), x3, x4], [], wW N F S T C (wM (sa (sa (ss M 33 v') 32 bf') 31 r))) := by
      intro L' b' bf' x3 x4 v' hu' hb' hL'
      have hcat : usp (tot so ho du wo ch) (fun q => q.Perm (List.range c) ∧ rv q ≤ rv (sg f 0 c)) 1000000000 [] L' b' := usp_cat hu hu' (fun p => by
        constructor
        · rintro ⟨h1, h2⟩
          by_cases e : rv p = rv (sg f 0 c)
          · refine Or.inr (rv_inj (by rw [h1.length_eq, sg_len]; simp) (fun x hx => ?_) hsm e)
            have := h1.mem_iff.mp hx
            rw [List.mem_range] at this; omega
          · exact Or.inl ⟨h1, by omega⟩
        · rintro (h | h)
          · exact ⟨h.1, by omega⟩
          · rw [h]; exact ⟨hp, Nat.le_refl _⟩) (fun p q h1 h2 => by
          have h2 : q = sg f 0 c := h2
          rw [h2]; exact Nat.le_of_lt h1.2)
      refine hy_go hy_pfA oX6_spins [28] 60 0 0 _ ?_
      refine hy_cl (m_nextRow N F S T C (sa (ss M 33 v') 32 bf') c f r d3 d4 hr hp) rfl ?_
      rintro o w1 ⟨x, rfl, ⟨rfl, h1, rfl⟩ | ⟨rfl, g, r', g1, g2, g3, g4, rfl⟩⟩
      · have hbest : bestR (tot so ho du wo ch) c L' b' ∧ L' < 1000000 := by
          rcases hcat with ⟨e1, e2, e3⟩ | ⟨e1, e2, e3, e4⟩
          · have := e3 (sg f 0 c) ⟨hp, Nat.le_refl _⟩
            omega
          · refine ⟨⟨e2.1, e3, fun p hp2 => e4 p ⟨hp2, h1 p hp2⟩⟩, ?_⟩
            have := (e4 (sg f 0 c) ⟨hp, Nat.le_refl _⟩).1
            omega
        have fin := K L' b' v' r bf' hbest.1 hb' hbest.2
        suffices gg : hy_X none 6 mX6_spins Q 0 0 (28, [some (hy_r 30), some (.inl (nI L')), some (.inl 0), x3, x4], [], wW N F S T C (wM (sa (sa (ss M 33 v') 32 bf') 31 r))) from gg
        refine hy_go hy_pfA oX6_spins [28] 60 0 0 _ ?_
        exact And.intro (fun q => fin) (fun q => absurd rfl q)
      · have hsm2 : sm (sg g 0 c) := fun x hx => by
          have := g2.mem_iff.mp hx
          rw [List.mem_range] at this; omega
        have hlt2 := rv_lt hsm2
        rw [sg_len] at hlt2
        have nx := ih (8 ^ c - rv (sg g 0 c)) (by omega) g r' bf' v' L' b' x3 x4 rfl g1 g2 (usp_iff hcat (fun p => by
          constructor
          · rintro ⟨h1, h2⟩
            exact ⟨h1, by omega⟩
          · rintro ⟨h1, h2⟩
            refine ⟨h1, ?_⟩
            apply Classical.byContradiction
            intro h3
            have := g4 p h1 (by omega)
            omega)) hb' hL'
        exact nx
    refine hy_go hy_pfA oX6_spins [60, 89] 60 0 0 _ ?_
    refine And.intro (fun q => absurd q (by decide)) (fun q => ?_)
    have hend : hy_R 4 mX6_endOf 0 0 [hy_r 30, .inl (M.2 15 - 1), .inl 0] (wW N F S T C (wM (sa (sa (ss M 33 v) 32 bf) 31 r))) (fun o w1 => ∃ x, o = some x ∧ x = nI (rn so ho du wo ch (sg f 0 c) (0, 0, 0)).1 ∧ w1 = wW N F S T C (wM (ss (sa (sa (ss M 33 v) 32 bf) 31 r) 33 (nI (rn so ho du wo ch (sg f 0 c) (0, 0, 0)).2.2)))) := by
      rw [d3]
      exact m_endOf N F S T C (sa (sa (ss M 33 v) 32 bf) 31 r) so ho du wo ch c 0 f c hM d4 (fun k hk => ⟨hr k hk, by have := hf k hk; omega⟩)
    refine hy_cl hend rfl ?_
    rintro o w1 ⟨x, rfl, rfl, rfl⟩
    rw [← htot]
    refine And.intro (fun q2 => ?_) (fun q2 => ?_)
    · have q2 : nI L ≤ nI (tot so ho du wo ch (sg f 0 c)) := q2
      rw [nI_le24 (by omega) (by omega)] at q2
      have := tail L b bf (some (.inl (nI (rn so ho du wo ch (sg f 0 c) (0, 0, 0)).1))) x4 (nI (tot so ho du wo ch (sg f 0 c))) (usp_none (fun p hp2 => by
        have hp2 : p = sg f 0 c := hp2
        rw [hp2]; exact q2)) hb hL
      exact this
    · have q2 : ¬ nI L ≤ nI (tot so ho du wo ch (sg f 0 c)) := q2
      rw [nI_le24 (by omega) (by omega)] at q2
      have t2 := tail (tot so ho du wo ch (sg f 0 c)) (sg f 0 c) (cpf r bf c) (some (.inl (nI (rn so ho du wo ch (sg f 0 c) (0, 0, 0)).1))) (some (.inl (nI c))) (nI (tot so ho du wo ch (sg f 0 c))) (Or.inr ⟨by omega, rfl, rfl, fun p hp2 => by
        have hp2 : p = sg f 0 c := hp2
        rw [hp2]; exact ⟨Nat.le_refl _, fun _ => Nat.le_refl _⟩⟩) (fun i x hx => by
          rw [sg_get] at hx
          split at hx
          · rename_i hi
            cases hx
            unfold cpf
            rw [if_pos hi, Nat.zero_add]; exact hr i hi
          · cases hx) (by omega)
      have l2 := l_sp2 N F S T C M c Q (some (.inl (nI (tot so ho du wo ch (sg f 0 c))))) (some (.inl 1)) (some (.inl (nI (rn so ho du wo ch (sg f 0 c) (0, 0, 0)).1))) r (nI (tot so ho du wo ch (sg f 0 c))) d3 d4 bf t2 c 0 (by omega) (by omega)
      rw [cpf_0] at l2
      exact l2
theorem l_sp0 (Q : hyQ) (h15 : M.2 15 = nI c) (hc : c ≤ 7) (K : ∀ r, rowF r id c → hy_X none 6 mX6_spins Q 0 0 (23, [some (hy_r 30), some (.inl (nI c)), none, none, none], [], wW N F S T C (wM (sa M 31 r)))) :
    ∀ (j i : Nat) (r : Nat → Int32), c - i = j → i ≤ c → rowF r id i → hy_X none 6 mX6_spins Q 0 0 (2, [some (hy_r 30), some (.inl (nI i)), none, none, none], [], wW N F S T C (wM (sa M 31 r))) := by
  intro j
  induction j with
  | zero =>
    intro i r hj hi hr
    have : i = c := by omega
    subst this
    refine hy_go hy_pfA oX6_spins [2, 23] 60 0 0 _ ?_
    refine And.intro (fun q => K r hr) (fun q => absurd ?_ q)
    show M.2 15 ≤ nI i
    rw [h15]; exact Int32.le_refl _
  | succ j ih =>
    intro i r hj hi hr
    have hcl : (nI i).toNatClampNeg = i := cl_nI (by omega)
    have hin : vp_in (nI i) 7 := vn_in (by omega) (by decide)
    refine hy_go hy_pfA oX6_spins [2, 23] 60 0 0 _ ?_
    refine And.intro (fun q => ?_) (fun q => ?_)
    · have q : M.2 15 ≤ nI i := q
      rw [h15, nI_le24 (by omega) (by omega)] at q
      omega
    · refine And.intro hin ?_
      have nx := ih (i + 1) (upd r (nI i).toNatClampNeg (nI i)) (by omega) (by omega) (fun k hk => by
        rw [hcl]
        unfold upd
        by_cases e : k = i
        · rw [if_pos e, e]; rfl
        · rw [if_neg e]; exact hr k (by omega))
      rw [← nI_s] at nx
      exact nx
theorem sg_id (c : Nat) : sg id 0 c = List.range c := by
  apply List.ext_getElem?
  intro i
  rw [sg_get]
  by_cases h : i < c
  · rw [if_pos h, List.getElem?_range h]; simp
  · rw [if_neg h, List.getElem?_eq_none (by simp; omega)]
theorem m_spins (hM : iSM M so ho du wo ch c) : hy_R 6 mX6_spins 0 0 [hy_r 30] (wW N F S T C (wM M)) (fun o w1 => ∃ x, o = some x ∧ ∃ M' B b, x = nI B ∧ B < 1000000 ∧ scrP M M' ∧ bestR (tot so ho du wo ch) c B b ∧ rowIs (M'.1 32) b ∧ w1 = wW N F S T C (wM M')) := by
  obtain ⟨d0, d1, d2, d3, d4⟩ := id hM
  refine hy_Ri (L := [some (hy_r 30), none, none, none, none]) rfl (by decide) (hy_ple rfl) rfl ?_
  refine hy_go hy_pfA oX6_spins [2] 60 0 0 _ ?_
  refine l_sp0 N F S T C M c _ d3 d4 (fun r hr => ?_) c 0 (M.1 31) (by omega) (by omega) (fun k hk => by omega)
  refine hy_go hy_pfA oX6_spins [28] 60 0 0 _ ?_
  have hp : (sg id 0 c).Perm (List.range c) := by rw [sg_id]
  have hmin : ∀ q : List Nat, q.Perm (List.range c) → rv (List.range c) ≤ rv q := fun q hq => rv_min List.pairwise_lt_range (fun x hx => by have := List.mem_range.mp hx; omega) hq
  have := l_sp1 N F S T C M so ho du wo ch c (fun o w1 => ∃ x, o = some x ∧ ∃ M' B b, x = nI B ∧ B < 1000000 ∧ scrP M M' ∧ bestR (tot so ho du wo ch) c B b ∧ rowIs (M'.1 32) b ∧ w1 = wW N F S T C (wM M')) hM (fun B b v r bf h1 h2 h3 => ⟨_, rfl, _, B, b, rfl, h3, scrP_mk M v r bf, h1, h2, rfl⟩) _ id r (M.1 32) (M.2 33) 1000000000 [] none none rfl hr hp (usp_none (fun p hp2 => by
    rw [sg_id] at hp2
    have := hmin p hp2.1
    omega)) (fun i x hx => by simp at hx) (by omega)
  exact this
end
