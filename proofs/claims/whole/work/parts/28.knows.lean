/-! ===== what the reference knows ===== -/
def scrM (M M' : hyB) : Prop := (∀ k, k ≠ 13 → k ≠ 30 → M'.1 k = M.1 k) ∧ ∀ k, k ≠ 12 → M'.2 k = M.2 k
theorem scrM_refl (M : hyB) : scrM M M := ⟨fun _ _ _ => rfl, fun _ _ => rfl⟩
theorem scrM_trans {A B D : hyB} (h : scrM A B) (h2 : scrM B D) : scrM A D := ⟨fun k a b => (h2.1 k a b).trans (h.1 k a b), fun k a => (h2.2 k a).trans (h.2 k a)⟩
theorem sv_ne {α : Type} {f : Nat → α} {k j : Nat} {x : α} (h : j ≠ k) : sv f k x j = f j := by
  unfold sv
  cases hb : Nat.beq j k with
  | true => exact absurd (Nat.eq_of_beq_eq_true hb) h
  | false => rfl
theorem scrM_mk (M : hyB) (v : Int32) (a g : Nat → Int32) : scrM M (sa (sa (ss M 12 v) 30 a) 13 g) := by
  refine ⟨fun k h1 h2 => ?_, fun k h1 => ?_⟩
  · show sv (sv M.1 30 a) 13 g k = M.1 k
    rw [sv_ne h1, sv_ne h2]
  · show sv M.2 12 v k = M.2 k
    rw [sv_ne h1]
theorem scrM_mk0 (M : hyB) (a : Nat → Int32) : scrM M (sa M 30 a) := by
  refine ⟨fun k h1 h2 => ?_, fun k h1 => rfl⟩
  show sv M.1 30 a k = M.1 k
  rw [sv_ne h2]
theorem iFM_scr {M M' : hyB} {s : Nat → Nat} {c n : Nat} (h : iFM M s c n) (hs : scrM M M') : iFM M' s c n := by
  obtain ⟨c1, c2, c3, c4, c5, c6, c7⟩ := h
  refine ⟨(hs.2 10 (by decide)).trans c1, c2, fun f => ?_, c4, (hs.2 3 (by decide)).trans c5, c6, c7⟩
  rw [hs.1 11 (by decide) (by decide)]; exact c3 f
def kM (M : hyB) (s : Nat → Nat) (c n : Nat) : Prop := iFM M s c n ∧ (M.2 12 = 0 ∨ (M.2 12 = 1 ∧ ∀ f, f < c → sureP s c f (M.1 13 f)))
def rcw (s : Nat → Nat) (c f k : Nat) : Prop := ∃ φ, way s c φ ∧ φ f = k
def kv (s : Nat → Nat) (c f i : Nat) (mn v : Int32) : Prop :=
  (mn = 0 ∧ v = -1 ∧ ∀ k, k < i → ¬ rcw s c f k) ∨ (mn = 1 ∧ ∃ k0, k0 < i ∧ rcw s c f k0 ∧ v = nI k0 ∧ ∀ k, k < i → rcw s c f k → k = k0) ∨ (mn = 2 ∧ ∃ k1 k2, k1 ≠ k2 ∧ rcw s c f k1 ∧ rcw s c f k2)
theorem kv_no {s : Nat → Nat} {c f i : Nat} {mn v : Int32} (h : kv s c f i mn v) (hn : ¬ rcw s c f i) : kv s c f (i + 1) mn v := by
  rcases h with ⟨h1, h2, h3⟩ | ⟨h1, k0, h2, h3, h4, h5⟩ | h
  · refine Or.inl ⟨h1, h2, fun k hk => ?_⟩
    by_cases e : k = i
    · rw [e]; exact hn
    · exact h3 k (by omega)
  · refine Or.inr (Or.inl ⟨h1, k0, by omega, h3, h4, fun k hk hr => ?_⟩)
    by_cases e : k = i
    · rw [e] at hr; exact absurd hr hn
    · exact h5 k (by omega) hr
  · exact Or.inr (Or.inr h)
theorem kv_yes {s : Nat → Nat} {c f i : Nat} {mn v : Int32} (h : kv s c f i mn v) (hm : ¬ mn = 2) (hy : rcw s c f i) : kv s c f (i + 1) (mn + 1) (nI i) := by
  rcases h with ⟨h1, h2, h3⟩ | ⟨h1, k0, h2, h3, h4, h5⟩ | h
  · refine Or.inr (Or.inl ⟨by rw [h1]; rfl, i, by omega, hy, rfl, fun k hk hr => ?_⟩)
    apply Classical.byContradiction
    intro e
    exact h3 k (by omega) hr
  · exact Or.inr (Or.inr ⟨by rw [h1]; rfl, k0, i, by omega, h3, hy⟩)
  · exact absurd h.1 hm
theorem kv_end {s : Nat → Nat} {c f n i : Nat} {mn v : Int32} (hf : f < c) (hs : s f < 2 ^ n) (hn : n ≤ 24) (h : kv s c f i mn v) (hi : mn = 2 ∨ n ≤ i) : sureP s c f (if mn = 1 then v else -1) := by
  have hlt : ∀ k, rcw s c f k → k < n := fun k ⟨φ, h1, h2⟩ => by rw [← h2]; exact tb_lt hs (h1.1 f hf)
  rcases h with ⟨h1, h2, h3⟩ | ⟨h1, k0, h2, h3, h4, h5⟩ | ⟨h1, k1, k2, h2, h3, h4⟩
  · rw [h1, if_neg (by decide)]
    refine Or.inr ⟨rfl, ?_⟩
    rintro ⟨k, hk⟩
    have hr := (hk k).mpr rfl
    rcases hi with hi | hi
    · rw [h1] at hi; exact absurd hi (by decide)
    · exact h3 k (by have := hlt k hr; omega) hr
  · rw [h1, if_pos rfl]
    rcases hi with hi | hi
    · rw [h1] at hi; exact absurd hi (by decide)
    · refine Or.inl ⟨k0, by have := hlt k0 h3; omega, h4, fun k => ⟨fun hr => h5 k (by have := hlt k hr; omega) hr, fun e => e ▸ h3⟩⟩
  · rw [h1, if_neg (by decide)]
    refine Or.inr ⟨rfl, ?_⟩
    rintro ⟨k, hk⟩
    exact h2 (((hk k1).mp h3).trans ((hk k2).mp h4).symm)
section
variable (N F S T C M : hyB)
theorem l_kn2 (Q : hyQ) (s : Nat → Nat) (c n f : Nat) (hM : iFM M s c n) (hf : f < c)
    (K : ∀ (a g : Nat → Int32) (mn x : Int32), sureP s c f (if mn = 1 then g f else -1) → (∀ h, h < f → sureP s c h (g h)) → hy_X none 7 mX6_knows Q 0 0 (81, [some (hy_r 30), some (.inl (nI f)), some (.inl mn), some (.inl x)], [], wW N F S T C (wM (sa (sa (ss M 12 1) 30 a) 13 g)))) :
    ∀ (j i : Nat) (a g : Nat → Int32) (mn : Int32), n - i = j → i ≤ n → kv s c f i mn (g f) → (∀ h, h < f → sureP s c h (g h)) → hy_X none 7 mX6_knows Q 0 0 (34, [some (hy_r 30), some (.inl (nI f)), some (.inl mn), some (.inl (nI i))], [], wW N F S T C (wM (sa (sa (ss M 12 1) 30 a) 13 g))) := by
  obtain ⟨c1, c2, c3, c4, c5, c6, c7⟩ := id hM
  have hcl : (nI f).toNatClampNeg = f := cl_nI (by omega)
  intro j
  induction j with
  | zero =>
    intro i a g mn hj hi hv hg
    have hin : i = n := by omega
    refine hy_go hy_pfA oX6_knows [34, 81] 60 0 0 _ ?_
    refine And.intro (fun q => K a g mn _ (kv_end hf (c7 f hf) c6 hv (Or.inr (by omega))) hg) (fun q => absurd ?_ q)
    show M.2 3 ≤ nI i
    rw [c5, hin]; exact Int32.le_refl _
  | succ j ih =>
    intro i a g mn hj hi hv hg
    have a1 : n - (i + 1) = j := by omega
    have a2 : i + 1 ≤ n := by omega
    have a3 : i < 24 := by omega
    refine hy_go hy_pfA oX6_knows [34, 81] 60 0 0 _ ?_
    refine And.intro (fun q => ?_) (fun q => ?_)
    · have q : M.2 3 ≤ nI i := q
      rw [c5, nI_le24 (by omega) (by omega)] at q
      omega
    · refine And.intro (fun q2 => ?_) (fun q2 => ?_)
      · refine K a g mn _ (kv_end hf (c7 f hf) c6 hv (Or.inl ?_)) hg
        rcases hv with ⟨h1, -⟩ | ⟨h1, -⟩ | ⟨h1, -⟩
        · rw [h1] at q2; exact absurd q2 (by decide)
        · rw [h1] at q2; exact absurd q2 (by decide)
        · exact h1
      · have hm : ¬ mn = 2 := fun h => q2 (by rw [h]; decide)
        refine hy_cl (m_fits N F S T C (sa (sa (ss M 12 1) 30 a) 13 g) s c n f i hM (by omega) (by omega)) rfl ?_
        rintro o w1 ⟨x, rfl, hx, rfl⟩
        have skip : ∀ a', ¬ rcw s c f i → hy_X none 7 mX6_knows Q 0 0 (34, [some (hy_r 30), some (.inl (nI f)), some (.inl mn), some (.inl (nI i + 1))], [], wW N F S T C (wM (sa (sa (ss M 12 1) 30 a') 13 g))) := fun a' h => by
          rw [nI_s]
          exact ih (i + 1) a' g mn a1 a2 (kv_no hv h) hg
        refine And.intro (fun q3 => ?_) (fun q3 => ?_)
        · rcases hx with ⟨h1, h2⟩ | ⟨h1, h2⟩
          · rw [h2] at q3; exact absurd q3 (by decide)
          · exact skip a (fun ⟨φ, p1, p2⟩ => by
              have := p1.1 f hf
              rw [p2, h1] at this; cases this)
        · refine hy_cl (m_isWay N F S T C (sa (sa (ss M 12 1) 30 a) 13 g) (nI f) (nI i) s c n hM) rfl ?_
          rintro o w1 ⟨y, rfl, hy, a', rfl⟩
          rw [mt_way2 c7 c2 c6 hf (by omega)] at hy
          refine And.intro (fun q4 => ?_) (fun q4 => ?_)
          · rcases hy with ⟨h1, h2⟩ | ⟨h1, h2⟩
            · rw [h2] at q4; exact absurd q4 (by decide)
            · exact skip a' h1
          · rcases hy with ⟨h1, h2⟩ | ⟨h1, h2⟩
            · refine And.intro (vn_in (by omega) (by decide)) ?_
              have nx := ih (i + 1) a' (upd g (nI f).toNatClampNeg (nI i)) (mn + 1) a1 a2 (by
                rw [hcl]
                have : upd g f (nI i) f = nI i := by unfold upd; rw [if_pos rfl]
                rw [this]
                exact kv_yes hv hm h1) (fun h hh => by
                rw [hcl]
                have : upd g f (nI i) h = g h := by unfold upd; rw [if_neg (by omega)]
                rw [this]; exact hg h hh)
              rw [← nI_s] at nx
              exact nx
            · rw [h2] at q4; exact absurd rfl q4
theorem l_kn1 (Q : hyQ) (s : Nat → Nat) (c n : Nat) (hM : iFM M s c n)
    (K : ∀ (a g : Nat → Int32), (∀ f, f < c → sureP s c f (g f)) → Q none (wW N F S T C (wM (sa (sa (ss M 12 1) 30 a) 13 g)))) :
    ∀ (j i : Nat) (a g : Nat → Int32) (x y : Option hyV), c - i = j → i ≤ c → (∀ f, f < i → sureP s c f (g f)) → hy_X none 7 mX6_knows Q 0 0 (15, [some (hy_r 30), some (.inl (nI i)), x, y], [], wW N F S T C (wM (sa (sa (ss M 12 1) 30 a) 13 g))) := by
  obtain ⟨c1, c2, c3, c4, c5, c6, c7⟩ := id hM
  intro j
  induction j with
  | zero =>
    intro i a g x y hj hi hg
    have hin : i = c := by omega
    refine hy_go hy_pfA oX6_knows [15] 60 0 0 _ ?_
    refine And.intro (fun q => K a g (fun f hf => hg f (by omega))) (fun q => absurd ?_ q)
    show M.2 10 ≤ nI i
    rw [c1, hin]; exact Int32.le_refl _
  | succ j ih =>
    intro i a g x y hj hi hg
    have hcl : (nI i).toNatClampNeg = i := cl_nI (by omega)
    have a1 : c - (i + 1) = j := by omega
    have a2 : i + 1 ≤ c := by omega
    have a3 : i < 8 := by omega
    refine hy_go hy_pfA oX6_knows [34] 60 0 0 _ ?_
    refine And.intro (fun q => ?_) (fun q => ?_)
    · have q : M.2 10 ≤ nI i := q
      rw [c1, nI_le24 (by omega) (by omega)] at q
      omega
    · refine And.intro (vn_in a3 (by decide)) ?_
      refine l_kn2 N F S T C M Q s c n i hM a2 (fun a' g' mn z hs hg' => ?_) n 0 a (upd g (nI i).toNatClampNeg (-1)) 0 (by omega) (by omega) (Or.inl ⟨rfl, by rw [hcl]; unfold upd; rw [if_pos rfl], fun k hk => by omega⟩) (fun h hh => by
        rw [hcl]
        have : upd g i (-1) h = g h := by unfold upd; rw [if_neg (by omega)]
        rw [this]; exact hg h hh)
      refine hy_go hy_pfA oX6_knows [15] 60 0 0 _ ?_
      have step : ∀ v : Int32, sureP s c i v → hy_X none 7 mX6_knows Q 0 0 (15, [some (hy_r 30), some (.inl (nI i + 1)), some (.inl mn), some (.inl z)], [], wW N F S T C (wM (sa (sa (ss M 12 1) 30 a') 13 (upd g' (nI i).toNatClampNeg v)))) := fun v hv => by
        rw [nI_s, hcl]
        refine ih (i + 1) a' _ _ _ a1 a2 (fun f hf => ?_)
        unfold upd
        by_cases e : f = i
        · rw [if_pos e, e]; exact hv
        · rw [if_neg e]; exact hg' f (by omega)
      refine And.intro (fun q2 => ?_) (fun q2 => ?_)
      · refine And.intro (vn_in a3 (by decide)) (And.intro (vn_in a3 (by decide)) ?_)
        rw [if_pos q2] at hs
        have := step (g' (nI i).toNatClampNeg) (by rw [hcl]; exact hs)
        exact this
      · refine And.intro (vn_in a3 (by decide)) ?_
        rw [if_neg q2] at hs
        exact step (-1) hs
theorem m_knows (s : Nat → Nat) (c n : Nat) (hM : kM M s c n) : hy_R 7 mX6_knows 0 0 [hy_r 30] (wW N F S T C (wM M)) (fun o w1 => o = none ∧ ∃ M', scrM M M' ∧ kM M' s c n ∧ M'.2 12 = 1 ∧ w1 = wW N F S T C (wM M')) := by
  obtain ⟨hI, hk⟩ := hM
  refine hy_Rv (L := [some (hy_r 30), none, none, none]) rfl (by decide) (hy_ple rfl) rfl ?_
  refine hy_go hy_pfA oX6_knows [15] 60 0 0 _ ?_
  refine And.intro (fun q => ?_) (fun q => ?_)
  · refine And.intro (Or.inr rfl) ?_
    have key := l_kn1 N F S T C M (fun o w1 => o = none ∧ ∃ M', scrM M M' ∧ kM M' s c n ∧ M'.2 12 = 1 ∧ w1 = wW N F S T C (wM M')) s c n hI (fun a g hg => ⟨rfl, _, scrM_mk M 1 a g, ⟨iFM_scr hI (scrM_mk M 1 a g), Or.inr ⟨rfl, hg⟩⟩, rfl, rfl⟩) c 0 (M.1 30) (M.1 13) none none (by omega) (by omega) (fun f hf => by omega)
    exact key
  · rcases hk with h | h
    · exact absurd h q
    · exact And.intro rfl ⟨M, scrM_refl M, ⟨hI, Or.inr h⟩, h.1, rfl⟩
/-- the last find that is sure of a net -/
def sp_lf (g : Nat → Int32) (c : Nat) (a r : Int32) : Prop := (∃ f, f < c ∧ g f = a ∧ r = nI f ∧ ∀ h, f < h → h < c → g h ≠ a) ∨ ((¬ ∃ f, f < c ∧ g f = a) ∧ r = -1)
theorem l_findOf (Q : hyQ) (a : Int32) (s : Nat → Nat) (c n : Nat) (hM : iFM M s c n) (K : ∀ r, sp_lf (M.1 13) c a r → Q (some r) (wW N F S T C (wM M))) :
    ∀ (j i : Nat) (r : Int32), c - i = j → i ≤ c → sp_lf (M.1 13) i a r → hy_X none 8 mX6_findOf Q 0 0 (8, [some (hy_r 30), some (.inl a), some (.inl r), some (.inl (nI i))], [], wW N F S T C (wM M)) := by
  obtain ⟨c1, c2, c3, c4, c5, c6, c7⟩ := id hM
  intro j
  induction j with
  | zero =>
    intro i r hj hi hr
    have hin : i = c := by omega
    subst hin
    refine hy_go hy_pfA oX6_findOf [8] 60 0 0 _ ?_
    refine And.intro (fun q => K r hr) (fun q => absurd ?_ q)
    rw [c1]; exact Int32.le_refl _
  | succ j ih =>
    intro i r hj hi hr
    have hcl : (nI i).toNatClampNeg = i := cl_nI (by omega)
    refine hy_go hy_pfA oX6_findOf [8] 60 0 0 _ ?_
    refine And.intro (fun q => ?_) (fun q => ?_)
    · rw [c1, nI_le24 (by omega) (by omega)] at q
      omega
    · refine And.intro (vn_in (by omega) (by decide)) ?_
      refine And.intro (fun q2 => ?_) (fun q2 => ?_)
      · rw [hcl] at q2
        have nx := ih (i + 1) (nI i) (by omega) (by omega) (Or.inl ⟨i, by omega, q2, rfl, fun h h1 h2 => by omega⟩)
        rw [← nI_s] at nx
        exact nx
      · rw [hcl] at q2
        have nx := ih (i + 1) r (by omega) (by omega) (by
          rcases hr with ⟨f, f1, f2, f3, f4⟩ | ⟨f1, f2⟩
          · refine Or.inl ⟨f, by omega, f2, f3, fun h h1 h2 => ?_⟩
            by_cases e : h = i
            · rw [e]; exact q2
            · exact f4 h h1 (by omega)
          · refine Or.inr ⟨?_, f2⟩
            rintro ⟨f, g1, g2⟩
            by_cases e : f = i
            · rw [e] at g2; exact q2 g2
            · exact f1 ⟨f, by omega, g2⟩)
        rw [← nI_s] at nx
        exact nx
/-- a find that is sure of the net k -/
def sureN (s : Nat → Nat) (c f k : Nat) : Prop := f < c ∧ ∀ n, (∃ φ, way s c φ ∧ φ f = n) ↔ n = k
theorem sureN_one {s : Nat → Nat} {c f h k : Nat} (h1 : sureN s c f k) (h2 : sureN s c h k) : f = h := by
  obtain ⟨φ, p1, p2⟩ := (h1.2 k).mpr rfl
  have := (h2.2 (φ h)).mp ⟨φ, p1, rfl⟩
  exact p1.2 f h h1.1 h2.1 (by rw [p2, this])
theorem sureP_iff {s : Nat → Nat} {c f k : Nat} {v : Int32} (h : sureP s c f v) (hf : f < c) (hk : k < 2147483648) : v = nI k ↔ sureN s c f k := by
  rcases h with ⟨k0, h1, h2, h3⟩ | ⟨h1, h2⟩
  · constructor
    · intro e
      rw [h2, zi_eq, zi_nI (by omega), zi_nI (by omega)] at e
      have : k0 = k := by omega
      exact ⟨hf, this ▸ h3⟩
    · rintro ⟨-, hs⟩
      have : k0 = k := (hs k0).mp ((h3 k0).mpr rfl)
      rw [h2, this]
  · constructor
    · intro e
      rw [h1, zi_eq, zi_nI (by omega), zi_m1] at e; omega
    · rintro ⟨-, hs⟩
      exact absurd ⟨k, hs⟩ h2
/-- which find is sure of a net, as both tell it -/
def sp_of (s : Nat → Nat) (c : Nat) (a r : Int32) : Prop := (∃ f k, a = nI k ∧ k < 24 ∧ sureN s c f k ∧ r = nI f) ∨ ((¬ ∃ f k, a = nI k ∧ k < 24 ∧ sureN s c f k) ∧ r = -1)
theorem sp_of_eq {s : Nat → Nat} {c : Nat} {a r r2 : Int32} (h : sp_of s c a r) (h2 : sp_of s c a r2) : r = r2 := by
  rcases h with ⟨f, k, a1, a2, a3, a4⟩ | ⟨a1, a2⟩
  · rcases h2 with ⟨f', k', b1, b2, b3, b4⟩ | ⟨b1, b2⟩
    · have : k = k' := by
        have := congrArg Int32.toInt (a1.symm.trans b1)
        rw [zi_nI (by omega), zi_nI (by omega)] at this; omega
      subst this
      rw [a4, b4, sureN_one a3 b3]
    · exact absurd ⟨f, k, a1, a2, a3⟩ b1
  · rcases h2 with ⟨f', k', b1, b2, b3, b4⟩ | ⟨b1, b2⟩
    · exact absurd ⟨f', k', b1, b2, b3⟩ a1
    · rw [a2, b2]
theorem sureP_val {s : Nat → Nat} {c f : Nat} {v : Int32} (h : sureP s c f v) : v = -1 ∨ ∃ k, k < 24 ∧ v = nI k := by
  rcases h with ⟨k, h1, h2, -⟩ | ⟨h1, -⟩
  · exact Or.inr ⟨k, h1, h2⟩
  · exact Or.inl h1
theorem lf_of {s : Nat → Nat} {c : Nat} {g : Nat → Int32} {a r : Int32} (hg : ∀ f, f < c → sureP s c f (g f)) (ha : 0 ≤ a.toInt) (h : sp_lf g c a r) : sp_of s c a r := by
  have key : ∀ f, f < c → g f = a → ∃ k, a = nI k ∧ k < 24 ∧ sureN s c f k := fun f hf e => by
    rcases sureP_val (hg f hf) with h1 | ⟨k, h1, h2⟩
    · rw [e] at h1; rw [h1, zi_m1] at ha; omega
    · exact ⟨k, e.symm.trans h2, h1, (sureP_iff (hg f hf) hf (by omega)).mp h2⟩
  rcases h with ⟨f, f1, f2, f3, -⟩ | ⟨f1, f2⟩
  · obtain ⟨k, k1, k2, k3⟩ := key f f1 f2
    exact Or.inl ⟨f, k, k1, k2, k3, f3⟩
  · refine Or.inr ⟨?_, f2⟩
    rintro ⟨f, k, k1, k2, k3⟩
    exact f1 ⟨f, k3.1, by rw [k1]; exact (sureP_iff (hg f k3.1) k3.1 (by omega)).mpr k3⟩
theorem sf_of {s : Nat → Nat} {c : Nat} {g : Nat → Int32} {a r : Int32} (hg : ∀ f, f < c → sureP s c f (g f)) (h : sp_sf g c a r) : sp_of s c a r := by
  rcases h with ⟨f, f1, f0, f2, f3, -⟩ | ⟨f1, f2⟩
  · rcases sureP_val (hg f f1) with h1 | ⟨k, h1, h2⟩
    · rw [f2] at h1; rw [h1] at f0; exact absurd f0 (by decide)
    · exact Or.inl ⟨f, k, f2.symm.trans h2, h1, (sureP_iff (hg f f1) f1 (by omega)).mp h2, f3⟩
  · refine Or.inr ⟨?_, f2⟩
    rintro ⟨f, k, k1, k2, k3⟩
    refine f1 ⟨f, k3.1, ?_, by rw [k1]; exact (sureP_iff (hg f k3.1) k3.1 (by omega)).mpr k3⟩
    rw [k1, zi_le, zi_nI (by omega)]
    show (0 : Int) ≤ k; omega
theorem m_findOf (a : Int32) (ha : 0 ≤ a.toInt) (s : Nat → Nat) (c n : Nat) (hM : kM M s c n) : hy_R 8 mX6_findOf 0 0 [hy_r 30, .inl a] (wW N F S T C (wM M)) (fun o w1 => ∃ r, o = some r ∧ sp_of s c a r ∧ ∃ M', scrM M M' ∧ kM M' s c n ∧ w1 = wW N F S T C (wM M')) := by
  refine hy_Ri (L := [some (hy_r 30), some (.inl a), none, none]) rfl (by decide) (hy_ple rfl) rfl ?_
  refine hy_go hy_pfA oX6_findOf [8] 60 0 0 _ ?_
  refine hy_cl (m_knows N F S T C M s c n hM) rfl ?_
  rintro o w1 ⟨rfl, M', h1, h2, h3, rfl⟩
  have hg : ∀ f, f < c → sureP s c f (M'.1 13 f) := by
    rcases h2.2 with h | h
    · rw [h] at h3; exact absurd h3 (by decide)
    · exact h.2
  exact l_findOf N F S T C M' _ a s c n h2.1 (fun r hr => ⟨r, rfl, lf_of hg ha hr, M', h1, h2, rfl⟩) c 0 (-1) (by omega) (by omega) (Or.inr ⟨fun ⟨f, h, _⟩ => by omega, rfl⟩)
/-- a net's state, as it is told -/
def sp_st (s : Nat → Nat) (c : Nat) (st : Nat → Int32) (k : Nat) (r : Int32) : Prop := (st k = 2 ∧ (∃ f, sureN s c f k) ∧ r = 3) ∨ (¬ (st k = 2 ∧ ∃ f, sureN s c f k) ∧ r = st k)
theorem m_stateOf (k : Nat) (hk : k < 24) (s : Nat → Nat) (c n : Nat) (hM : kM M s c n) : hy_R 9 mX6_stateOf 0 0 [hy_r 30, .inl (nI k)] (wW N F S T C (wM M)) (fun o w1 => ∃ r, o = some r ∧ sp_st s c (M.1 9) k r ∧ ∃ M', scrM M M' ∧ kM M' s c n ∧ w1 = wW N F S T C (wM M')) := by
  have hcl : (nI k).toNatClampNeg = k := cl_nI (by omega)
  have hin : vp_in (nI k) 24 := vn_in hk (by decide)
  refine hy_Ri (L := [some (hy_r 30), some (.inl (nI k))]) rfl (by decide) (hy_ple rfl) rfl ?_
  refine hy_go hy_pfA oX6_stateOf [] 60 0 0 _ ?_
  refine And.intro hin ?_
  refine And.intro (fun q => ?_) (fun q => ?_)
  · rw [hcl] at q
    refine hy_cl (m_findOf N F S T C M (nI k) (by rw [zi_nI (by omega)]; omega) s c n hM) rfl ?_
    rintro o w1 ⟨r, rfl, hr, M', h1, h2, rfl⟩
    refine And.intro (fun q2 => ?_) (fun q2 => ?_)
    · refine And.intro hin ?_
      refine hy_fin ⟨?_, M', h1, h2, rfl⟩
      show sp_st s c (M.1 9) k (M'.1 9 (nI k).toNatClampNeg)
      rw [hcl, h1.1 9 (by decide) (by decide)]
      refine Or.inr ⟨?_, rfl⟩
      rintro ⟨-, f, hf⟩
      rcases hr with ⟨f', k', b1, b2, b3, b4⟩ | ⟨b1, b2⟩
      · have q2 := zi_lt.mp q2
        have : f' < 8 := Nat.lt_of_lt_of_le b3.1 hM.1.2.1
        rw [b4, zi_nI (by omega), zi_lit0] at q2; omega
      · exact b1 ⟨f, k, rfl, hk, hf⟩
    · refine hy_fin ⟨Or.inl ⟨q, ?_, rfl⟩, M', h1, h2, rfl⟩
      rcases hr with ⟨f', k', b1, b2, b3, b4⟩ | ⟨b1, b2⟩
      · have : k = k' := by
          have := congrArg Int32.toInt b1
          rw [zi_nI (by omega), zi_nI (by omega)] at this; omega
        exact ⟨f', this ▸ b3⟩
      · rw [b2] at q2; exact absurd (by decide) q2
  · rw [hcl] at q
    refine And.intro hin ?_
    refine hy_fin ⟨?_, M, scrM_refl M, hM, rfl⟩
    show sp_st s c (M.1 9) k (M.1 9 (nI k).toNatClampNeg)
    rw [hcl]
    exact Or.inr ⟨fun h => q h.1, rfl⟩
end
