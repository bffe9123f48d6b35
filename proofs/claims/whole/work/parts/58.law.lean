/-! ===== the law: each call of the script ===== -/
section
variable (L : Nat) (xs : Nat → Int32) (N F S T C M : hyB)
set_option maxRecDepth 100000 in
theorem w_salt (Q : hyQ) (i : Nat) (h1 : vp_in (nI i + 1) L) (h2 : vp_in (nI i + 2) L) (hr : rel N F S T C M) (K : ∀ N' F' S' T' C' M', rel N' F' S' T' C' M' → hy_X (some (L, xs)) 30 mL_law Q 0 0 (821, [some (.inr (.inr true)), some (hy_r 0), some (hy_r 30), some (.inl (nI i))], [], wW N' F' S' T' C' (wM M'))) : hy_X (some (L, xs)) 30 mL_law Q 0 0 (140, [some (.inr (.inr true)), some (hy_r 0), some (hy_r 30), some (.inl (nI i))], [], wW N F S T C (wM M)) := by
  obtain ⟨d1, Q1, y1, y2, y3⟩ := st_salt N F S T C M (xs (nI i + 1).toNatClampNeg) (xs (nI i + 2).toNatClampNeg) hr
  refine hy_go hy_pfA oL_law [821] 60 0 0 _ ?_
  refine And.intro h1 ?_
  refine And.intro h2 ?_
  refine hy_cl y1 (Nat.ble_eq.mpr (by omega)) ?_
  intro o w1 hq
  obtain ⟨x, N', F', S', T', C', rfl, rfl, d2, Q2, m1, m2, m3⟩ := y3 o w1 hq
  refine And.intro h1 ?_
  refine And.intro h2 ?_
  refine hy_cl m1 (Nat.ble_eq.mpr (by omega)) ?_
  intro o w2 hq
  obtain ⟨rfl, M', hr', rfl⟩ := m3 o w2 hq
  refine And.intro (fun _ => ?_) (fun q => absurd rfl q)
  exact K N' F' S' T' C' M' hr'
set_option maxRecDepth 100000 in
theorem w_ripens (Q : hyQ) (i : Nat) (h1 : vp_in (nI i + 1) L) (h2 : vp_in (nI i + 2) L) (hr : rel N F S T C M) (K : ∀ N' F' S' T' C' M', rel N' F' S' T' C' M' → hy_X (some (L, xs)) 30 mL_law Q 0 0 (821, [some (.inr (.inr true)), some (hy_r 0), some (hy_r 30), some (.inl (nI i))], [], wW N' F' S' T' C' (wM M'))) : hy_X (some (L, xs)) 30 mL_law Q 0 0 (173, [some (.inr (.inr true)), some (hy_r 0), some (hy_r 30), some (.inl (nI i))], [], wW N F S T C (wM M)) := by
  obtain ⟨d1, Q1, y1, y2, y3⟩ := st_ripens N F S T C M (xs (nI i + 1).toNatClampNeg) (xs (nI i + 2).toNatClampNeg) hr
  refine hy_go hy_pfA oL_law [821] 60 0 0 _ ?_
  refine And.intro h1 ?_
  refine And.intro h2 ?_
  refine hy_cl y1 (Nat.ble_eq.mpr (by omega)) ?_
  intro o w1 hq
  obtain ⟨x, N', F', S', T', C', rfl, rfl, d2, Q2, m1, m2, m3⟩ := y3 o w1 hq
  refine And.intro h1 ?_
  refine And.intro h2 ?_
  refine hy_cl m1 (Nat.ble_eq.mpr (by omega)) ?_
  intro o w2 hq
  obtain ⟨rfl, M', hr', rfl⟩ := m3 o w2 hq
  refine And.intro (fun _ => ?_) (fun q => absurd rfl q)
  exact K N' F' S' T' C' M' hr'
set_option maxRecDepth 100000 in
theorem w_net (Q : hyQ) (i : Nat) (h1 : vp_in (nI i + 1) L) (h2 : vp_in (nI i + 2) L) (h3 : vp_in (nI i + 3) L) (h4 : vp_in (nI i + 4) L) (hr : rel N F S T C M) (K : ∀ N' F' S' T' C' M', rel N' F' S' T' C' M' → hy_X (some (L, xs)) 30 mL_law Q 0 0 (821, [some (.inr (.inr true)), some (hy_r 0), some (hy_r 30), some (.inl (nI i))], [], wW N' F' S' T' C' (wM M'))) : hy_X (some (L, xs)) 30 mL_law Q 0 0 (206, [some (.inr (.inr true)), some (hy_r 0), some (hy_r 30), some (.inl (nI i))], [], wW N F S T C (wM M)) := by
  obtain ⟨d1, Q1, y1, y2, y3⟩ := st_net N F S T C M (xs (nI i + 1).toNatClampNeg) (xs (nI i + 2).toNatClampNeg) (xs (nI i + 3).toNatClampNeg) (xs (nI i + 4).toNatClampNeg) hr
  refine hy_go hy_pfA oL_law [821] 60 0 0 _ ?_
  refine And.intro h1 ?_
  refine And.intro h2 ?_
  refine And.intro h3 ?_
  refine And.intro h4 ?_
  refine hy_cl y1 (Nat.ble_eq.mpr (by omega)) ?_
  intro o w1 hq
  obtain ⟨x, N', F', S', T', C', rfl, rfl, d2, Q2, m1, m2, m3⟩ := y3 o w1 hq
  refine And.intro h1 ?_
  refine And.intro h2 ?_
  refine And.intro h3 ?_
  refine And.intro h4 ?_
  refine hy_cl m1 (Nat.ble_eq.mpr (by omega)) ?_
  intro o w2 hq
  obtain ⟨rfl, M', hr', rfl⟩ := m3 o w2 hq
  refine And.intro (fun _ => ?_) (fun q => absurd rfl q)
  exact K N' F' S' T' C' M' hr'
set_option maxRecDepth 100000 in
theorem w_weeks (Q : hyQ) (i : Nat) (h1 : vp_in (nI i + 1) L) (hr : rel N F S T C M) (K : ∀ N' F' S' T' C' M', rel N' F' S' T' C' M' → hy_X (some (L, xs)) 30 mL_law Q 0 0 (821, [some (.inr (.inr true)), some (hy_r 0), some (hy_r 30), some (.inl (nI i))], [], wW N' F' S' T' C' (wM M'))) : hy_X (some (L, xs)) 30 mL_law Q 0 0 (259, [some (.inr (.inr true)), some (hy_r 0), some (hy_r 30), some (.inl (nI i))], [], wW N F S T C (wM M)) := by
  obtain ⟨d1, Q1, y1, y2, y3⟩ := st_weeks N F S T C M (xs (nI i + 1).toNatClampNeg) hr
  refine hy_go hy_pfA oL_law [821] 60 0 0 _ ?_
  refine And.intro h1 ?_
  refine hy_cl y1 (Nat.ble_eq.mpr (by omega)) ?_
  intro o w1 hq
  obtain ⟨x, N', F', S', T', C', rfl, rfl, d2, Q2, m1, m2, m3⟩ := y3 o w1 hq
  refine And.intro h1 ?_
  refine hy_cl m1 (Nat.ble_eq.mpr (by omega)) ?_
  intro o w2 hq
  obtain ⟨rfl, M', hr', rfl⟩ := m3 o w2 hq
  refine And.intro (fun _ => ?_) (fun q => absurd rfl q)
  exact K N' F' S' T' C' M' hr'
set_option maxRecDepth 100000 in
theorem w_pull (Q : hyQ) (i : Nat) (h1 : vp_in (nI i + 1) L) (hr : rel N F S T C M) (K : ∀ N' F' S' T' C' M', rel N' F' S' T' C' M' → hy_X (some (L, xs)) 30 mL_law Q 0 0 (821, [some (.inr (.inr true)), some (hy_r 0), some (hy_r 30), some (.inl (nI i))], [], wW N' F' S' T' C' (wM M'))) : hy_X (some (L, xs)) 30 mL_law Q 0 0 (282, [some (.inr (.inr true)), some (hy_r 0), some (hy_r 30), some (.inl (nI i))], [], wW N F S T C (wM M)) := by
  obtain ⟨d1, Q1, y1, y2, y3⟩ := st_pull N F S T C M (xs (nI i + 1).toNatClampNeg) hr
  refine hy_go hy_pfA oL_law [821] 60 0 0 _ ?_
  refine And.intro h1 ?_
  refine hy_cl y1 (Nat.ble_eq.mpr (by omega)) ?_
  intro o w1 hq
  obtain ⟨x, N', F', S', T', C', rfl, rfl, d2, Q2, m1, m2, m3⟩ := y3 o w1 hq
  refine And.intro h1 ?_
  refine hy_cl m1 (Nat.ble_eq.mpr (by omega)) ?_
  intro o w2 hq
  obtain ⟨rfl, M', hr', rfl⟩ := m3 o w2 hq
  refine And.intro (fun _ => ?_) (fun q => absurd rfl q)
  exact K N' F' S' T' C' M' hr'
set_option maxRecDepth 100000 in
theorem w_flood (Q : hyQ) (i : Nat) (h1 : vp_in (nI i + 1) L) (hr : rel N F S T C M) (K : ∀ N' F' S' T' C' M', rel N' F' S' T' C' M' → hy_X (some (L, xs)) 30 mL_law Q 0 0 (821, [some (.inr (.inr true)), some (hy_r 0), some (hy_r 30), some (.inl (nI i))], [], wW N' F' S' T' C' (wM M'))) : hy_X (some (L, xs)) 30 mL_law Q 0 0 (305, [some (.inr (.inr true)), some (hy_r 0), some (hy_r 30), some (.inl (nI i))], [], wW N F S T C (wM M)) := by
  obtain ⟨d1, Q1, y1, y2, y3⟩ := st_flood N F S T C M (xs (nI i + 1).toNatClampNeg) hr
  refine hy_go hy_pfA oL_law [821] 60 0 0 _ ?_
  refine And.intro h1 ?_
  refine hy_cl y1 (Nat.ble_eq.mpr (by omega)) ?_
  intro o w1 hq
  obtain ⟨x, N', F', S', T', C', rfl, rfl, d2, Q2, m1, m2, m3⟩ := y3 o w1 hq
  refine And.intro h1 ?_
  refine hy_cl m1 (Nat.ble_eq.mpr (by omega)) ?_
  intro o w2 hq
  obtain ⟨rfl, M', hr', rfl⟩ := m3 o w2 hq
  refine And.intro (fun _ => ?_) (fun q => absurd rfl q)
  exact K N' F' S' T' C' M' hr'
set_option maxRecDepth 100000 in
theorem w_find (Q : hyQ) (i : Nat) (h1 : vp_in (nI i + 1) L) (h2 : vp_in (nI i + 2) L) (hr : rel N F S T C M) (K : ∀ N' F' S' T' C' M', rel N' F' S' T' C' M' → hy_X (some (L, xs)) 30 mL_law Q 0 0 (821, [some (.inr (.inr true)), some (hy_r 0), some (hy_r 30), some (.inl (nI i))], [], wW N' F' S' T' C' (wM M'))) : hy_X (some (L, xs)) 30 mL_law Q 0 0 (328, [some (.inr (.inr true)), some (hy_r 0), some (hy_r 30), some (.inl (nI i))], [], wW N F S T C (wM M)) := by
  obtain ⟨d1, Q1, y1, y2, y3⟩ := st_find N F S T C M (xs (nI i + 1).toNatClampNeg) (xs (nI i + 2).toNatClampNeg) hr
  refine hy_go hy_pfA oL_law [821] 60 0 0 _ ?_
  refine And.intro h1 ?_
  refine And.intro h2 ?_
  refine hy_cl y1 (Nat.ble_eq.mpr (by omega)) ?_
  intro o w1 hq
  obtain ⟨x, N', F', S', T', C', rfl, rfl, d2, Q2, m1, m2, m3⟩ := y3 o w1 hq
  refine And.intro h1 ?_
  refine And.intro h2 ?_
  refine hy_cl m1 (Nat.ble_eq.mpr (by omega)) ?_
  intro o w2 hq
  obtain ⟨rfl, M', hr', rfl⟩ := m3 o w2 hq
  refine And.intro (fun _ => ?_) (fun q => absurd rfl q)
  exact K N' F' S' T' C' M' hr'
set_option maxRecDepth 100000 in
theorem w_found (Q : hyQ) (i : Nat) (h1 : vp_in (nI i + 1) L) (h2 : vp_in (nI i + 2) L) (hr : rel N F S T C M) (K : ∀ N' F' S' T' C' M', rel N' F' S' T' C' M' → hy_X (some (L, xs)) 30 mL_law Q 0 0 (821, [some (.inr (.inr true)), some (hy_r 0), some (hy_r 30), some (.inl (nI i))], [], wW N' F' S' T' C' (wM M'))) : hy_X (some (L, xs)) 30 mL_law Q 0 0 (361, [some (.inr (.inr true)), some (hy_r 0), some (hy_r 30), some (.inl (nI i))], [], wW N F S T C (wM M)) := by
  obtain ⟨d1, Q1, y1, y2, y3⟩ := st_found N F S T C M (xs (nI i + 1).toNatClampNeg) (xs (nI i + 2).toNatClampNeg) hr
  refine hy_go hy_pfA oL_law [821] 60 0 0 _ ?_
  refine And.intro h1 ?_
  refine And.intro h2 ?_
  refine hy_cl y1 (Nat.ble_eq.mpr (by omega)) ?_
  intro o w1 hq
  obtain ⟨x, N', F', S', T', C', rfl, rfl, d2, Q2, m1, m2, m3⟩ := y3 o w1 hq
  refine And.intro h1 ?_
  refine And.intro h2 ?_
  refine hy_cl m1 (Nat.ble_eq.mpr (by omega)) ?_
  intro o w2 hq
  obtain ⟨rfl, M', hr', rfl⟩ := m3 o w2 hq
  refine And.intro (fun _ => ?_) (fun q => absurd rfl q)
  exact K N' F' S' T' C' M' hr'
set_option maxRecDepth 100000 in
theorem w_netOf (Q : hyQ) (i : Nat) (h1 : vp_in (nI i + 1) L) (h2 : vp_in (nI i + 2) L) (hr : rel N F S T C M) (K : ∀ N' F' S' T' C' M', rel N' F' S' T' C' M' → hy_X (some (L, xs)) 30 mL_law Q 0 0 (821, [some (.inr (.inr true)), some (hy_r 0), some (hy_r 30), some (.inl (nI i))], [], wW N' F' S' T' C' (wM M'))) : hy_X (some (L, xs)) 30 mL_law Q 0 0 (394, [some (.inr (.inr true)), some (hy_r 0), some (hy_r 30), some (.inl (nI i))], [], wW N F S T C (wM M)) := by
  obtain ⟨d1, Q1, y1, y2, y3⟩ := st_netOf N F S T C M (xs (nI i + 1).toNatClampNeg) (xs (nI i + 2).toNatClampNeg) hr
  refine hy_go hy_pfA oL_law [821] 60 0 0 _ ?_
  refine And.intro h1 ?_
  refine And.intro h2 ?_
  refine hy_cl y1 (Nat.ble_eq.mpr (by omega)) ?_
  intro o w1 hq
  obtain ⟨x, N', F', S', T', C', rfl, rfl, d2, Q2, m1, m2, m3⟩ := y3 o w1 hq
  refine And.intro h1 ?_
  refine And.intro h2 ?_
  refine hy_cl m1 (Nat.ble_eq.mpr (by omega)) ?_
  intro o w2 hq
  obtain ⟨rfl, M', hr', rfl⟩ := m3 o w2 hq
  refine And.intro (fun _ => ?_) (fun q => absurd rfl q)
  exact K N' F' S' T' C' M' hr'
set_option maxRecDepth 100000 in
theorem w_order (Q : hyQ) (i : Nat) (h1 : vp_in (nI i + 1) L) (h2 : vp_in (nI i + 2) L) (h3 : vp_in (nI i + 3) L) (h4 : vp_in (nI i + 4) L) (hr : rel N F S T C M) (K : ∀ N' F' S' T' C' M', rel N' F' S' T' C' M' → hy_X (some (L, xs)) 30 mL_law Q 0 0 (821, [some (.inr (.inr true)), some (hy_r 0), some (hy_r 30), some (.inl (nI i))], [], wW N' F' S' T' C' (wM M'))) : hy_X (some (L, xs)) 30 mL_law Q 0 0 (427, [some (.inr (.inr true)), some (hy_r 0), some (hy_r 30), some (.inl (nI i))], [], wW N F S T C (wM M)) := by
  obtain ⟨d1, Q1, y1, y2, y3⟩ := st_order N F S T C M (xs (nI i + 1).toNatClampNeg) (xs (nI i + 2).toNatClampNeg) (xs (nI i + 3).toNatClampNeg) (xs (nI i + 4).toNatClampNeg) hr
  refine hy_go hy_pfA oL_law [821] 60 0 0 _ ?_
  refine And.intro h1 ?_
  refine And.intro h2 ?_
  refine And.intro h3 ?_
  refine And.intro h4 ?_
  refine hy_cl y1 (Nat.ble_eq.mpr (by omega)) ?_
  intro o w1 hq
  obtain ⟨x, N', F', S', T', C', rfl, rfl, d2, Q2, m1, m2, m3⟩ := y3 o w1 hq
  refine And.intro h1 ?_
  refine And.intro h2 ?_
  refine And.intro h3 ?_
  refine And.intro h4 ?_
  refine hy_cl m1 (Nat.ble_eq.mpr (by omega)) ?_
  intro o w2 hq
  obtain ⟨rfl, M', hr', rfl⟩ := m3 o w2 hq
  refine And.intro (fun _ => ?_) (fun q => absurd rfl q)
  exact K N' F' S' T' C' M' hr'
set_option maxRecDepth 100000 in
theorem w_change (Q : hyQ) (i : Nat) (h1 : vp_in (nI i + 1) L) (hr : rel N F S T C M) (K : ∀ N' F' S' T' C' M', rel N' F' S' T' C' M' → hy_X (some (L, xs)) 30 mL_law Q 0 0 (821, [some (.inr (.inr true)), some (hy_r 0), some (hy_r 30), some (.inl (nI i))], [], wW N' F' S' T' C' (wM M'))) : hy_X (some (L, xs)) 30 mL_law Q 0 0 (480, [some (.inr (.inr true)), some (hy_r 0), some (hy_r 30), some (.inl (nI i))], [], wW N F S T C (wM M)) := by
  obtain ⟨d1, Q1, y1, y2, y3⟩ := st_change N F S T C M (xs (nI i + 1).toNatClampNeg) hr
  refine hy_go hy_pfA oL_law [821] 60 0 0 _ ?_
  refine And.intro h1 ?_
  refine hy_cl y1 (Nat.ble_eq.mpr (by omega)) ?_
  intro o w1 hq
  obtain ⟨x, N', F', S', T', C', rfl, rfl, d2, Q2, m1, m2, m3⟩ := y3 o w1 hq
  refine And.intro h1 ?_
  refine hy_cl m1 (Nat.ble_eq.mpr (by omega)) ?_
  intro o w2 hq
  obtain ⟨rfl, M', hr', rfl⟩ := m3 o w2 hq
  refine And.intro (fun _ => ?_) (fun q => absurd rfl q)
  exact K N' F' S' T' C' M' hr'
set_option maxRecDepth 100000 in
theorem w_late (Q : hyQ) (i : Nat)  (hr : rel N F S T C M) (K : ∀ N' F' S' T' C' M', rel N' F' S' T' C' M' → hy_X (some (L, xs)) 30 mL_law Q 0 0 (821, [some (.inr (.inr true)), some (hy_r 0), some (hy_r 30), some (.inl (nI i))], [], wW N' F' S' T' C' (wM M'))) : hy_X (some (L, xs)) 30 mL_law Q 0 0 (503, [some (.inr (.inr true)), some (hy_r 0), some (hy_r 30), some (.inl (nI i))], [], wW N F S T C (wM M)) := by
  obtain ⟨d1, Q1, y1, y2, y3⟩ := st_late N F S T C M  hr
  refine hy_go hy_pfA oL_law [821] 60 0 0 _ ?_
  refine hy_cl y1 (Nat.ble_eq.mpr (by omega)) ?_
  intro o w1 hq
  obtain ⟨x, N', F', S', T', C', rfl, rfl, d2, Q2, m1, m2, m3⟩ := y3 o w1 hq
  refine hy_cl m1 (Nat.ble_eq.mpr (by omega)) ?_
  intro o w2 hq
  obtain ⟨rfl, M', hr', rfl⟩ := m3 o w2 hq
  refine And.intro (fun _ => ?_) (fun q => absurd rfl q)
  exact K N' F' S' T' C' M' hr'
set_option maxRecDepth 100000 in
theorem w_spun (Q : hyQ) (i : Nat) (h1 : vp_in (nI i + 1) L) (h2 : vp_in (nI i + 2) L) (hr : rel N F S T C M) (K : ∀ N' F' S' T' C' M', rel N' F' S' T' C' M' → hy_X (some (L, xs)) 30 mL_law Q 0 0 (821, [some (.inr (.inr true)), some (hy_r 0), some (hy_r 30), some (.inl (nI i))], [], wW N' F' S' T' C' (wM M'))) : hy_X (some (L, xs)) 30 mL_law Q 0 0 (516, [some (.inr (.inr true)), some (hy_r 0), some (hy_r 30), some (.inl (nI i))], [], wW N F S T C (wM M)) := by
  obtain ⟨d1, Q1, y1, y2, y3⟩ := st_spun N F S T C M (xs (nI i + 1).toNatClampNeg) (xs (nI i + 2).toNatClampNeg) hr
  refine hy_go hy_pfA oL_law [821] 60 0 0 _ ?_
  refine And.intro h1 ?_
  refine And.intro h2 ?_
  refine hy_cl y1 (Nat.ble_eq.mpr (by omega)) ?_
  intro o w1 hq
  obtain ⟨x, N', F', S', T', C', rfl, rfl, d2, Q2, m1, m2, m3⟩ := y3 o w1 hq
  refine And.intro h1 ?_
  refine And.intro h2 ?_
  refine hy_cl m1 (Nat.ble_eq.mpr (by omega)) ?_
  intro o w2 hq
  obtain ⟨rfl, M', hr', rfl⟩ := m3 o w2 hq
  refine And.intro (fun _ => ?_) (fun q => absurd rfl q)
  exact K N' F' S' T' C' M' hr'
set_option maxRecDepth 100000 in
theorem w_clear (Q : hyQ) (i : Nat)  (hr : rel N F S T C M) (K : ∀ N' F' S' T' C' M', rel N' F' S' T' C' M' → hy_X (some (L, xs)) 30 mL_law Q 0 0 (821, [some (.inr (.inr true)), some (hy_r 0), some (hy_r 30), some (.inl (nI i))], [], wW N' F' S' T' C' (wM M'))) : hy_X (some (L, xs)) 30 mL_law Q 0 0 (549, [some (.inr (.inr true)), some (hy_r 0), some (hy_r 30), some (.inl (nI i))], [], wW N F S T C (wM M)) := by
  obtain ⟨d1, Q1, y1, y2, y3⟩ := st_clear N F S T C M  hr
  refine hy_go hy_pfA oL_law [821] 60 0 0 _ ?_
  refine hy_cl y1 (Nat.ble_eq.mpr (by omega)) ?_
  intro o w1 hq
  obtain ⟨x, N', F', S', T', C', rfl, rfl, d2, Q2, m1, m2, m3⟩ := y3 o w1 hq
  refine hy_cl m1 (Nat.ble_eq.mpr (by omega)) ?_
  intro o w2 hq
  obtain ⟨rfl, M', hr', rfl⟩ := m3 o w2 hq
  refine And.intro (fun _ => ?_) (fun q => absurd rfl q)
  exact K N' F' S' T' C' M' hr'
set_option maxRecDepth 100000 in
theorem w_roll (Q : hyQ) (i : Nat) (h1 : vp_in (nI i + 1) L) (h2 : vp_in (nI i + 2) L) (hr : rel N F S T C M) (K : ∀ N' F' S' T' C' M', rel N' F' S' T' C' M' → hy_X (some (L, xs)) 30 mL_law Q 0 0 (821, [some (.inr (.inr true)), some (hy_r 0), some (hy_r 30), some (.inl (nI i))], [], wW N' F' S' T' C' (wM M'))) : hy_X (some (L, xs)) 30 mL_law Q 0 0 (562, [some (.inr (.inr true)), some (hy_r 0), some (hy_r 30), some (.inl (nI i))], [], wW N F S T C (wM M)) := by
  obtain ⟨d1, Q1, y1, y2, y3⟩ := st_roll N F S T C M (xs (nI i + 1).toNatClampNeg) (xs (nI i + 2).toNatClampNeg) hr
  refine hy_go hy_pfA oL_law [821] 60 0 0 _ ?_
  refine And.intro h1 ?_
  refine And.intro h2 ?_
  refine hy_cl y1 (Nat.ble_eq.mpr (by omega)) ?_
  intro o w1 hq
  obtain ⟨x, N', F', S', T', C', rfl, rfl, d2, Q2, m1, m2, m3⟩ := y3 o w1 hq
  refine And.intro h1 ?_
  refine And.intro h2 ?_
  refine hy_cl m1 (Nat.ble_eq.mpr (by omega)) ?_
  intro o w2 hq
  obtain ⟨rfl, M', hr', rfl⟩ := m3 o w2 hq
  refine And.intro (fun _ => ?_) (fun q => absurd rfl q)
  exact K N' F' S' T' C' M' hr'
set_option maxRecDepth 100000 in
theorem w_cut (Q : hyQ) (i : Nat) (h1 : vp_in (nI i + 1) L) (h2 : vp_in (nI i + 2) L) (hr : rel N F S T C M) (K : ∀ N' F' S' T' C' M', rel N' F' S' T' C' M' → hy_X (some (L, xs)) 30 mL_law Q 0 0 (821, [some (.inr (.inr true)), some (hy_r 0), some (hy_r 30), some (.inl (nI i))], [], wW N' F' S' T' C' (wM M'))) : hy_X (some (L, xs)) 30 mL_law Q 0 0 (595, [some (.inr (.inr true)), some (hy_r 0), some (hy_r 30), some (.inl (nI i))], [], wW N F S T C (wM M)) := by
  obtain ⟨d1, Q1, y1, y2, y3⟩ := st_cut N F S T C M (xs (nI i + 1).toNatClampNeg) (xs (nI i + 2).toNatClampNeg) hr
  refine hy_go hy_pfA oL_law [821] 60 0 0 _ ?_
  refine And.intro h1 ?_
  refine And.intro h2 ?_
  refine hy_cl y1 (Nat.ble_eq.mpr (by omega)) ?_
  intro o w1 hq
  obtain ⟨x, N', F', S', T', C', rfl, rfl, d2, Q2, m1, m2, m3⟩ := y3 o w1 hq
  refine And.intro h1 ?_
  refine And.intro h2 ?_
  refine hy_cl m1 (Nat.ble_eq.mpr (by omega)) ?_
  intro o w2 hq
  obtain ⟨rfl, M', hr', rfl⟩ := m3 o w2 hq
  refine And.intro (fun _ => ?_) (fun q => absurd rfl q)
  exact K N' F' S' T' C' M' hr'
set_option maxRecDepth 100000 in
theorem w_opened (Q : hyQ) (i : Nat)  (hr : rel N F S T C M) (K : ∀ N' F' S' T' C' M', rel N' F' S' T' C' M' → hy_X (some (L, xs)) 30 mL_law Q 0 0 (821, [some (.inr (.inr true)), some (hy_r 0), some (hy_r 30), some (.inl (nI i))], [], wW N' F' S' T' C' (wM M'))) : hy_X (some (L, xs)) 30 mL_law Q 0 0 (628, [some (.inr (.inr true)), some (hy_r 0), some (hy_r 30), some (.inl (nI i))], [], wW N F S T C (wM M)) := by
  obtain ⟨d1, Q1, y1, y2, y3⟩ := st_opened N F S T C M  hr
  refine hy_go hy_pfA oL_law [821] 60 0 0 _ ?_
  refine hy_cl y1 (Nat.ble_eq.mpr (by omega)) ?_
  intro o w1 hq
  obtain ⟨x, N', F', S', T', C', rfl, rfl, d2, Q2, m1, m2, m3⟩ := y3 o w1 hq
  refine hy_cl m1 (Nat.ble_eq.mpr (by omega)) ?_
  intro o w2 hq
  obtain ⟨rfl, M', hr', rfl⟩ := m3 o w2 hq
  refine And.intro (fun _ => ?_) (fun q => absurd rfl q)
  exact K N' F' S' T' C' M' hr'
set_option maxRecDepth 100000 in
theorem w_from (Q : hyQ) (i : Nat) (h1 : vp_in (nI i + 1) L) (hr : rel N F S T C M) (K : ∀ N' F' S' T' C' M', rel N' F' S' T' C' M' → hy_X (some (L, xs)) 30 mL_law Q 0 0 (821, [some (.inr (.inr true)), some (hy_r 0), some (hy_r 30), some (.inl (nI i))], [], wW N' F' S' T' C' (wM M'))) : hy_X (some (L, xs)) 30 mL_law Q 0 0 (641, [some (.inr (.inr true)), some (hy_r 0), some (hy_r 30), some (.inl (nI i))], [], wW N F S T C (wM M)) := by
  obtain ⟨d1, Q1, y1, y2, y3⟩ := st_from N F S T C M (xs (nI i + 1).toNatClampNeg) hr
  refine hy_go hy_pfA oL_law [821] 60 0 0 _ ?_
  refine And.intro h1 ?_
  refine hy_cl y1 (Nat.ble_eq.mpr (by omega)) ?_
  intro o w1 hq
  obtain ⟨x, N', F', S', T', C', rfl, rfl, d2, Q2, m1, m2, m3⟩ := y3 o w1 hq
  refine And.intro h1 ?_
  refine hy_cl m1 (Nat.ble_eq.mpr (by omega)) ?_
  intro o w2 hq
  obtain ⟨rfl, M', hr', rfl⟩ := m3 o w2 hq
  refine And.intro (fun _ => ?_) (fun q => absurd rfl q)
  exact K N' F' S' T' C' M' hr'
set_option maxRecDepth 100000 in
theorem w_away (Q : hyQ) (i : Nat)  (hr : rel N F S T C M) (K : ∀ N' F' S' T' C' M', rel N' F' S' T' C' M' → hy_X (some (L, xs)) 30 mL_law Q 0 0 (821, [some (.inr (.inr true)), some (hy_r 0), some (hy_r 30), some (.inl (nI i))], [], wW N' F' S' T' C' (wM M'))) : hy_X (some (L, xs)) 30 mL_law Q 0 0 (664, [some (.inr (.inr true)), some (hy_r 0), some (hy_r 30), some (.inl (nI i))], [], wW N F S T C (wM M)) := by
  obtain ⟨d1, Q1, y1, y2, y3⟩ := st_away N F S T C M  hr
  refine hy_go hy_pfA oL_law [821] 60 0 0 _ ?_
  refine hy_cl y1 (Nat.ble_eq.mpr (by omega)) ?_
  intro o w1 hq
  obtain ⟨x, N', F', S', T', C', rfl, rfl, d2, Q2, m1, m2, m3⟩ := y3 o w1 hq
  refine hy_cl m1 (Nat.ble_eq.mpr (by omega)) ?_
  intro o w2 hq
  obtain ⟨rfl, M', hr', rfl⟩ := m3 o w2 hq
  refine And.intro (fun _ => ?_) (fun q => absurd rfl q)
  exact K N' F' S' T' C' M' hr'
set_option maxRecDepth 100000 in
theorem w_reading (Q : hyQ) (i : Nat) (h1 : vp_in (nI i + 1) L) (h2 : vp_in (nI i + 2) L) (hr : rel N F S T C M) (K : ∀ N' F' S' T' C' M', rel N' F' S' T' C' M' → hy_X (some (L, xs)) 30 mL_law Q 0 0 (821, [some (.inr (.inr true)), some (hy_r 0), some (hy_r 30), some (.inl (nI i))], [], wW N' F' S' T' C' (wM M'))) : hy_X (some (L, xs)) 30 mL_law Q 0 0 (677, [some (.inr (.inr true)), some (hy_r 0), some (hy_r 30), some (.inl (nI i))], [], wW N F S T C (wM M)) := by
  obtain ⟨d1, Q1, y1, y2, y3⟩ := st_reading N F S T C M (xs (nI i + 1).toNatClampNeg) (xs (nI i + 2).toNatClampNeg) hr
  refine hy_go hy_pfA oL_law [821] 60 0 0 _ ?_
  refine And.intro h1 ?_
  refine And.intro h2 ?_
  refine hy_cl y1 (Nat.ble_eq.mpr (by omega)) ?_
  intro o w1 hq
  obtain ⟨x, N', F', S', T', C', rfl, rfl, d2, Q2, m1, m2, m3⟩ := y3 o w1 hq
  refine And.intro h1 ?_
  refine And.intro h2 ?_
  refine hy_cl m1 (Nat.ble_eq.mpr (by omega)) ?_
  intro o w2 hq
  obtain ⟨rfl, M', hr', rfl⟩ := m3 o w2 hq
  refine And.intro (fun _ => ?_) (fun q => absurd rfl q)
  exact K N' F' S' T' C' M' hr'
set_option maxRecDepth 100000 in
theorem w_errs (Q : hyQ) (i : Nat) (h1 : vp_in (nI i + 1) L) (hr : rel N F S T C M) (K : ∀ N' F' S' T' C' M', rel N' F' S' T' C' M' → hy_X (some (L, xs)) 30 mL_law Q 0 0 (821, [some (.inr (.inr true)), some (hy_r 0), some (hy_r 30), some (.inl (nI i))], [], wW N' F' S' T' C' (wM M'))) : hy_X (some (L, xs)) 30 mL_law Q 0 0 (710, [some (.inr (.inr true)), some (hy_r 0), some (hy_r 30), some (.inl (nI i))], [], wW N F S T C (wM M)) := by
  refine hy_go hy_pfA oL_law [821] 60 0 0 _ ?_
  refine And.intro h1 ?_
  refine And.intro (fun q => ?_) (fun q => ?_)
  · obtain ⟨d1, Q1, y1, y2, y3⟩ := st_errs N F S T C M 0 hr
    refine hy_cl y1 (Nat.ble_eq.mpr (by omega)) ?_
    intro o w1 hq
    obtain ⟨x, N', F', S', T', C', rfl, rfl, d2, Q2, m1, m2, m3⟩ := y3 o w1 hq
    refine And.intro h1 ?_
    refine And.intro (fun _ => ?_) (fun q' => absurd q q')
    refine hy_cl m1 (Nat.ble_eq.mpr (by omega)) ?_
    intro o w2 hq
    obtain ⟨rfl, M', hr', rfl⟩ := m3 o w2 hq
    refine And.intro (fun _ => ?_) (fun q => absurd rfl q)
    exact K N' F' S' T' C' M' hr'
  · obtain ⟨d1, Q1, y1, y2, y3⟩ := st_errs N F S T C M 1 hr
    refine hy_cl y1 (Nat.ble_eq.mpr (by omega)) ?_
    intro o w1 hq
    obtain ⟨x, N', F', S', T', C', rfl, rfl, d2, Q2, m1, m2, m3⟩ := y3 o w1 hq
    refine And.intro h1 ?_
    refine And.intro (fun q' => absurd q' q) (fun _ => ?_)
    refine hy_cl m1 (Nat.ble_eq.mpr (by omega)) ?_
    intro o w2 hq
    obtain ⟨rfl, M', hr', rfl⟩ := m3 o w2 hq
    refine And.intro (fun _ => ?_) (fun q => absurd rfl q)
    exact K N' F' S' T' C' M' hr'
set_option maxRecDepth 100000 in
theorem w_back (Q : hyQ) (i : Nat) (h1 : vp_in (nI i + 1) L) (h2 : vp_in (nI i + 2) L) (hr : rel N F S T C M) (K : ∀ N' F' S' T' C' M', rel N' F' S' T' C' M' → hy_X (some (L, xs)) 30 mL_law Q 0 0 (821, [some (.inr (.inr true)), some (hy_r 0), some (hy_r 30), some (.inl (nI i))], [], wW N' F' S' T' C' (wM M'))) : hy_X (some (L, xs)) 30 mL_law Q 0 0 (749, [some (.inr (.inr true)), some (hy_r 0), some (hy_r 30), some (.inl (nI i))], [], wW N F S T C (wM M)) := by
  refine hy_go hy_pfA oL_law [821] 60 0 0 _ ?_
  refine And.intro h1 ?_
  refine And.intro h2 ?_
  refine And.intro (fun q => ?_) (fun q => ?_)
  · obtain ⟨d1, Q1, y1, y2, y3⟩ := st_back N F S T C M (xs (nI i + 1).toNatClampNeg) 0 hr
    refine hy_cl y1 (Nat.ble_eq.mpr (by omega)) ?_
    intro o w1 hq
    obtain ⟨x, N', F', S', T', C', rfl, rfl, d2, Q2, m1, m2, m3⟩ := y3 o w1 hq
    refine And.intro h1 ?_
    refine And.intro h2 ?_
    refine And.intro (fun _ => ?_) (fun q' => absurd q q')
    refine hy_cl m1 (Nat.ble_eq.mpr (by omega)) ?_
    intro o w2 hq
    obtain ⟨rfl, M', hr', rfl⟩ := m3 o w2 hq
    refine And.intro (fun _ => ?_) (fun q => absurd rfl q)
    exact K N' F' S' T' C' M' hr'
  · obtain ⟨d1, Q1, y1, y2, y3⟩ := st_back N F S T C M (xs (nI i + 1).toNatClampNeg) 1 hr
    refine hy_cl y1 (Nat.ble_eq.mpr (by omega)) ?_
    intro o w1 hq
    obtain ⟨x, N', F', S', T', C', rfl, rfl, d2, Q2, m1, m2, m3⟩ := y3 o w1 hq
    refine And.intro h1 ?_
    refine And.intro h2 ?_
    refine And.intro (fun q' => absurd q' q) (fun _ => ?_)
    refine hy_cl m1 (Nat.ble_eq.mpr (by omega)) ?_
    intro o w2 hq
    obtain ⟨rfl, M', hr', rfl⟩ := m3 o w2 hq
    refine And.intro (fun _ => ?_) (fun q => absurd rfl q)
    exact K N' F' S' T' C' M' hr'
set_option maxRecDepth 100000 in
theorem w_about (Q : hyQ) (i : Nat) (h1 : vp_in (nI i + 1) L) (hr : rel N F S T C M) (K : ∀ N' F' S' T' C' M', rel N' F' S' T' C' M' → hy_X (some (L, xs)) 30 mL_law Q 0 0 (821, [some (.inr (.inr true)), some (hy_r 0), some (hy_r 30), some (.inl (nI i))], [], wW N' F' S' T' C' (wM M'))) : hy_X (some (L, xs)) 30 mL_law Q 0 0 (798, [some (.inr (.inr true)), some (hy_r 0), some (hy_r 30), some (.inl (nI i))], [], wW N F S T C (wM M)) := by
  obtain ⟨d1, Q1, y1, y2, y3⟩ := st_about N F S T C M (xs (nI i + 1).toNatClampNeg) hr
  refine hy_go hy_pfA oL_law [821] 60 0 0 _ ?_
  refine And.intro h1 ?_
  refine hy_cl y1 (Nat.ble_eq.mpr (by omega)) ?_
  intro o w1 hq
  obtain ⟨x, N', F', S', T', C', rfl, rfl, d2, Q2, m1, m2, m3⟩ := y3 o w1 hq
  refine And.intro h1 ?_
  refine hy_cl m1 (Nat.ble_eq.mpr (by omega)) ?_
  intro o w2 hq
  obtain ⟨rfl, M', hr', rfl⟩ := m3 o w2 hq
  refine And.intro (fun _ => ?_) (fun q => absurd rfl q)
  exact K N' F' S' T' C' M' hr'
end
