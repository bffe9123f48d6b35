/-! ===== calls ===== -/
theorem hy_good {ws : List Cond} (h : ∀ w ∈ ws, w ∈ hy_tt) : GoodIn hy_tt ws := fun w hw => ⟨h w hw, good_of_word (List.mem_filter.mp (h w hw)).2⟩
theorem hy_ws_in {M : hyM} (h : Cond.code M.1 M.2.1 M.2.2.1 M.2.2.2 ∈ hy_tt) : ∀ w ∈ hy_ws M, w ∈ hy_tt := fun w hw => (List.mem_cons.mp hw).elim (fun e => e ▸ h) id
abbrev hy_Pc (dC : Nat → ClassId) (dI : Nat → Nat → Nat) (b : Nat) (ρ : Nat → Nat) (κ : Nat → ClassId) (sz : Nat) (as : List hyV) (w : hyW) : Array Value → State → Prop := va_Pc (as.map (hy_v b ρ)) (fun U => U.heap.size = sz ∧ hy_U dC dI b ρ κ (fun _ => True) w U U.heap ∧ ∀ x ∈ hy_nw, va_Nw x U)
theorem hy_blind {dC : Nat → ClassId} {dI : Nat → Nat → Nat} {b : Nat} {ρ : Nat → Nat} {κ : Nat → ClassId} {sz : Nat} {as : List hyV} {w : hyW} : FrameBlind (hy_Pc dC dI b ρ κ sz as w) := by
  intro a U g mk q
  obtain ⟨q0, q1, ⟨q2, q3, q4⟩, q5⟩ := q
  exact ⟨q0, q1, ⟨q2, q3, hy_K_moved (u := U) (U := U.calling g mk a) (Vm.Alike.refl U.vm) q4⟩, hy_nw_same (s := U) (U := U.calling g mk a) rfl q5⟩
theorem hy_pre {dC : Nat → ClassId} {dI : Nat → Nat → Nat} {b : Nat} {ρ : Nat → Nat} {κ : Nat → ClassId} {as : List hyV} {w : hyW} {s : State} {H : Heap} {A : Nat → Prop} (h : hy_U dC dI b ρ κ A w s H) (hn : ∀ x ∈ hy_nw, va_Nw x s) : ∀ U : State, U.heap = H → s.WarmedH U.vm → hy_Pc dC dI b ρ κ H.size as w (as.map (hy_v b ρ)).toArray U := by
  intro U hU hW
  exact ⟨rfl, by rw [hU], ⟨by rw [hU]; exact h.1, h.2.1.weaken (fun _ _ _ _ => trivial), hy_K_moved hW.alike h.2.2⟩, hy_nw_warm hW hn⟩
theorem hy_free {dC : Nat → ClassId} {dI : Nat → Nat → Nat} {b : Nat} {ρ : Nat → Nat} {κ : Nat → ClassId} {w : hyW} {s : State} {H : Heap} {A : Nat → Prop} {locs : List Loc} (h : hy_U dC dI b ρ κ A w s H) (hS : va_S A s.heap H locs) (hA : ∀ q, s.heap.size ≤ q → A q) : ∀ q, va_A (hy_w b ρ κ w) H.size q → A q := by
  rintro q (⟨k, e, hk⟩ | hq)
  · exact h.2.1.2 k _ hk
  · exact hA q (Nat.le_trans hS.1 hq)
/-- what a call instruction does, of whatever kind: the callee's contract is run -/
def hy_run (M Mc : hyM) (d' mc ms pc : Nat) (L : hyL) (st st' as : List hyV) (w : hyW) : Prop :=
  ∀ (p : Program) (l : Launch) (e : Env) (R : Room) (s : State) (m : MethodId) (args : Array Value) (below : List Frame) (meth : Method) (c : Code) (A : Nat → Prop) (dC : Nat → ClassId) (dI : Nat → Nat → Nat) (b : Nat) (ρ : Nat → Nat) (κ : Nat → ClassId) (H : Heap) (locs : List Loc) (cells slots : Nat) (ls : Array Slot) (Qc : Array Value → State → Outcome → State → Prop) (free : Addr → Prop),
    hy_cx M p s m args meth c A → d' + 1 ≤ R.frames → 40 * (d' + 2) ≤ R.locals → cells + mc ≤ R.cells → slots + ms ≤ R.slots → hy_lr b ρ M.2.2.1 L ls → hy_U dC dI b ρ κ A w s H →
    Met l Mc.1 (hy_ws Mc) (hy_rm d' mc ms) (hy_Pc dC dI b ρ κ H.size as w) Qc mc ms free →
    va_Run p l e R s m args below meth c H locs cells slots mc ms (F0 m pc ls (st.map (hy_v b ρ))) (st'.map (hy_v b ρ)) (Qc (as.map (hy_v b ρ)).toArray) free
theorem hy_plain_ok {y : MethodName} {n : Nat} (h : hy_plain y n = true) : y.cls ≠ "java/lang/invoke/MethodHandle" ∧ y.cls ≠ "java/lang/invoke/VarHandle" ∧ (parseMethodDescriptor y.desc).map (fun d => d.parameters.length) = some n := by
  simp only [hy_plain, Bool.and_eq_true, decide_eq_true_eq] at h
  exact ⟨h.1.1, h.1.2, h.2⟩
theorem hy_mok_ok {M : hyM} {n : Nat} (h : hy_mok M n = true) : (M.1.cls ≠ "java/lang/invoke/MethodHandle" ∧ M.1.cls ≠ "java/lang/invoke/VarHandle" ∧ (parseMethodDescriptor M.1.desc).map (fun d => d.parameters.length) = some n) ∧ M.2.2.1 ≤ 20 ∧ Cond.code M.1 M.2.1 M.2.2.1 M.2.2.2 ∈ hy_tt ∧ Cond.initialized M.1.cls ∈ hy_tt := by
  simp only [hy_mok, Bool.and_eq_true, decide_eq_true_eq] at h
  exact ⟨hy_plain_ok h.1.1.1, h.1.1.2, hy_inT_mem h.1.2, hy_inT_mem h.2⟩
theorem hy_room_st {m : MethodId} {pc : Nat} {ls : Array Slot} {rest : List Value} {b : Nat} {ρ : Nat → Nat} {st : List hyV} (h : st.length ≤ 8) : 2 * (F0 m pc ls rest).monitorRoom + ((st.map (hy_v b ρ)).map fun v => v.category).sum ≤ 8 := by
  refine lv_room ?_
  have : (st.map (hy_v b ρ)).map (fun v => v.category) = List.replicate st.length 1 := by
    rw [List.map_map]
    apply List.ext_getElem?
    intro i
    rw [List.getElem?_map, List.getElem?_replicate]
    cases hi : st[i]? with
    | none => rw [if_neg (by rw [List.getElem?_eq_none_iff] at hi; omega)]; rfl
    | some x => rw [if_pos (List.getElem?_eq_some_iff.mp hi).1]; simp [hy_v_cat]
  rw [this, List.sum_replicate_nat]
  omega
theorem hy_runS {M Mc : hyM} {d' mc ms pc i n : Nat} {L : hyL} {st' as : List hyV} {w : hyW} (hd : decode M.2.1 pc = .ok (.invokestatic i, 3)) (hm : hy_mok Mc n = true) (hs : Cond.static Mc.1 ∈ hy_tt) (hl : Cond.methodLink M.1.cls i Mc.1 ∈ hy_tt) (hn : as.length = n) (h8 : st'.length ≤ 8) : hy_run M Mc d' mc ms pc L (as.reverse ++ st') st' as w := by
  intro p l e R s m args below meth c A dC dI b ρ κ H locs cells slots ls Qc free a1 a2 a3 a4 a5 a6 a7 hM
  obtain ⟨m1, m2, m3, m4⟩ := hy_mok_ok hm
  refine va_runS (As := as.map (hy_v b ρ)) (Ts := hy_tt) (own := M.1.cls) ⟨a1.1, a1.2.1, a1.2.2.1, a1.2.2.2.1, a1.2.2.2.2.1⟩ hM (va_cwS n a1.2.2.2.2.1 (hy_good (fun x hx => ?_)) rfl rfl rfl m1 ⟨a2, ?_⟩) ⟨hy_blind, hy_pre a7 a1.2.2.2.2.2.1⟩ rfl (by rw [List.length_map]; exact hn) a6.1 (by simp) (hy_room_st h8) hd ⟨a4, a5⟩
  · rcases List.mem_append.mp hx with h | h
    · simp only [List.mem_cons, List.not_mem_nil, or_false] at h
      rcases h with rfl | rfl | rfl
      · exact hl
      · exact hs
      · exact m4
    · exact hy_ws_in m3 x h
  · show 8 + (Mc.2.2.1 + 11) + 40 * (d' + 1) ≤ R.locals
    omega
theorem hy_runSN {M Mc : hyM} {d' mc ms pc i n : Nat} {L : hyL} {st' as : List hyV} {w : hyW} (hd : decode M.2.1 pc = .ok (.invokestatic i, 3)) (hm : hy_mok Mc n = true) (hs : Cond.static Mc.1 ∈ hy_tt) (hl : Cond.methodLinkNest M.1.cls i Mc.1 "HuskYard" ∈ hy_nw) (hn : as.length = n) (h8 : st'.length ≤ 8) : hy_run M Mc d' mc ms pc L (as.reverse ++ st') st' as w := by
  intro p l e R s m args below meth c A dC dI b ρ κ H locs cells slots ls Qc free a1 a2 a3 a4 a5 a6 a7 hM
  obtain ⟨m1, m2, m3, m4⟩ := hy_mok_ok hm
  refine va_runSN (As := as.map (hy_v b ρ)) (Ts := hy_tt) (own := M.1.cls) ⟨a1.1, a1.2.1, a1.2.2.1, a1.2.2.2.1, a1.2.2.2.2.1⟩ hM ⟨va_cnB n a1.2.2.2.2.1 (hy_good (hy_ws_in m3)) rfl rfl rfl (a1.2.2.2.2.2.1 _ hl) (a1.2.2.2.2.1 _ m4) m1 ⟨a2, ?_⟩, a1.2.2.2.2.1 _ hs, trivial⟩ ⟨hy_blind, hy_pre a7 a1.2.2.2.2.2.1⟩ rfl (by rw [List.length_map]; exact hn) a6.1 (by simp) (hy_room_st h8) hd ⟨a4, a5⟩
  show 8 + (Mc.2.2.1 + 11) + 40 * (d' + 1) ≤ R.locals
  omega
theorem hy_runV {M Mc : hyM} {d' mc ms pc i n k a : Nat} {L : hyL} {st' as : List hyV} {w : hyW} {C : String} {T : u_T} {N : Nat} {fs : List hyV} (hd : decode M.2.1 pc = .ok (.invokevirtual i, 3)) (hm : hy_mok Mc n = true) (hc : vwCl[a]? = some (C, T, N)) (hC : C = Mc.1.cls) (h1 : Cond.instanceMethod Mc.1 ∈ hy_tt) (h2 : Cond.selects C Mc.1 Mc.1 ∈ hy_tt) (hl : Cond.methodLink M.1.cls i Mc.1 ∈ hy_tt) (hw : w[k]? = some (.inr (a, fs))) (hn : as.length = n) (h8 : st'.length ≤ 8) : hy_run M Mc d' mc ms pc L ((.inr (.inl k) :: as).reverse ++ st') st' (.inr (.inl k) :: as) w := by
  intro p l e R s m args below meth c A dC dI b ρ κ H locs cells slots ls Qc free a1 a2 a3 a4 a5 a6 a7 hM
  obtain ⟨m1, m2, m3, m4⟩ := hy_mok_ok hm
  refine va_runV (C := C) (b := ρ k) (As := as.map (hy_v b ρ)) (Ts := hy_tt) (own := M.1.cls) ⟨a1.1, a1.2.1, a1.2.2.1, a1.2.2.2.1, a1.2.2.2.2.1⟩ hM (cwV n a1.2.2.2.2.1 (hy_good (fun x hx => ?_)) rfl rfl rfl ⟨hC.symm, m1⟩ ⟨a2, ?_⟩) ⟨hy_blind, va_recv a7.2.2.1 a7.1 hc (hy_w_at hw), hy_pre a7 a1.2.2.2.2.2.1⟩ rfl (by rw [List.length_map]; exact hn) a6.1 (by simp [hy_v]) (hy_room_st h8) hd ⟨a4, a5⟩
  · rcases List.mem_append.mp hx with h | h
    · simp only [List.mem_cons, List.not_mem_nil, or_false] at h
      rcases h with rfl | rfl | rfl | rfl
      · exact hl
      · exact h1
      · exact h2
      · rw [hC]; exact m4
    · exact hy_ws_in m3 x h
  · show 8 + (Mc.2.2.1 + 11) + 40 * (d' + 1) ≤ R.locals
    omega
theorem hy_runI {M Mc : hyM} {d' mc ms pc i n k : Nat} {L : hyL} {st' as : List hyV} {w : hyW} (hd : decode M.2.1 pc = .ok (.invokespecial i, 3)) (hm : hy_mok Mc n = true) (hr : Mc.2.2.2 = none) (hi : Mc.1.name = "<init>") (h1 : Cond.instanceMethod Mc.1 ∈ hy_tt) (hl : Cond.methodLink M.1.cls i Mc.1 ∈ hy_tt) (hn : as.length = n) (h8 : st'.length ≤ 8) : hy_run M Mc d' mc ms pc L ((.inr (.inl k) :: as).reverse ++ st') st' (.inr (.inl k) :: as) w := by
  intro p l e R s m args below meth c A dC dI b ρ κ H locs cells slots ls Qc free a1 a2 a3 a4 a5 a6 a7 hM
  obtain ⟨m1, m2, m3, m4⟩ := hy_mok_ok hm
  have hw0 : hy_ws Mc = Cond.code Mc.1 Mc.2.1 Mc.2.2.1 none :: hy_tt := by unfold hy_ws; rw [hr]
  refine va_runI (b := ρ k) (As := as.map (hy_v b ρ)) (Ts := hy_tt) (own := M.1.cls) ⟨a1.1, a1.2.1, a1.2.2.1, a1.2.2.2.1, a1.2.2.2.2.1⟩ hM (cwI n a1.2.2.2.2.1 (hy_good (hy_ws_in m3)) hw0 rfl rfl (a1.2.2.2.2.1 _ m4) (a1.2.2.2.2.1 _ hl) (a1.2.2.2.2.1 _ h1) hi m1 ⟨a2, ?_⟩) ⟨hy_blind, hy_pre (as := .inr (.inl k) :: as) a7 a1.2.2.2.2.2.1⟩ rfl (by rw [List.length_map]; exact hn) a6.1 (by simp [hy_v]) (hy_room_st h8) hd ⟨a4, a5⟩
  show 8 + (Mc.2.2.1 + 11) + 40 * (d' + 1) ≤ R.locals
  omega
theorem hy_runIN {M Mc : hyM} {d' mc ms pc i n k : Nat} {L : hyL} {st' as : List hyV} {w : hyW} (hd : decode M.2.1 pc = .ok (.invokespecial i, 3)) (hm : hy_mok Mc n = true) (hr : Mc.2.2.2 = none) (hi : Mc.1.name = "<init>") (h1 : Cond.instanceMethod Mc.1 ∈ hy_tt) (hl : Cond.methodLinkNest M.1.cls i Mc.1 "HuskYard" ∈ hy_nw) (hn : as.length = n) (h8 : st'.length ≤ 8) : hy_run M Mc d' mc ms pc L ((.inr (.inl k) :: as).reverse ++ st') st' (.inr (.inl k) :: as) w := by
  intro p l e R s m args below meth c A dC dI b ρ κ H locs cells slots ls Qc free a1 a2 a3 a4 a5 a6 a7 hM
  obtain ⟨m1, m2, m3, m4⟩ := hy_mok_ok hm
  have hw0 : hy_ws Mc = Cond.code Mc.1 Mc.2.1 Mc.2.2.1 none :: hy_tt := by unfold hy_ws; rw [hr]
  refine va_runIN (b := ρ k) (As := as.map (hy_v b ρ)) (Ts := hy_tt) (own := M.1.cls) ⟨a1.1, a1.2.1, a1.2.2.1, a1.2.2.2.1, a1.2.2.2.2.1⟩ hM ⟨va_cnB n a1.2.2.2.2.1 (hy_good (hy_ws_in m3)) hw0 rfl rfl (a1.2.2.2.2.2.1 _ hl) (a1.2.2.2.2.1 _ m4) m1 ⟨a2, ?_⟩, hi, a1.2.2.2.2.1 _ h1⟩ ⟨hy_blind, hy_pre (as := .inr (.inl k) :: as) a7 a1.2.2.2.2.2.1⟩ rfl (by rw [List.length_map]; exact hn) a6.1 (by simp [hy_v]) (hy_room_st h8) hd ⟨a4, a5⟩
  show 8 + (Mc.2.2.1 + 11) + 40 * (d' + 1) ≤ R.locals
  omega
/-- behind a call that makes no cell -/
theorem hy_x_call {scr : hyS} {d d' : Nat} {M Mc : hyM} {Q Q1 : hyQ} {kc ks pc : Nat} {L : hyL} {st st' as : List hyV} {w : hyW} (hr : hy_run M Mc d' 0 0 pc L st st' as w) (hR : hy_R d' Mc 0 0 as w Q1) (hdd : d' + 1 ≤ d)
    (k : ∀ o w1, Q1 o w1 → hy_X scr d M Q kc ks (pc + 3, L, (match o with | some y => .inl y :: st' | none => st'), w1)) : hy_X scr d M Q kc ks (pc, L, st, w) := by
  intro p l e R s m args below meth c A dC dI b Qf ρ κ H locs cells slots ls a1 a2 a3 a4 a5 a6 a7 a8 a9 a10
  have hrun := hr p l e R s m args below meth c A dC dI b ρ κ H locs cells slots ls _ _ a1 (by omega) (by omega) (by omega) (by omega) a7 a8 (hR l dC dI b ρ κ H.size)
  have hF := hy_free a8 a9 a1.2.2.2.2.2.2.2
  revert hrun
  unfold hy_Qc
  cases hret : Mc.2.2.2 with
  | none =>
    intro hrun
    refine va_callv hrun a9 (fun q _ h => hF q h) hF (fun u t H1 locs1 ht hvm hw hB hz1 hk1 hS => ?_)
    obtain ⟨w1, ρ1, κ1⟩ := u
    obtain ⟨hq, g0, g1, g2⟩ := hw
    obtain ⟨rfl, rfl⟩ := g1 rfl
    rw [ht] at hB
    exact k none w1 hq p l e R s m args below meth c A dC dI b Qf _ _ H1 locs1 cells slots ls a1 a2 a3 a4 a5 a6 a7 ⟨hB.1, hB.2.1.weaken (fun _ q _ h => hF _ h), hy_K_moved hvm.symm hB.2.2⟩ hS (hy_rt_grow (mc := 0) (ms := 0) a10 (Nat.zero_le _) (Nat.zero_le _) ⟨g0, fun _ => ⟨rfl, rfl⟩, fun _ _ => ⟨rfl, rfl⟩⟩)
  | some ty =>
    intro hrun
    refine va_calli hrun a9 (fun q _ h => hF q h) hF (fun r u t H1 locs1 ht hvm hw hB hz1 hk1 hS => ?_)
    obtain ⟨w1, ρ1, κ1⟩ := u
    obtain ⟨hq, g0, g1, g2⟩ := hw
    obtain ⟨rfl, rfl⟩ := g1 rfl
    rw [ht] at hB
    exact k (some r) w1 hq p l e R s m args below meth c A dC dI b Qf _ _ H1 locs1 cells slots ls a1 a2 a3 a4 a5 a6 a7 ⟨hB.1, hB.2.1.weaken (fun _ q _ h => hF _ h), hy_K_moved hvm.symm hB.2.2⟩ hS (hy_rt_grow (mc := 0) (ms := 0) a10 (Nat.zero_le _) (Nat.zero_le _) ⟨g0, fun _ => ⟨rfl, rfl⟩, fun _ _ => ⟨rfl, rfl⟩⟩)
/-- behind a constructor's call -/
theorem hy_x_make {scr : hyS} {d d' mc ms : Nat} {M Mc : hyM} {Q Q1 : hyQ} {kc ks pc : Nat} {L : hyL} {st st' as : List hyV} {w : hyW} (hr : hy_run M Mc d' mc ms pc L st st' as w) (hret : Mc.2.2.2 = none) (hok : hy_fok L st' w = true) (hR : hy_R d' Mc mc ms as w Q1) (hdd : d' + 1 ≤ d) (hmc : mc ≤ kc) (hms : ms ≤ ks)
    (k : ∀ w1, Q1 none w1 → hy_X scr d M Q (kc - mc) (ks - ms) (pc + 3, L, st', w1)) : hy_X scr d M Q kc ks (pc, L, st, w) := by
  intro p l e R s m args below meth c A dC dI b Qf ρ κ H locs cells slots ls a1 a2 a3 a4 a5 a6 a7 a8 a9 a10
  obtain ⟨o1, o2, o3⟩ := hy_fok_ok hok
  have hrun := hr p l e R s m args below meth c A dC dI b ρ κ H locs cells slots ls _ _ a1 (by omega) (by omega) (by omega) (by omega) a7 a8 (hR l dC dI b ρ κ H.size)
  have hF := hy_free a8 a9 a1.2.2.2.2.2.2.2
  revert hrun
  unfold hy_Qc
  rw [hret]
  intro hrun
  refine va_callv hrun a9 (fun q _ h => hF q h) hF (fun u t H1 locs1 ht hvm hw hB hz1 hk1 hS => ?_)
  obtain ⟨w1, ρ1, κ1⟩ := u
  obtain ⟨hq, hag⟩ := hw
  rw [ht] at hB
  have e2 : st'.map (hy_v b ρ) = st'.map (hy_v b ρ1) := (hy_vs_ag (n := w.length) (fun k hk => (hag.2.2 k hk).1) o2).symm
  rw [e2]
  exact k w1 hq p l e R s m args below meth c A dC dI b Qf _ _ H1 locs1 (cells + mc) (slots + ms) ls a1 a2 a3 a4 (by omega) (by omega) (hy_lr_ag (fun k hk => (hag.2.2 k hk).1) o1 a7) ⟨hB.1, hB.2.1.weaken (fun _ q _ h => hF _ h), hy_K_moved hvm.symm hB.2.2⟩ hS (hy_rt_grow a10 hmc hms hag)
