/-! THE CLAIM OUT OF ONE WALK OF THE LAW'S BODY. Your part is whole_start (and what it stands on); all else here is the same for every law, but numbers. -/
def R_law : String := "HuskYardLaw"
def lw_P (b : Addr) (xs : List Int32) (args : Array Value) (s : State) : Prop := args = #[.ref b] ∧ s.IntsAt b xs ∧ xs.length ≤ 2560 ∧ (Jvm.Cond.and given_1 narrow_1).before args s = true
def lw_Q (_ : Array Value) (s : State) (o : Outcome) (t : State) : Prop := o = .returned (some (.int 1)) ∧ Framed s o t [] 600000 7302250
def lw_Z (below : List Frame) (a : Array Value) (s : State) : State → Prop := fun t => ∃ o, t.status = .running ∧ Ended t below o ∧ lw_Q a s o t
/-- the law's own end, with 1 on the stack, nothing written that was there before, its room as the claim has it -/
theorem lw_ret {p : Program} {l : Launch} {e : Env} {s : State} {m : MethodId} {below : List Frame} {meth : Method} {c : Code} {b : Nat} (hx : p.tables.exec = Jvm.exec) (hb : c.code = code) (hr : meth.sig.returnType = ret) (hlocks : meth.locks = false) {pc : Nat} {H : Heap} {ls : Array Slot} (hdg : decode code pc = .ok (.ireturn, 1)) : W p l e room_1 s m #[Value.ref b] below meth c H [] 600000 7302250 (lw_Z below #[Value.ref b] s) (F0 m pc ls [.int 1]) := by
  intro T hT X
  obtain ⟨fs, hret, hrun, hended, hW, hframe⟩ := X.leave (v := some (.int 1)) (hlocks := hlocks) (fun h => by rw [hr] at h; cases h)
  have hmeth' : T.vm.method? m = some meth := X.method'
  refine ⟨T.setFrames fs, ?_, .returned (some (.int 1)), hrun, hended, rfl, ⟨_, rfl⟩, hW, hframe⟩
  jvm_step X.here [X.here.top, hx, hb, hdg, hmeth', hr, ret, narrow_b1]
  (try refine ⟨rfl, ?_⟩); (try refine ⟨rfl, ?_⟩)
  first | (intro acts; rw [hret _ acts rfl rfl rfl]) | rw [hret _ _ rfl rfl rfl]
  exact Steps.refl _
/-- what holds at the law's entry: the machine, the code, the tables' words (any of lw_tbl by 'hts w (by decide +kernel)'), the script of L ints xs at the cell b, what the Statement gives of the start (any of its parts by flat_of_before) -/
def lw_At (p : Program) (s : State) (m : MethodId) (meth : Method) (c : Code) (b L : Nat) (xs : Nat → Int32) : Prop :=
  p.tables.exec = Jvm.exec ∧ c.code = code ∧ meth.sig.returnType = ret ∧ c.maxLocals = 4 ∧ s.vm.findClass R_law = some m.cls ∧ (∀ w ∈ lw_tbl, w.before #[Value.ref b] s = true) ∧ va_X b L xs s s.heap ∧ b < s.heap.size ∧ meth.locks = false ∧ (Jvm.Cond.and given_1 narrow_1).before #[Value.ref b] s = true
-- ===== YOUR PART BEGINS =====
set_option maxRecDepth 100000 in
theorem law_start (L : Nat) (xs : Nat → Int32) (hL : L ≤ 2560) : hy_X (some (L, xs)) 30 mL_law lwQ 54 1384 (0, [some (.inr (.inr true)), none, none, none], [], []) := by
  refine hy_go hy_pfA oL_law [7] 60 54 1384 _ ?_
  refine hy_mk (d := 30) (kc := 53) (ks := 1379) (P := fun kc' ks' w1 => hy_X (some (L, xs)) 30 mL_law lwQ kc' ks' (7, [some (.inr (.inr true)), none, none, none], [hy_r 0], w1)) k_Y rfl rfl rfl ?_
  refine hy_go hy_pfA oL_law [15] 60 24 556 _ ?_
  refine hy_mk (d := 30) (kc := 23) (ks := 520) (P := fun kc' ks' w1 => hy_X (some (L, xs)) 30 mL_law lwQ kc' ks' (15, [some (.inr (.inr true)), some (hy_r 0), none, none], [hy_r 30], w1)) (k_M yN0 zB yS0 zB yC0) rfl rfl rfl ?_
  refine hy_go hy_pfA oL_law [18] 60 0 0 _ ?_
  exact law_loop L xs hL L 0 yN0 zB yS0 zB yC0 (yM0 10) (by omega) (by omega) rel_0
theorem hy_nw_tab {x : Cond} (h : hy_isN x = true) : x.onTables = true := by
  cases x <;> first | rfl | cases h
set_option maxHeartbeats 4000000 in
set_option maxRecDepth 100000 in
/-- YOUR PART: from the entry, for every script of at most 2560 ints, the law comes to its end with true -/
theorem whole_start {p : Program} {e : Env} {s : State} {m : MethodId} {below : List Frame} {meth : Method} {c : Code} (l : Launch) {b L : Nat} {xs : Nat → Int32} (hL : L ≤ 2560) (C0 : lw_At p s m meth c b L xs) : W p l e room_1 s m #[Value.ref b] below meth c s.heap [] 0 0 (lw_Z below #[Value.ref b] s) (entryFrame m ([Value.ref b] : List Value).toArray 4) := by
  obtain ⟨hx, hb, hr, hml, hown, hts, hX, hbl, hlocks, hgv⟩ := id C0
  have htt : ∀ w ∈ hy_tt, w.before #[Value.ref b] s = true := fun w hw => hts w (List.mem_filter.mp hw).1
  obtain ⟨c0, i0, k0⟩ := u_known (C := RX0) (T := TX0) (N := 3) (n := 3) htt hy_clsX0 (hts (.instantiable RX0 3) (by decide +kernel))
  obtain ⟨c1, i1, k1⟩ := u_known (C := RX1) (T := TX1) (N := 12) (n := 12) htt hy_clsX1 (hts (.instantiable RX1 12) (by decide +kernel))
  obtain ⟨c2, i2, k2⟩ := u_known (C := RX2) (T := TX2) (N := 11) (n := 11) htt hy_clsX2 (hts (.instantiable RX2 11) (by decide +kernel))
  obtain ⟨c3, i3, k3⟩ := u_known (C := RX3) (T := TX3) (N := 3) (n := 3) htt hy_clsX3 (hts (.instantiable RX3 3) (by decide +kernel))
  obtain ⟨c4, i4, k4⟩ := u_known (C := RX4) (T := TX4) (N := 10) (n := 10) htt hy_clsX4 (hts (.instantiable RX4 10) (by decide +kernel))
  obtain ⟨c5, i5, k5⟩ := u_known (C := RX5) (T := TX5) (N := 5) (n := 5) htt hy_clsX5 (hts (.instantiable RX5 5) (by decide +kernel))
  obtain ⟨c6, i6, k6⟩ := u_known (C := RX6) (T := TX6) (N := 36) (n := 36) htt hy_clsX6 (hts (.instantiable RX6 36) (by decide +kernel))
  obtain ⟨dC, dI, hKc⟩ : ∃ (dC : Nat → ClassId) (dI : Nat → Nat → Nat), ∀ (k : Nat) (q : vw_C), vwCl[k]? = some q → u_Kn s q.1 q.2.1 q.2.2 (dC k) (dI k) := by
    refine ⟨fun k => match k with | 0 => c0 | 1 => c1 | 2 => c2 | 3 => c3 | 4 => c4 | 5 => c5 | _ => c6, fun k => match k with | 0 => i0 | 1 => i1 | 2 => i2 | 3 => i3 | 4 => i4 | 5 => i5 | _ => i6, ?_⟩
    intro k q hq
    match k, hq with
    | 0, hq => cases hq; exact k0
    | 1, hq => cases hq; exact k1
    | 2, hq => cases hq; exact k2
    | 3, hq => cases hq; exact k3
    | 4, hq => cases hq; exact k4
    | 5, hq => cases hq; exact k5
    | 6, hq => cases hq; exact k6
    | k + 7, hq => simp at hq
  have hl := lv_entry ([.ref b]) (n := 4) (Nat.le_of_ble_eq_true rfl)
  rw [lg_entry_eq]
  generalize (lg_sl ([.ref b]) ++ List.replicate (4 - (lg_sl ([.ref b])).length) Slot.unset).toArray = ls at hl ⊢
  have hlr : hy_lr b (fun _ => 0) 4 (hy_loc [.inr (.inr true)] 4) ls := hy_lr_entry (as := [.inr (.inr true)]) (by decide) hl
  have hS : va_S (fun q : Nat => s.heap.size ≤ q) s.heap s.heap [] := va_S.rf
  have hK : hy_K dC dI (fun _ => dC 0) [] s := ⟨⟨hKc, fun k q h => by simp at h⟩, fun k t n f h => by simp at h⟩
  have hP : va_P (dC, dI) vwCl (hy_w b (fun _ => 0) (fun _ => dC 0) []) s.heap := fun k q h => by simp [hy_w] at h
  have hD : va_D (fun q : Nat => s.heap.size ≤ q) (hy_w b (fun _ => 0) (fun _ => dC 0) []) := ⟨fun i j p q h => by simp [hy_w] at h, fun k q h => by simp [hy_w] at h⟩
  refine law_start L xs hL p l e room_1 s m #[Value.ref b] below meth c (fun q : Nat => s.heap.size ≤ q) dC dI b (lw_Z below #[Value.ref b] s) (fun _ => 0) (fun _ => dC 0) s.heap [] 0 0 ls ⟨hx, hb, hml, hown, htt, fun x h => va_Nw.of (hy_nw_tab (List.mem_filter.mp h).2) (hts x (List.mem_filter.mp h).1), fun h => absurd h (by decide), fun q h => h⟩ ?_ (by decide) (by decide) (by decide) (by decide) hlr ⟨hP, hD, hK⟩ hS ?_
  · intro L' xs' h
    cases h
    exact ⟨hX, hbl, Nat.not_le.mpr hbl⟩
  · intro r w' ρ' κ' H' locs' pc' ls' q1 q2 q3 q4 q5
    have q1 : r = some 1 := q1
    subst q1
    refine va_forget (fun q hq => q4.2.2 q hq) ?_
    refine W.widen (k := 600000) (n := 7302250) (by decide) (by decide) ?_
    exact lw_ret hx hb hr hlocks q5
