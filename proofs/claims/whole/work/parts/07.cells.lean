/-! ===== fields, arrays, returns ===== -/
theorem hy_x_get {scr : hyS} {d : Nat} {M : hyM} {Q : hyQ} {kc ks pc : Nat} {L : hyL} {st : List hyV} {w : hyW} {i k a f : Nat} {C : String} {T : u_T} {N : Nat} {fs : List hyV} {x : hyV} (hd : decode M.2.1 pc = .ok (.getfield i, 3)) (hc : vwCl[a]? = some (C, T, N)) (hf : f < N) (hl : Cond.fieldLink M.1.cls i (T f).1 (T f).2.1 (T f).2.2.1 ∈ hy_tt) (hw : w[k]? = some (.inr (a, fs))) (hx : fs[f]? = some x) (K : hy_X scr d M Q kc ks (pc + 3, L, x :: st, w)) : hy_X scr d M Q kc ks (pc, L, .inr (.inl k) :: st, w) :=
  hy_s0 (fun p l e R s m args below meth c A dC dI b Qf ρ κ H locs cells slots ls h1 h2 h3 h4 h7 h8 h9 kk => by
    obtain ⟨ty0, -, -, hin, -⟩ := hy_cls 0 id hc
    have he : (hy_w b ρ κ w)[k]? = some (ρ k, .inr (a, fs.map (hy_v b ρ))) := hy_w_at hw
    have hv : (fs.map (hy_v b ρ))[f]? = some (hy_v b ρ x) := by rw [List.getElem?_map, hx]; rfl
    exact va_get (D := (dC, dI)) h1.1 h1.2.1 h1.2.2.2.2.1 hin h1.2.2.2.1 h8.2.2.1 h8.1 k he hc f hf (h1.2.2.2.2.1 _ hl) (fun _ h => h) hv hd kk) K
theorem hy_fits_ok {c : Nat} {x : hyV} {P : Prop} (h : hy_fits c x P) : P ∧ ((∃ z, (c = 0 ∨ c = 3) ∧ x = .inl z) ∨ (∃ z, c = 1 ∧ x = .inl z ∧ (z = 0 ∨ z = 1)) ∨ (∃ k, c = 2 ∧ x = .inr (.inl k))) := by
  unfold hy_fits at h
  split at h
  · exact ⟨h, Or.inl ⟨_, Or.inl rfl, rfl⟩⟩
  · exact ⟨h.2, Or.inr (Or.inl ⟨_, rfl, rfl, h.1⟩)⟩
  · exact ⟨h, Or.inr (Or.inr ⟨_, rfl, rfl⟩)⟩
  · exact ⟨h, Or.inl ⟨_, Or.inr rfl, rfl⟩⟩
  · exact h.elim
theorem hy_nar_ref {t : FieldType} (h : hy_isR (some t) = true) (a : Nat) : narrow t (.ref a) = .ref a ∧ fits t (.ref a) = true := by
  cases t <;> first | exact ⟨rfl, rfl⟩ | cases h
theorem hy_nar_bool {z : Int32} (h : z = 0 ∨ z = 1) : narrow .boolean (.int z) = .int z ∧ fits .boolean (.int z) = true := by
  rcases h with rfl | rfl
  · exact ⟨rfl, rfl⟩
  · exact ⟨rfl, rfl⟩
theorem hy_pI : parseFieldDescriptor "I" = some .int := by decide +kernel
theorem hy_pZ : parseFieldDescriptor "Z" = some .boolean := by decide +kernel
theorem hy_fk_ok {c : Nat} {own nm : String} {q : String × String × String × Bool} {x : hyV} {P : Prop} (hk : hy_fk c own nm q = true) (hx : hy_fits c x P) (b : Nat) (ρ : Nat → Nat) : ∃ ty, parseFieldDescriptor q.2.2.1 = some ty ∧ narrow ty (hy_v b ρ x) = hy_v b ρ x ∧ fits ty (hy_v b ρ x) = true ∧ (q.2.2.2 = false ∨ (q.2.2.2 = true ∧ nm = "<init>" ∧ q.1 = own)) := by
  obtain ⟨-, ⟨z, hc, rfl⟩ | ⟨z, rfl, rfl, hz⟩ | ⟨k, rfl, rfl⟩⟩ := hy_fits_ok hx
  · rcases hc with rfl | rfl
    · simp only [hy_fk, Bool.and_eq_true, decide_eq_true_eq] at hk
      exact ⟨.int, by rw [hk.1]; exact hy_pI, rfl, rfl, Or.inl hk.2⟩
    · simp only [hy_fk, Bool.and_eq_true, decide_eq_true_eq] at hk
      exact ⟨.int, by rw [hk.1.1.1]; exact hy_pI, rfl, rfl, Or.inr ⟨hk.1.1.2, hk.1.2, hk.2⟩⟩
  · simp only [hy_fk, Bool.and_eq_true, decide_eq_true_eq] at hk
    exact ⟨.boolean, by rw [hk.1]; exact hy_pZ, (hy_nar_bool hz).1, (hy_nar_bool hz).2, Or.inl hk.2⟩
  · simp only [hy_fk, Bool.and_eq_true, decide_eq_true_eq] at hk
    obtain ⟨⟨⟨h1, h2⟩, h3⟩, h4⟩ := hk
    cases ht : parseFieldDescriptor q.2.2.1 with
    | none => rw [ht] at h1; cases h1
    | some t =>
      rw [ht] at h1
      exact ⟨t, rfl, (hy_nar_ref h1 _).1, (hy_nar_ref h1 _).2, Or.inr ⟨h2, h3, h4⟩⟩
theorem hy_x_put {scr : hyS} {d : Nat} {M : hyM} {Q : hyQ} {kc ks pc : Nat} {L : hyL} {st : List hyV} {w : hyW} {i k a f cc : Nat} {C : String} {T : u_T} {N : Nat} {fs : List hyV} {x : hyV} {P : Prop} (hd : decode M.2.1 pc = .ok (.putfield i, 3)) (hc : vwCl[a]? = some (C, T, N)) (hf : f < N) (hl : Cond.fieldLink M.1.cls i (T f).1 (T f).2.1 (T f).2.2.1 ∈ hy_tt) (hk : hy_fk cc M.1.cls M.1.name (T f) = true) (hx : hy_fits cc x P) (hw : w[k]? = some (.inr (a, fs))) (hn : f < fs.length) (K : hy_X scr d M Q kc ks (pc + 3, L, st, w.set k (.inr (a, fs.set f x)))) : hy_X scr d M Q kc ks (pc, L, x :: .inr (.inl k) :: st, w) :=
  hy_s2 (fun t n f h => by cases h) (fun p l e R s m args below meth c A dC dI b Qf ρ κ H locs cells slots ls h1 h8 h9 kk => by
    obtain ⟨ty0, hty, hnm, hin, -⟩ := hy_cls 0 id hc
    obtain ⟨ty, t1, t2, t3, t4⟩ := hy_fk_ok hk hx b ρ
    have he : (hy_w b ρ κ w)[k]? = some (ρ k, .inr (a, fs.map (hy_v b ρ))) := hy_w_at hw
    have hs : hy_c b ρ κ k (.inr (a, fs.set f x)) = .inr (a, (fs.map (hy_v b ρ)).set f (hy_v b ρ x)) := by
      simp only [hy_c, List.map_set]
    rw [hs] at kk
    rcases t4 with t4 | ⟨t4, t5, t6⟩
    · exact va_put (D := (dC, dI)) h1.1 h1.2.1 h1.2.2.2.2.1 hin ty0 hty hnm h1.2.2.2.1 h8.2.2.1 h8.1 h8.2.1 h9 k he hc f hf (h1.2.2.2.2.1 _ hl) (fun _ h => h) t4 t1 t2 t3 (by rw [List.length_map]; exact hn) hd kk
    · exact va_putF (D := (dC, dI)) h1.1 h1.2.1 h1.2.2.2.2.1 hin ty0 hty hnm h1.2.2.2.1 h8.2.2.1 h8.1 h8.2.1 h9 k he hc f hf (h1.2.2.2.2.1 _ hl) (fun _ h => h) t4 (h1.2.2.2.2.2.2.1 t5) t6 t1 t2 t3 (by rw [List.length_map]; exact hn) hd kk) K
theorem hy_x_iald {scr : hyS} {d : Nat} {M : hyM} {Q : hyQ} {kc ks pc : Nat} {L : hyL} {st : List hyV} {w : hyW} {k n : Nat} {i : Int32} {f : Nat → Int32} (hd : decode M.2.1 pc = .ok (.iaload, 1)) (hw : w[k]? = some (.inl (false, n, f))) (hi : vp_in i n) (K : hy_X scr d M Q kc ks (pc + 1, L, .inl (f i.toNatClampNeg) :: st, w)) : hy_X scr d M Q kc ks (pc, L, .inl i :: .inr (.inl k) :: st, w) :=
  hy_s0 (fun p l e R s m args below meth c A dC dI b Qf ρ κ H locs cells slots ls h1 h2 h3 h4 h7 h8 h9 kk => va_iald (D := (dC, dI)) h1.1 h1.2.1 (h8.2.2.2 k _ _ _ hw) h8.1 k 0 (hy_w_at hw) rfl hi hd kk) K
theorem hy_x_zald {scr : hyS} {d : Nat} {M : hyM} {Q : hyQ} {kc ks pc : Nat} {L : hyL} {st : List hyV} {w : hyW} {k n : Nat} {i : Int32} {f : Nat → Int32} (hd : decode M.2.1 pc = .ok (.baload, 1)) (hw : w[k]? = some (.inl (true, n, f))) (hi : vp_in i n) (K : hy_X scr d M Q kc ks (pc + 1, L, .inl (f i.toNatClampNeg) :: st, w)) : hy_X scr d M Q kc ks (pc, L, .inl i :: .inr (.inl k) :: st, w) :=
  hy_s0 (fun p l e R s m args below meth c A dC dI b Qf ρ κ H locs cells slots ls h1 h2 h3 h4 h7 h8 h9 kk => va_zald (D := (dC, dI)) h1.1 h1.2.1 (h8.2.2.2 k _ _ _ hw) h8.1 k 0 (hy_w_at hw) rfl hi hd kk) K
theorem hy_x_sld {L1 : Nat} {xs : Nat → Int32} {d : Nat} {M : hyM} {Q : hyQ} {kc ks pc : Nat} {L : hyL} {st : List hyV} {w : hyW} {i : Int32} (hd : decode M.2.1 pc = .ok (.iaload, 1)) (hi : vp_in i L1) (K : hy_X (some (L1, xs)) d M Q kc ks (pc + 1, L, .inl (xs i.toNatClampNeg) :: st, w)) : hy_X (some (L1, xs)) d M Q kc ks (pc, L, .inl i :: .inr (.inr true) :: st, w) :=
  hy_s0 (fun p l e R s m args below meth c A dC dI b Qf ρ κ H locs cells slots ls h1 h2 h3 h4 h7 h8 h9 kk => va_sld h1.1 h1.2.1 (h2 _ _ rfl).1 (h2 _ _ rfl).2.1 (h2 _ _ rfl).2.2 h9 hi hd kk) K
theorem hy_x_slen {L1 : Nat} {xs : Nat → Int32} {d : Nat} {M : hyM} {Q : hyQ} {kc ks pc : Nat} {L : hyL} {st : List hyV} {w : hyW} (hd : decode M.2.1 pc = .ok (.arraylength, 1)) (K : hy_X (some (L1, xs)) d M Q kc ks (pc + 1, L, .inl (Int32.ofNat L1) :: st, w)) : hy_X (some (L1, xs)) d M Q kc ks (pc, L, .inr (.inr true) :: st, w) :=
  hy_s0 (fun p l e R s m args below meth c A dC dI b Qf ρ κ H locs cells slots ls h1 h2 h3 h4 h7 h8 h9 kk => va_slen h1.1 h1.2.1 (h2 _ _ rfl).1 (h2 _ _ rfl).2.1 (h2 _ _ rfl).2.2 h9 hd kk) K
theorem hy_x_iast {scr : hyS} {d : Nat} {M : hyM} {Q : hyQ} {kc ks pc : Nat} {L : hyL} {st : List hyV} {w : hyW} {k n : Nat} {i x : Int32} {f : Nat → Int32} (hd : decode M.2.1 pc = .ok (.iastore, 1)) (hw : w[k]? = some (.inl (false, n, f))) (hi : vp_in i n) (K : hy_X scr d M Q kc ks (pc + 1, L, st, w.set k (.inl (false, n, upd f i.toNatClampNeg x)))) : hy_X scr d M Q kc ks (pc, L, .inl x :: .inl i :: .inr (.inl k) :: st, w) :=
  hy_s2 (fun t n' f' h => by cases h; exact ⟨_, _, hw⟩) (fun p l e R s m args below meth c A dC dI b Qf ρ κ H locs cells slots ls h1 h8 h9 kk => va_iast (D := (dC, dI)) h1.1 h1.2.1 (h8.2.2.2 k _ _ _ hw) h8.1 h8.2.1 h9 k 0 (hy_w_at hw) rfl hi hd kk) K
theorem hy_x_zast {scr : hyS} {d : Nat} {M : hyM} {Q : hyQ} {kc ks pc : Nat} {L : hyL} {st : List hyV} {w : hyW} {k n : Nat} {i x : Int32} {f : Nat → Int32} (hd : decode M.2.1 pc = .ok (.bastore, 1)) (hw : w[k]? = some (.inl (true, n, f))) (hi : vp_in i n) (K : hy_X scr d M Q kc ks (pc + 1, L, st, w.set k (.inl (true, n, upd f i.toNatClampNeg (vp_nar .boolean x))))) : hy_X scr d M Q kc ks (pc, L, .inl x :: .inl i :: .inr (.inl k) :: st, w) :=
  hy_s2 (fun t n' f' h => by cases h; exact ⟨_, _, hw⟩) (fun p l e R s m args below meth c A dC dI b Qf ρ κ H locs cells slots ls h1 h8 h9 kk => va_zast (D := (dC, dI)) h1.1 h1.2.1 (h8.2.2.2 k _ _ _ hw) h8.1 h8.2.1 h9 k 0 (hy_w_at hw) rfl hi hd kk) K
theorem hy_x_ireturn {scr : hyS} {d : Nat} {M : hyM} {Q : hyQ} {kc ks pc : Nat} {L : hyL} {w : hyW} {x : Int32} (hd : decode M.2.1 pc = .ok (.ireturn, 1)) (h : Q (some x) w) : hy_X scr d M Q kc ks (pc, L, [.inl x], w) := by
  intro p l e R s m args below meth c A dC dI b Qf ρ κ H locs cells slots ls h1 h2 h3 h4 h5 h6 h7 h8 h9 h10
  exact W.widen (Nat.le_add_right _ _) (Nat.le_add_right _ _) (h10 (some x) w ρ κ H locs pc ls h (hy_ag_refl _ _ _ _) h8 h9 hd)
theorem hy_x_return {scr : hyS} {d : Nat} {M : hyM} {Q : hyQ} {kc ks pc : Nat} {L : hyL} {w : hyW} (hd : decode M.2.1 pc = .ok (.return_, 1)) (h : Q none w) : hy_X scr d M Q kc ks (pc, L, [], w) := by
  intro p l e R s m args below meth c A dC dI b Qf ρ κ H locs cells slots ls h1 h2 h3 h4 h5 h6 h7 h8 h9 h10
  exact W.widen (Nat.le_add_right _ _) (Nat.le_add_right _ _) (h10 none w ρ κ H locs pc ls h (hy_ag_refl _ _ _ _) h8 h9 hd)
/-! ===== new cells ===== -/
def hy_up {α : Type} (f : Nat → α) (k : Nat) (x : α) : Nat → α := fun j => if j = k then x else f j
theorem hy_up_same {α : Type} (f : Nat → α) (k : Nat) (x : α) : hy_up f k x k = x := by simp [hy_up]
theorem hy_up_lt {α : Type} (f : Nat → α) {k j : Nat} (x : α) (h : j < k) : hy_up f k x j = f j := by
  have : ¬ j = k := by omega
  simp [hy_up, this]
theorem hy_fok_ok {L : hyL} {st : List hyV} {w : hyW} (h : hy_fok L st w = true) : hy_lok w.length L = true ∧ st.all (hy_vok w.length) = true ∧ hy_wok w.length w = true := by
  simp only [hy_fok, Bool.and_eq_true] at h
  exact ⟨h.1.1, h.1.2, h.2⟩
theorem hy_dflt_vok (a n : Nat) : (hy_dflt a).all (hy_vok n) = true := by
  match a with
  | 0 => rfl
  | 1 => rfl
  | 2 => rfl
  | 3 => rfl
  | 4 => rfl
  | 5 => rfl
  | 6 => rfl
  | _ + 7 => rfl
theorem hy_rt_grow {p : Program} {l : Launch} {e : Env} {R : Room} {s : State} {m : MethodId} {args : Array Value} {below : List Frame} {meth : Method} {c : Code} {A : Nat → Prop} {dC : Nat → ClassId} {dI : Nat → Nat → Nat} {b : Nat} {Qf : State → Prop} {M : hyM} {Q : hyQ} {kc ks mc ms n n1 : Nat} {ρ ρ1 : Nat → Nat} {κ κ1 : Nat → ClassId} {cells slots : Nat}
    (h : hy_rt p l e R s m args below meth c A dC dI b Qf M Q kc ks n ρ κ cells slots) (hc : mc ≤ kc) (hs : ms ≤ ks) (hm : hy_ag mc n n1 ρ κ ρ1 κ1) : hy_rt p l e R s m args below meth c A dC dI b Qf M Q (kc - mc) (ks - ms) n1 ρ1 κ1 (cells + mc) (slots + ms) := by
  intro r w' ρ' κ' H' locs' pc' ls' a1 a2 a3 a4 a5
  have e1 : cells + mc + (kc - mc) = cells + kc := by omega
  have e2 : slots + ms + (ks - ms) = slots + ks := by omega
  rw [e1, e2]
  refine h r w' ρ' κ' H' locs' pc' ls' a1 ⟨Nat.le_trans hm.1 a2.1, fun h0 => ?_, fun k hk => ?_⟩ a3 a4 a5
  · obtain ⟨q1, q2⟩ := a2.2.1 (by omega)
    obtain ⟨q3, q4⟩ := hm.2.1 (by omega)
    exact ⟨q1.trans q3, q2.trans q4⟩
  · obtain ⟨q1, q2⟩ := a2.2.2 k (Nat.lt_of_lt_of_le hk hm.1)
    obtain ⟨q3, q4⟩ := hm.2.2 k hk
    exact ⟨q1.trans q3, q2.trans q4⟩
theorem hy_ag_new (n q : Nat) (cA : ClassId) (ρ : Nat → Nat) (κ : Nat → ClassId) : hy_ag 1 n (n + 1) ρ κ (hy_up ρ n q) (hy_up κ n cA) :=
  ⟨Nat.le_succ n, fun h => absurd h (by omega), fun k hk => ⟨hy_up_lt _ _ hk, hy_up_lt _ _ hk⟩⟩
theorem hy_x_new {scr : hyS} {d : Nat} {M : hyM} {Q : hyQ} {kc ks pc : Nat} {L : hyL} {st : List hyV} {w : hyW} {i a : Nat} {C : String} {T : u_T} {N : Nat} (hd : decode M.2.1 pc = .ok (.new i, 3)) (hc : vwCl[a]? = some (C, T, N)) (h1 : Cond.classLink M.1.cls i C ∈ hy_tt) (h2 : Cond.instantiable C N ∈ hy_tt) (h3 : Cond.initialized C ∈ hy_tt) (hkc : 1 ≤ kc) (hks : N ≤ ks) (hok : hy_fok L st w = true) (K : hy_X scr d M Q (kc - 1) (ks - N) (pc + 3, L, .inr (.inl w.length) :: st, w ++ [.inr (a, hy_dflt a)])) : hy_X scr d M Q kc ks (pc, L, st, w) := by
  intro p l e R s m args below meth c A dC dI b Qf ρ κ H locs cells slots ls a1 a2 a3 a4 a5 a6 a7 a8 a9 a10
  obtain ⟨ty0, hty, -, hin, hdf⟩ := hy_cls b ρ hc
  obtain ⟨o1, o2, o3⟩ := hy_fok_ok hok
  refine va_new (D := (dC, dI)) a1.1 a1.2.1 a1.2.2.2.2.1 hin ty0 hty a1.2.2.2.1 (a1.2.2.2.2.1 _ h1) (a1.2.2.2.2.1 _ h2) (a1.2.2.2.2.1 _ h3) a8.2.2.1 a8.1 a8.2.1 a9 a1.2.2.2.2.2.2.2 hc hdf (by omega) (by omega) hd (fun q H1 hP hD hS => ?_)
  have hag := hy_ag_new w.length q (κ w.length) ρ κ
  have hκ : hy_up κ w.length (κ w.length) = κ := by funext j; unfold hy_up; split <;> simp_all
  rw [hκ] at hag
  have e1 : hy_w b (hy_up ρ w.length q) κ (w ++ [.inr (a, hy_dflt a)]) = hy_w b ρ κ w ++ [(q, .inr (a, (hy_dflt a).map (hy_v b ρ)))] := by
    rw [hy_w_app, hy_w_ag (n := w.length) (fun k hk => ⟨hy_up_lt _ _ hk, rfl⟩) (Nat.le_refl _) o3, hy_up_same]
    simp only [hy_c]
    rw [hy_vs_ag (n := w.length) (fun k hk => hy_up_lt _ _ hk) (hy_dflt_vok a _)]
  have e2 : (Value.ref q :: st.map (hy_v b ρ)) = (Sum.inr (Sum.inl w.length) :: st : List hyV).map (hy_v b (hy_up ρ w.length q)) := by
    rw [List.map_cons, hy_vs_ag (n := w.length) (fun k hk => hy_up_lt _ _ hk) o2]
    simp only [hy_v, hy_up_same]
  rw [e2]
  refine K p l e R s m args below meth c A dC dI b Qf (hy_up ρ w.length q) κ H1 locs (cells + 1) (slots + N) ls a1 a2 a3 a4 (by omega) (by omega) (hy_lr_ag (fun k hk => hy_up_lt _ _ hk) o1 a7) ⟨by rw [e1]; exact hP, by rw [e1]; exact hD, a8.2.2.1, fun k t n f hk => ?_⟩ hS ?_
  · rw [List.getElem?_append] at hk
    split at hk
    · exact a8.2.2.2 k t n f hk
    · rw [List.getElem?_singleton] at hk
      split at hk
      · cases hk
      · cases hk
  · show hy_rt p l e R s m args below meth c A dC dI b Qf M Q (kc - 1) (ks - N) (w ++ [_]).length _ _ (cells + 1) (slots + N)
    rw [List.length_append]
    exact hy_rt_grow a10 hkc hks hag
theorem hy_x_newarr {scr : hyS} {d : Nat} {M : hyM} {Q : hyQ} {kc ks pc : Nat} {L : hyL} {st : List hyV} {w : hyW} {t : ArrayType} {tb : Bool} {n : Int32} (hd : decode M.2.1 pc = .ok (.newarray t, 2)) (h1 : Cond.arrayClass (newarray.typeOf t) ∈ hy_tt) (h2 : newarray.typeOf t = hy_ty tb) (hkc : 1 ≤ kc) (hks : n.toNatClampNeg ≤ ks) (hn : ¬ n < 0) (hn2 : n.toNatClampNeg ≤ 1024) (hok : hy_fok L st w = true) (K : hy_X scr d M Q (kc - 1) (ks - n.toNatClampNeg) (pc + 2, L, .inr (.inl w.length) :: st, w ++ [.inl (tb, n.toNatClampNeg, fun _ => 0)])) : hy_X scr d M Q kc ks (pc, L, .inl n :: st, w) := by
  intro p l e R s m args below meth c A dC dI b Qf ρ κ H locs cells slots ls a1 a2 a3 a4 a5 a6 a7 a8 a9 a10
  obtain ⟨o1, o2, o3⟩ := hy_fok_ok hok
  refine va_newa (D := (dC, dI)) (N' := n.toNatClampNeg) (a0 := (n.toNatClampNeg, .inl (fun _ => 0))) a1.1 a1.2.1 (a1.2.2.2.2.1 _ h1) h2 a8.2.2.1 a8.1 a8.2.1 a9 a1.2.2.2.2.2.2.2 (fun cA => by cases tb <;> rfl) hn rfl (by cases tb <;> simp only [hy_ty, componentBytes] <;> omega) (by omega) (by omega) hd (fun q cA H1 hK hP hD hS => ?_)
  have hag := hy_ag_new w.length q cA ρ κ
  have e1 : hy_w b (hy_up ρ w.length q) (hy_up κ w.length cA) (w ++ [.inl (tb, n.toNatClampNeg, fun _ => 0)]) = hy_w b ρ κ w ++ [(q, .inl (cA, n.toNatClampNeg, .inl (fun _ => 0)))] := by
    rw [hy_w_app, hy_w_ag (n := w.length) (fun k hk => ⟨hy_up_lt _ _ hk, hy_up_lt _ _ hk⟩) (Nat.le_refl _) o3, hy_up_same]
    simp only [hy_c, hy_up_same]
  have e2 : (Value.ref q :: st.map (hy_v b ρ)) = (Sum.inr (Sum.inl w.length) :: st : List hyV).map (hy_v b (hy_up ρ w.length q)) := by
    rw [List.map_cons, hy_vs_ag (n := w.length) (fun k hk => hy_up_lt _ _ hk) o2]
    simp only [hy_v, hy_up_same]
  show W p l e R s m args below meth c H1 locs (cells + 1) (slots + n.toNatClampNeg) Qf (F0 m (pc + 2) ls (Value.ref q :: st.map (hy_v b ρ)))
  rw [e2]
  refine K p l e R s m args below meth c A dC dI b Qf (hy_up ρ w.length q) (hy_up κ w.length cA) H1 locs (cells + 1) (slots + n.toNatClampNeg) ls a1 a2 a3 a4 (by omega) (by omega) (hy_lr_ag (fun k hk => hy_up_lt _ _ hk) o1 a7) ⟨by rw [e1]; exact hP, by rw [e1]; exact hD, a8.2.2.1, fun k t n f hk => ?_⟩ hS ?_
  · rw [List.getElem?_append] at hk
    split at hk
    · rename_i hlt
      rw [hy_up_lt _ _ hlt]
      exact a8.2.2.2 k t n f hk
    · rw [List.getElem?_singleton] at hk
      split at hk
      · rename_i hge hz
        cases hk
        have : k = w.length := by omega
        rw [this, hy_up_same]
        exact hK.sub (tys' := [(cA, hy_ty tb)]) [0] rfl
      · cases hk
  · show hy_rt p l e R s m args below meth c A dC dI b Qf M Q (kc - 1) (ks - n.toNatClampNeg) (w ++ [_]).length _ _ (cells + 1) (slots + n.toNatClampNeg)
    rw [List.length_append]
    exact hy_rt_grow a10 hkc hks hag
