/-! ===== each instruction ===== -/
theorem hy_and1 {a b : Bool} (h : (a && b) = true) : a = true ∧ b = true := by simpa using h
theorem hy_x_iload_n {scr : hyS} {d : Nat} {M : hyM} {Q : hyQ} {kc ks pc : Nat} {L : hyL} {st : List hyV} {w : hyW} {k : Fin 4} {x : Int32} (hd : decode M.2.1 pc = .ok (.iload_n k, 1)) (hx : L[k.val]? = some (some (.inl x))) (K : hy_X scr d M Q kc ks (pc + 1, L, .inl x :: st, w)) : hy_X scr d M Q kc ks (pc, L, st, w) :=
  hy_s0 (fun p l e R s m args below meth c A dC dI b Qf ρ κ H locs cells slots ls h1 h2 h3 h4 h7 h8 h9 kk => lv_iload_n h1.1 h1.2.1 hd rfl (h7.2.2.2 _ _ hx) kk) K
theorem hy_x_iload {scr : hyS} {d : Nat} {M : hyM} {Q : hyQ} {kc ks pc : Nat} {L : hyL} {st : List hyV} {w : hyW} {i : Nat} {x : Int32} (hd : decode M.2.1 pc = .ok (.iload i, 2)) (hx : L[i]? = some (some (.inl x))) (K : hy_X scr d M Q kc ks (pc + 2, L, .inl x :: st, w)) : hy_X scr d M Q kc ks (pc, L, st, w) :=
  hy_s0 (fun p l e R s m args below meth c A dC dI b Qf ρ κ H locs cells slots ls h1 h2 h3 h4 h7 h8 h9 kk => lv_iload h1.1 h1.2.1 hd (h7.2.2.2 _ _ hx) kk) K
def hy_isref (v : hyV) : Prop := (∃ k, v = .inr (.inl k)) ∨ v = .inr (.inr true)
theorem hy_isref_v {v : hyV} (h : hy_isref v) (b : Nat) (ρ : Nat → Nat) : ∃ a, hy_v b ρ v = .ref a := by
  rcases h with ⟨k, rfl⟩ | rfl
  · exact ⟨_, rfl⟩
  · exact ⟨_, rfl⟩
theorem hy_x_aload_n {scr : hyS} {d : Nat} {M : hyM} {Q : hyQ} {kc ks pc : Nat} {L : hyL} {st : List hyV} {w : hyW} {k : Fin 4} {x : hyV} (hr : hy_isref x) (hd : decode M.2.1 pc = .ok (.aload_n k, 1)) (hx : L[k.val]? = some (some x)) (K : hy_X scr d M Q kc ks (pc + 1, L, x :: st, w)) : hy_X scr d M Q kc ks (pc, L, st, w) :=
  hy_s0 (fun p l e R s m args below meth c A dC dI b Qf ρ κ H locs cells slots ls h1 h2 h3 h4 h7 h8 h9 kk => by
    obtain ⟨a, ha⟩ := hy_isref_v hr b ρ
    have h := h7.2.2.2 _ _ hx
    rw [List.map_cons, ha] at kk
    rw [ha] at h
    exact lv_aload_n h1.1 h1.2.1 hd rfl h kk) K
theorem hy_x_aload {scr : hyS} {d : Nat} {M : hyM} {Q : hyQ} {kc ks pc : Nat} {L : hyL} {st : List hyV} {w : hyW} {i : Nat} {x : hyV} (hr : hy_isref x) (hd : decode M.2.1 pc = .ok (.aload i, 2)) (hx : L[i]? = some (some x)) (K : hy_X scr d M Q kc ks (pc + 2, L, x :: st, w)) : hy_X scr d M Q kc ks (pc, L, st, w) :=
  hy_s0 (fun p l e R s m args below meth c A dC dI b Qf ρ κ H locs cells slots ls h1 h2 h3 h4 h7 h8 h9 kk => by
    obtain ⟨a, ha⟩ := hy_isref_v hr b ρ
    have h := h7.2.2.2 _ _ hx
    rw [List.map_cons, ha] at kk
    rw [ha] at h
    exact lv_aload h1.1 h1.2.1 hd h kk) K
theorem hy_x_istore_n {scr : hyS} {d : Nat} {M : hyM} {Q : hyQ} {kc ks pc : Nat} {L : hyL} {st : List hyV} {w : hyW} {k : Fin 4} {x : Int32} (hd : decode M.2.1 pc = .ok (.istore_n k, 1)) (hn : k.val < L.length) (K : hy_X scr d M Q kc ks (pc + 1, L.set k.val (some (.inl x)), st, w)) : hy_X scr d M Q kc ks (pc, L, .inl x :: st, w) :=
  hy_s1 (fun p l e R s m args below meth c A b Qf ρ H locs cells slots ls h1 h7 h8 kk => lv_istore_n h1.1 h1.2.1 hd rfl h8 (h7.2.1 ▸ hn) rfl kk) K
theorem hy_x_istore {scr : hyS} {d : Nat} {M : hyM} {Q : hyQ} {kc ks pc : Nat} {L : hyL} {st : List hyV} {w : hyW} {i : Nat} {x : Int32} (hd : decode M.2.1 pc = .ok (.istore i, 2)) (hn : i < L.length) (K : hy_X scr d M Q kc ks (pc + 2, L.set i (some (.inl x)), st, w)) : hy_X scr d M Q kc ks (pc, L, .inl x :: st, w) :=
  hy_s1 (fun p l e R s m args below meth c A b Qf ρ H locs cells slots ls h1 h7 h8 kk => lv_istore h1.1 h1.2.1 hd h8 (h7.2.1 ▸ hn) rfl kk) K
theorem hy_x_astore_n {scr : hyS} {d : Nat} {M : hyM} {Q : hyQ} {kc ks pc : Nat} {L : hyL} {st : List hyV} {w : hyW} {k : Fin 4} {x : Nat} (hd : decode M.2.1 pc = .ok (.astore_n k, 1)) (hn : k.val < L.length) (K : hy_X scr d M Q kc ks (pc + 1, L.set k.val (some (.inr (.inl x))), st, w)) : hy_X scr d M Q kc ks (pc, L, .inr (.inl x) :: st, w) :=
  hy_s1 (fun p l e R s m args below meth c A b Qf ρ H locs cells slots ls h1 h7 h8 kk => lv_astore_n h1.1 h1.2.1 hd rfl h8 (h7.2.1 ▸ hn) rfl kk) K
theorem hy_x_astore {scr : hyS} {d : Nat} {M : hyM} {Q : hyQ} {kc ks pc : Nat} {L : hyL} {st : List hyV} {w : hyW} {i : Nat} {x : Nat} (hd : decode M.2.1 pc = .ok (.astore i, 2)) (hn : i < L.length) (K : hy_X scr d M Q kc ks (pc + 2, L.set i (some (.inr (.inl x))), st, w)) : hy_X scr d M Q kc ks (pc, L, .inr (.inl x) :: st, w) :=
  hy_s1 (fun p l e R s m args below meth c A b Qf ρ H locs cells slots ls h1 h7 h8 kk => lv_astore h1.1 h1.2.1 hd h8 (h7.2.1 ▸ hn) rfl kk) K
theorem hy_x_iinc {scr : hyS} {d : Nat} {M : hyM} {Q : hyQ} {kc ks pc : Nat} {L : hyL} {st : List hyV} {w : hyW} {i : Nat} {n : Int} {x v : Int32} (hd : decode M.2.1 pc = .ok (.iinc i n, 3)) (hv : Int32.ofInt n = v) (hx : L[i]? = some (some (.inl x))) (K : hy_X scr d M Q kc ks (pc + 3, L.set i (some (.inl (x + v))), st, w)) : hy_X scr d M Q kc ks (pc, L, st, w) :=
  hy_s1 (fun p l e R s m args below meth c A b Qf ρ H locs cells slots ls h1 h7 h8 kk => by
    obtain ⟨k, hk⟩ := List.getElem?_of_mem (hy_lv_mem.mpr ⟨_, hx, rfl⟩ : (i, hy_v b ρ (.inl x)) ∈ hy_lv b ρ L)
    subst hv
    exact lv_iinc h1.1 h1.2.1 hd h8 hk rfl (h7.2.1 ▸ (List.getElem?_eq_some_iff.mp hx).1) rfl kk) K
theorem hy_x_iconst {scr : hyS} {d : Nat} {M : hyM} {Q : hyQ} {kc ks pc : Nat} {L : hyL} {st : List hyV} {w : hyW} {n : Int} {v : Int32} (hd : decode M.2.1 pc = .ok (.iconst n, 1)) (hv : Int32.ofInt n = v) (K : hy_X scr d M Q kc ks (pc + 1, L, .inl v :: st, w)) : hy_X scr d M Q kc ks (pc, L, st, w) :=
  hy_s0 (fun p l e R s m args below meth c A dC dI b Qf ρ κ H locs cells slots ls h1 h2 h3 h4 h7 h8 h9 kk => lv_iconst h1.1 h1.2.1 hd hv kk) K
theorem hy_x_bipush {scr : hyS} {d : Nat} {M : hyM} {Q : hyQ} {kc ks pc : Nat} {L : hyL} {st : List hyV} {w : hyW} {n : Int} {v : Int32} (hd : decode M.2.1 pc = .ok (.bipush n, 2)) (hv : (Int8.ofInt n).toInt32 = v) (K : hy_X scr d M Q kc ks (pc + 2, L, .inl v :: st, w)) : hy_X scr d M Q kc ks (pc, L, st, w) :=
  hy_s0 (fun p l e R s m args below meth c A dC dI b Qf ρ κ H locs cells slots ls h1 h2 h3 h4 h7 h8 h9 kk => lv_bipush h1.1 h1.2.1 hd hv kk) K
theorem hy_x_sipush {scr : hyS} {d : Nat} {M : hyM} {Q : hyQ} {kc ks pc : Nat} {L : hyL} {st : List hyV} {w : hyW} {n : Int} {v : Int32} (hd : decode M.2.1 pc = .ok (.sipush n, 3)) (hv : (Int16.ofInt n).toInt32 = v) (K : hy_X scr d M Q kc ks (pc + 3, L, .inl v :: st, w)) : hy_X scr d M Q kc ks (pc, L, st, w) :=
  hy_s0 (fun p l e R s m args below meth c A dC dI b Qf ρ κ H locs cells slots ls h1 h2 h3 h4 h7 h8 h9 kk => lv_sipush h1.1 h1.2.1 hd hv kk) K
theorem hy_x_ldc {scr : hyS} {d : Nat} {M : hyM} {Q : hyQ} {kc ks pc : Nat} {L : hyL} {st : List hyV} {w : hyW} {i : Nat} {v : Int32} (hd : decode M.2.1 pc = .ok (.ldc i, 2)) (hv : Cond.constant M.1.cls i v ∈ hy_tt) (K : hy_X scr d M Q kc ks (pc + 2, L, .inl v :: st, w)) : hy_X scr d M Q kc ks (pc, L, st, w) :=
  hy_s0 (fun p l e R s m args below meth c A dC dI b Qf ρ κ H locs cells slots ls h1 h2 h3 h4 h7 h8 h9 kk => lv_ldc h1.1 h1.2.1 h1.2.2.2.1 (h1.2.2.2.2.1 _ hv) hd kk) K
theorem hy_x_ldcw {scr : hyS} {d : Nat} {M : hyM} {Q : hyQ} {kc ks pc : Nat} {L : hyL} {st : List hyV} {w : hyW} {i : Nat} {v : Int32} (hd : decode M.2.1 pc = .ok (.ldc_w i, 3)) (hv : Cond.constant M.1.cls i v ∈ hy_tt) (K : hy_X scr d M Q kc ks (pc + 3, L, .inl v :: st, w)) : hy_X scr d M Q kc ks (pc, L, st, w) :=
  hy_s0 (fun p l e R s m args below meth c A dC dI b Qf ρ κ H locs cells slots ls h1 h2 h3 h4 h7 h8 h9 kk => lv_ldcw h1.1 h1.2.1 h1.2.2.2.1 (h1.2.2.2.2.1 _ hv) hd kk) K
theorem hy_x_icmp {scr : hyS} {d : Nat} {M : hyM} {Q : hyQ} {kc ks pc a : Nat} {L : hyL} {st : List hyV} {w : hyW} {cd : ClassFile.Cond} {off : Int} {x y : Int32} (hd : decode M.2.1 pc = .ok (.if_icmp cd off, 3)) (ht : (pc : Int) + off = (a : Int)) (kt : hy_cmp cd x y → hy_X scr d M Q kc ks (a, L, st, w)) (kf : ¬ hy_cmp cd x y → hy_X scr d M Q kc ks (pc + 3, L, st, w)) : hy_X scr d M Q kc ks (pc, L, .inl y :: .inl x :: st, w) := by
  intro p l e R s m args below meth c A dC dI b Qf ρ κ H locs cells slots ls h1 h2 h3 h4 h5 h6 h7 h8 h9 h10
  have k1 := fun q => kt q p l e R s m args below meth c A dC dI b Qf ρ κ H locs cells slots ls h1 h2 h3 h4 h5 h6 h7 h8 h9 h10
  have k2 := fun q => kf q p l e R s m args below meth c A dC dI b Qf ρ κ H locs cells slots ls h1 h2 h3 h4 h5 h6 h7 h8 h9 h10
  cases cd with
  | eq => exact lv_icmp_eq h1.1 h1.2.1 hd ht k1 k2
  | ne => exact lv_icmp_ne h1.1 h1.2.1 hd ht k1 (fun q => k2 (fun h => h q))
  | lt => exact lv_icmp_lt h1.1 h1.2.1 hd ht k1 k2
  | ge => exact lv_icmp_ge h1.1 h1.2.1 hd ht k1 k2
  | gt => exact lv_icmp_gt h1.1 h1.2.1 hd ht k1 k2
  | le => exact lv_icmp_le h1.1 h1.2.1 hd ht k1 k2
theorem hy_x_if {scr : hyS} {d : Nat} {M : hyM} {Q : hyQ} {kc ks pc a : Nat} {L : hyL} {st : List hyV} {w : hyW} {cd : ClassFile.Cond} {off : Int} {x : Int32} (hd : decode M.2.1 pc = .ok (.ifCond cd off, 3)) (ht : (pc : Int) + off = (a : Int)) (kt : hy_cmp cd x 0 → hy_X scr d M Q kc ks (a, L, st, w)) (kf : ¬ hy_cmp cd x 0 → hy_X scr d M Q kc ks (pc + 3, L, st, w)) : hy_X scr d M Q kc ks (pc, L, .inl x :: st, w) := by
  intro p l e R s m args below meth c A dC dI b Qf ρ κ H locs cells slots ls h1 h2 h3 h4 h5 h6 h7 h8 h9 h10
  have k1 := fun q => kt q p l e R s m args below meth c A dC dI b Qf ρ κ H locs cells slots ls h1 h2 h3 h4 h5 h6 h7 h8 h9 h10
  have k2 := fun q => kf q p l e R s m args below meth c A dC dI b Qf ρ κ H locs cells slots ls h1 h2 h3 h4 h5 h6 h7 h8 h9 h10
  cases cd with
  | eq => exact lv_if_eq h1.1 h1.2.1 hd ht k1 k2
  | ne => exact lv_if_ne h1.1 h1.2.1 hd ht k1 (fun q => k2 (fun h => h q))
  | lt => exact lv_if_lt h1.1 h1.2.1 hd ht k1 k2
  | ge => exact lv_if_ge h1.1 h1.2.1 hd ht k1 k2
  | gt => exact lv_if_gt h1.1 h1.2.1 hd ht k1 k2
  | le => exact lv_if_le h1.1 h1.2.1 hd ht k1 k2
def hy_tg (x : Int) (a : Nat) : List (Int × Nat) → Nat
  | [] => a
  | s :: r => if x = s.1 then s.2 else hy_tg x a r
theorem hy_sw_ok {x : Int32} {a : Nat} {K : Nat → Prop} : ∀ {sw : List (Int × Nat)}, hy_sw x (K a) K sw → K (hy_tg x.toInt a sw)
  | [], h => h
  | s :: r, h => by
    by_cases e : x.toInt = s.1
    · rw [hy_tg, if_pos e]; exact h.1 e
    · rw [hy_tg, if_neg e]; exact hy_sw_ok (h.2 e)
theorem hy_tsw_in {pc a : Nat} {x : Int} : ∀ {lo : Int} {offs : List Int} {sw : List (Int × Nat)}, hy_tsw pc lo offs sw = true → lo ≤ x → x < lo + (offs.length : Int) → ∃ o, offs[(x - lo).toNat]? = some o ∧ (pc : Int) + o = (hy_tg x a sw : Nat)
  | lo, [], [], _, h1, h2 => absurd h2 (by simp; omega)
  | lo, o :: os, s :: ss, h, h1, h2 => by
    simp only [hy_tsw, Bool.and_eq_true, decide_eq_true_eq] at h
    by_cases e : x = s.1
    · rw [hy_tg, if_pos e]
      have : (x - lo).toNat = 0 := by omega
      exact ⟨o, by rw [this]; rfl, h.1.2⟩
    · rw [hy_tg, if_neg e]
      have hlt : lo + 1 ≤ x := by omega
      obtain ⟨o', a1, a2⟩ := hy_tsw_in (a := a) h.2 hlt (by simp at h2; omega)
      refine ⟨o', ?_, a2⟩
      have : (x - lo).toNat = (x - (lo + 1)).toNat + 1 := by omega
      rw [this]; simpa using a1
  | lo, [], _ :: _, h, _, _ => by cases h
  | lo, _ :: _, [], h, _, _ => by cases h
theorem hy_tsw_out {pc a : Nat} {x : Int} : ∀ {lo : Int} {offs : List Int} {sw : List (Int × Nat)}, hy_tsw pc lo offs sw = true → (x < lo ∨ lo + (offs.length : Int) ≤ x) → hy_tg x a sw = a
  | lo, [], [], _, _ => rfl
  | lo, o :: os, s :: ss, h, h2 => by
    simp only [hy_tsw, Bool.and_eq_true, decide_eq_true_eq] at h
    have hl : ((o :: os).length : Int) = (os.length : Int) + 1 := by simp
    rw [hl] at h2
    have e : ¬ x = s.1 := by omega
    rw [hy_tg, if_neg e]
    exact hy_tsw_out h.2 (by omega)
  | lo, [], _ :: _, h, _ => by cases h
  | lo, _ :: _, [], h, _ => by cases h
theorem hy_lsw_ok {pc : Nat} {dflt : Int} {a : Nat} (x : Int) (ha : (pc : Int) + dflt = (a : Int)) : ∀ {ps : List (Int × Int)} {sw : List (Int × Nat)}, hy_lsw pc ps sw = true → (pc : Int) + Op.lookupswitch.offset ps dflt x = (hy_tg x a sw : Nat)
  | [], [], _ => ha
  | o :: os, s :: ss, h => by
    simp only [hy_lsw, Bool.and_eq_true, decide_eq_true_eq] at h
    obtain ⟨o1, o2⟩ := o
    by_cases e : x = s.1
    · rw [hy_tg, if_pos e]
      have h2 : o1 = x := by rw [e]; exact h.1.1.symm
      have : Op.lookupswitch.offset ((o1, o2) :: os) dflt x = o2 := by simp [Op.lookupswitch.offset, h2]
      rw [this]; exact h.1.2
    · rw [hy_tg, if_neg e]
      have h2 : ¬ o1 = x := by intro q; apply e; rw [← q]; exact h.1.1.symm
      have : Op.lookupswitch.offset ((o1, o2) :: os) dflt x = Op.lookupswitch.offset os dflt x := by simp [Op.lookupswitch.offset, h2]
      rw [this]; exact hy_lsw_ok x ha h.2
  | [], _ :: _, h => by cases h
  | _ :: _, [], h => by cases h
