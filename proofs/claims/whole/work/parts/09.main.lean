/-! ===== the pure step is sound ===== -/
def hy_pfok (pf : hyP) : Prop := pf 0 = none ∧ ∀ (a n : Nat) (g : List Int32 → Int32), pf a = some (n, g) → ∀ (xs : List Int32) (w : hyW), xs.length = n → hy_R 3 (hy_pm a) 0 0 (xs.map (fun x => Sum.inl x)) w (fun o w1 => o = some (g xs) ∧ w1 = w)
theorem hy_pf0 : hy_pfok (fun _ => none) := ⟨rfl, fun a n g h => by cases h⟩
theorem hy_blt {a b : Nat} (h : Nat.ble a b = true) : a ≤ b := Nat.le_of_ble_eq_true h
set_option maxHeartbeats 4000000 in
theorem hy_st_ok {pf : hyP} {scr : hyS} {d : Nat} {M : hyM} {Q : hyQ} {pc : Nat} {e : hyE} {kc ks : Nat} {L : hyL} {st : List hyV} {w : hyW} {K : Nat → Nat → hyF → Prop} (hpf : hy_pfok pf) (hok : hy_ok M pc e = true) (hK : ∀ kc ks f, K kc ks f → hy_X scr d M Q kc ks f) (h : hy_st pf scr d Q e kc ks L st w K) : hy_X scr d M Q kc ks (pc, L, st, w) := by
  obtain ⟨len, hd, hnx⟩ := hy_ok_dec hok
  have hlk : hy_lk M pc e = true := (hy_and1 hok).2
  obtain ⟨ins, nx, a, b, c, r, v, mo, sw⟩ := e
  dsimp only at hd hnx
  cases ins with
  | iload_n k =>
    simp only [hy_lk, Bool.and_eq_true, decide_eq_true_eq] at hlk
    obtain ⟨rfl, rfl⟩ := hlk
    obtain rfl : len = 1 := by omega
    obtain ⟨o, h1, h2⟩ := hy_nth_ok h
    match o, h1, h2 with
    | some (.inl x), h1, h2 => exact hy_x_iload_n hd h1 (hK _ _ _ h2)
  | iload k =>
    simp only [hy_lk, Bool.and_eq_true, decide_eq_true_eq] at hlk
    obtain ⟨rfl, rfl⟩ := hlk
    obtain rfl : len = 2 := by omega
    obtain ⟨o, h1, h2⟩ := hy_nth_ok h
    match o, h1, h2 with
    | some (.inl x), h1, h2 => exact hy_x_iload hd h1 (hK _ _ _ h2)
  | aload_n k =>
    simp only [hy_lk, Bool.and_eq_true, decide_eq_true_eq] at hlk
    obtain ⟨rfl, rfl⟩ := hlk
    obtain rfl : len = 1 := by omega
    obtain ⟨o, h1, h2⟩ := hy_nth_ok h
    match o, h1, h2 with
    | some (.inr (.inl x)), h1, h2 => exact hy_x_aload_n (Or.inl ⟨_, rfl⟩) hd h1 (hK _ _ _ h2)
    | some (.inr (.inr true)), h1, h2 => exact hy_x_aload_n (Or.inr rfl) hd h1 (hK _ _ _ h2)
  | aload k =>
    simp only [hy_lk, Bool.and_eq_true, decide_eq_true_eq] at hlk
    obtain ⟨rfl, rfl⟩ := hlk
    obtain rfl : len = 2 := by omega
    obtain ⟨o, h1, h2⟩ := hy_nth_ok h
    match o, h1, h2 with
    | some (.inr (.inl x)), h1, h2 => exact hy_x_aload (Or.inl ⟨_, rfl⟩) hd h1 (hK _ _ _ h2)
    | some (.inr (.inr true)), h1, h2 => exact hy_x_aload (Or.inr rfl) hd h1 (hK _ _ _ h2)
  | istore_n k =>
    simp only [hy_lk, Bool.and_eq_true, decide_eq_true_eq] at hlk
    obtain ⟨rfl, rfl⟩ := hlk
    obtain rfl : len = 1 := by omega
    match st, h with
    | .inl x :: st', h =>
      obtain ⟨h1, h2⟩ := hy_upd_ok h
      exact hy_x_istore_n hd h1 (hK _ _ _ h2)
  | istore k =>
    simp only [hy_lk, Bool.and_eq_true, decide_eq_true_eq] at hlk
    obtain ⟨rfl, rfl⟩ := hlk
    obtain rfl : len = 2 := by omega
    match st, h with
    | .inl x :: st', h =>
      obtain ⟨h1, h2⟩ := hy_upd_ok h
      exact hy_x_istore hd h1 (hK _ _ _ h2)
  | astore_n k =>
    simp only [hy_lk, Bool.and_eq_true, decide_eq_true_eq] at hlk
    obtain ⟨rfl, rfl⟩ := hlk
    obtain rfl : len = 1 := by omega
    match st, h with
    | .inr (.inl x) :: st', h =>
      obtain ⟨h1, h2⟩ := hy_upd_ok h
      exact hy_x_astore_n hd h1 (hK _ _ _ h2)
  | astore k =>
    simp only [hy_lk, Bool.and_eq_true, decide_eq_true_eq] at hlk
    obtain ⟨rfl, rfl⟩ := hlk
    obtain rfl : len = 2 := by omega
    match st, h with
    | .inr (.inl x) :: st', h =>
      obtain ⟨h1, h2⟩ := hy_upd_ok h
      exact hy_x_astore hd h1 (hK _ _ _ h2)
  | iconst n =>
    simp only [hy_lk, Bool.and_eq_true, decide_eq_true_eq] at hlk
    obtain ⟨rfl, hv⟩ := hlk
    obtain rfl : len = 1 := by omega
    exact hy_x_iconst hd hv (hK _ _ _ h)
  | bipush n =>
    simp only [hy_lk, Bool.and_eq_true, decide_eq_true_eq] at hlk
    obtain ⟨rfl, hv⟩ := hlk
    obtain rfl : len = 2 := by omega
    exact hy_x_bipush hd hv (hK _ _ _ h)
  | sipush n =>
    simp only [hy_lk, Bool.and_eq_true, decide_eq_true_eq] at hlk
    obtain ⟨rfl, hv⟩ := hlk
    obtain rfl : len = 3 := by omega
    exact hy_x_sipush hd hv (hK _ _ _ h)
  | ldc i =>
    simp only [hy_lk, Bool.and_eq_true, decide_eq_true_eq] at hlk
    obtain ⟨rfl, hv⟩ := hlk
    obtain rfl : len = 2 := by omega
    exact hy_x_ldc hd (hy_inT_mem hv) (hK _ _ _ h)
  | ldc_w i =>
    simp only [hy_lk, Bool.and_eq_true, decide_eq_true_eq] at hlk
    obtain ⟨rfl, hv⟩ := hlk
    obtain rfl : len = 3 := by omega
    exact hy_x_ldcw hd (hy_inT_mem hv) (hK _ _ _ h)
  | iinc i n =>
    simp only [hy_lk, Bool.and_eq_true, decide_eq_true_eq] at hlk
    obtain ⟨⟨rfl, rfl⟩, hv⟩ := hlk
    obtain rfl : len = 3 := by omega
    obtain ⟨o, h1, h2⟩ := hy_nth_ok h
    match o, h1, h2 with
    | some (.inl x), h1, h2 => exact hy_x_iinc hd hv h1 (hK _ _ _ (hy_upd_ok h2).2)
  | iadd =>
    simp only [hy_lk, decide_eq_true_eq] at hlk
    subst hlk
    obtain rfl : len = 1 := by omega
    match st, h with
    | .inl y :: .inl x :: st', h => exact hy_s0 (fun p l e R s m args below meth c A dC dI b Qf ρ κ H locs cells slots ls h1 h2 h3 h4 h7 h8 h9 kk => lv_iadd h1.1 h1.2.1 hd kk) (hK _ _ _ h)
  | isub =>
    simp only [hy_lk, decide_eq_true_eq] at hlk
    subst hlk
    obtain rfl : len = 1 := by omega
    match st, h with
    | .inl y :: .inl x :: st', h => exact hy_s0 (fun p l e R s m args below meth c A dC dI b Qf ρ κ H locs cells slots ls h1 h2 h3 h4 h7 h8 h9 kk => lv_isub h1.1 h1.2.1 hd kk) (hK _ _ _ h)
  | imul =>
    simp only [hy_lk, decide_eq_true_eq] at hlk
    subst hlk
    obtain rfl : len = 1 := by omega
    match st, h with
    | .inl y :: .inl x :: st', h => exact hy_s0 (fun p l e R s m args below meth c A dC dI b Qf ρ κ H locs cells slots ls h1 h2 h3 h4 h7 h8 h9 kk => lv_imul h1.1 h1.2.1 hd kk) (hK _ _ _ h)
  | iand =>
    simp only [hy_lk, decide_eq_true_eq] at hlk
    subst hlk
    obtain rfl : len = 1 := by omega
    match st, h with
    | .inl y :: .inl x :: st', h => exact hy_s0 (fun p l e R s m args below meth c A dC dI b Qf ρ κ H locs cells slots ls h1 h2 h3 h4 h7 h8 h9 kk => lv_iand h1.1 h1.2.1 hd kk) (hK _ _ _ h)
  | ior =>
    simp only [hy_lk, decide_eq_true_eq] at hlk
    subst hlk
    obtain rfl : len = 1 := by omega
    match st, h with
    | .inl y :: .inl x :: st', h => exact hy_s0 (fun p l e R s m args below meth c A dC dI b Qf ρ κ H locs cells slots ls h1 h2 h3 h4 h7 h8 h9 kk => lv_ior h1.1 h1.2.1 hd kk) (hK _ _ _ h)
  | ixor =>
    simp only [hy_lk, decide_eq_true_eq] at hlk
    subst hlk
    obtain rfl : len = 1 := by omega
    match st, h with
    | .inl y :: .inl x :: st', h => exact hy_s0 (fun p l e R s m args below meth c A dC dI b Qf ρ κ H locs cells slots ls h1 h2 h3 h4 h7 h8 h9 kk => lv_ixor h1.1 h1.2.1 hd kk) (hK _ _ _ h)
  | ishl =>
    simp only [hy_lk, decide_eq_true_eq] at hlk
    subst hlk
    obtain rfl : len = 1 := by omega
    match st, h with
    | .inl y :: .inl x :: st', h => exact hy_s0 (fun p l e R s m args below meth c A dC dI b Qf ρ κ H locs cells slots ls h1 h2 h3 h4 h7 h8 h9 kk => lv_ishl h1.1 h1.2.1 hd kk) (hK _ _ _ h)
  | ishr =>
    simp only [hy_lk, decide_eq_true_eq] at hlk
    subst hlk
    obtain rfl : len = 1 := by omega
    match st, h with
    | .inl y :: .inl x :: st', h => exact hy_s0 (fun p l e R s m args below meth c A dC dI b Qf ρ κ H locs cells slots ls h1 h2 h3 h4 h7 h8 h9 kk => lv_ishr h1.1 h1.2.1 hd kk) (hK _ _ _ h)
  | iushr =>
    simp only [hy_lk, decide_eq_true_eq] at hlk
    subst hlk
    obtain rfl : len = 1 := by omega
    match st, h with
    | .inl y :: .inl x :: st', h => exact hy_s0 (fun p l e R s m args below meth c A dC dI b Qf ρ κ H locs cells slots ls h1 h2 h3 h4 h7 h8 h9 kk => lv_iushr h1.1 h1.2.1 hd rfl kk) (hK _ _ _ h)
  | idiv =>
    simp only [hy_lk, decide_eq_true_eq] at hlk
    subst hlk
    obtain rfl : len = 1 := by omega
    match st, h with
    | .inl y :: .inl x :: st', h => exact hy_s0 (fun p l e R s m args below meth c A dC dI b Qf ρ κ H locs cells slots ls h1 h2 h3 h4 h7 h8 h9 kk => lv_idiv h1.1 h1.2.1 hd h.1 kk) (hK _ _ _ h.2)
  | dup =>
    simp only [hy_lk, decide_eq_true_eq] at hlk
    subst hlk
    obtain rfl : len = 1 := by omega
    match st, h with
    | x :: st', h => exact hy_s0 (fun p l e R s m args below meth c A dC dI b Qf ρ κ H locs cells slots ls h1 h2 h3 h4 h7 h8 h9 kk => lv_dup h1.1 h1.2.1 hd (hy_v_cat _ _ _) kk) (hK _ _ _ h)
  | dup2 =>
    simp only [hy_lk, decide_eq_true_eq] at hlk
    subst hlk
    obtain rfl : len = 1 := by omega
    match st, h with
    | x :: y :: st', h => exact hy_s0 (fun p l e R s m args below meth c A dC dI b Qf ρ κ H locs cells slots ls h1 h2 h3 h4 h7 h8 h9 kk => lv_dup2_11 h1.1 h1.2.1 hd (hy_v_cat _ _ _) (hy_v_cat _ _ _) kk) (hK _ _ _ h)
  | goto off =>
    simp only [hy_lk, Bool.and_eq_true, decide_eq_true_eq] at hlk
    obtain rfl : len = 3 := by omega
    exact hy_s0 (fun p l e R s m args below meth c A dC dI b Qf ρ κ H locs cells slots ls h1 h2 h3 h4 h7 h8 h9 kk => lv_goto h1.1 h1.2.1 hd hlk.2 kk) (hK _ _ _ h)
  | if_icmp cd off =>
    simp only [hy_lk, Bool.and_eq_true, decide_eq_true_eq] at hlk
    obtain ⟨rfl, ht⟩ := hlk
    obtain rfl : len = 3 := by omega
    match st, h with
    | .inl y :: .inl x :: st', h =>
      have hb := hy_br_ok h
      exact hy_x_icmp hd ht (fun q => hK _ _ _ (hb.1 q)) (fun q => hK _ _ _ (hb.2 q))
  | ifCond cd off =>
    simp only [hy_lk, Bool.and_eq_true, decide_eq_true_eq] at hlk
    obtain ⟨rfl, ht⟩ := hlk
    obtain rfl : len = 3 := by omega
    match st, h with
    | .inl x :: st', h =>
      have hb := hy_br_ok h
      exact hy_x_if hd ht (fun q => hK _ _ _ (hb.1 q)) (fun q => hK _ _ _ (hb.2 q))
  | tableswitch df lo hi offs =>
    simp only [hy_lk, Bool.and_eq_true, decide_eq_true_eq] at hlk
    obtain ⟨⟨h1, h2⟩, h3⟩ := hlk
    match st, h with
    | .inl x :: st', h =>
      have hs := hy_sw_ok (K := fun t => K kc ks (t, L, st', w)) h
      refine hy_s0 (fun p l e R s m args below meth c A dC dI b Qf ρ κ H locs cells slots ls g1 g2 g3 g4 g7 g8 g9 kk => ?_) (hK _ _ _ hs)
      have hl : (offs.toList.length : Int) = offs.size := by simp
      by_cases hin : x.toInt < lo ∨ hi < x.toInt
      · refine lv_tableOut g1.1 g1.2.1 hd hin ?_ kk
        rw [hy_tsw_out h3 (by omega)]
        exact h1
      · obtain ⟨o, o1, o2⟩ := hy_tsw_in (a := a) (x := x.toInt) h3 (by omega) (by omega)
        exact lv_tableIn g1.1 g1.2.1 hd (by omega) (by omega) (by rw [← Array.getElem?_toList]; exact o1) o2 kk
  | lookupswitch df ps =>
    simp only [hy_lk, Bool.and_eq_true, decide_eq_true_eq] at hlk
    obtain ⟨⟨h1, h2⟩, h3⟩ := hlk
    match st, h with
    | .inl x :: st', h =>
      have hs := hy_sw_ok (K := fun t => K kc ks (t, L, st', w)) h
      exact hy_s0 (fun p l e R s m args below meth c A dC dI b Qf ρ κ H locs cells slots ls g1 g2 g3 g4 g7 g8 g9 kk => lv_lookup g1.1 g1.2.1 hd h2 rfl (hy_lsw_ok x.toInt h1 h3) kk) (hK _ _ _ hs)
  | getfield i =>
    simp only [hy_lk] at hlk
    cases hc : vwCl[a]? with
    | none => rw [hc] at hlk; cases hlk
    | some q =>
      obtain ⟨C, T, N⟩ := q
      rw [hc] at hlk
      simp only [Bool.and_eq_true, decide_eq_true_eq] at hlk
      obtain ⟨⟨rfl, hb⟩, hl⟩ := hlk
      obtain rfl : len = 3 := by omega
      match st, h with
      | .inr (.inl k) :: st', h =>
        obtain ⟨cl, h1, h2⟩ := hy_nth_ok h
        rcases cl with c1 | ⟨ci, fs⟩
        · exact h2.elim
        · cases hci : Nat.beq ci a with
          | false => simp only [hci] at h2
          | true =>
            simp only [hci] at h2
            obtain rfl := Nat.eq_of_beq_eq_true hci
            obtain ⟨x, h3, h4⟩ := hy_nth_ok h2
            exact hy_x_get hd hc hb (hy_inT_mem hl) h1 h3 (hK _ _ _ h4)
  | putfield i =>
    simp only [hy_lk] at hlk
    cases hc : vwCl[a]? with
    | none => rw [hc] at hlk; cases hlk
    | some q =>
      obtain ⟨C, T, N⟩ := q
      rw [hc] at hlk
      simp only [Bool.and_eq_true, decide_eq_true_eq] at hlk
      obtain ⟨⟨⟨rfl, hb⟩, hl⟩, hfk⟩ := hlk
      obtain rfl : len = 3 := by omega
      match st, h with
      | x :: .inr (.inl k) :: st', h =>
        obtain ⟨cl, h1, h2⟩ := hy_nth_ok h
        rcases cl with c1 | ⟨ci, fs⟩
        · exact h2.elim
        · cases hci : Nat.beq ci a with
          | false => simp only [hci] at h2
          | true =>
            simp only [hci] at h2
            obtain rfl := Nat.eq_of_beq_eq_true hci
            obtain ⟨h3, -⟩ := hy_fits_ok h2
            obtain ⟨h4, h5⟩ := hy_upd_ok h3
            exact hy_x_put hd hc hb (hy_inT_mem hl) hfk h2 h1 h4 (hK _ _ _ (hy_upd_ok h5).2)
  | iaload =>
    simp only [hy_lk, decide_eq_true_eq] at hlk
    subst hlk
    obtain rfl : len = 1 := by omega
    match st, h with
    | .inl i :: .inr (.inl k) :: st', h =>
      obtain ⟨cl, h1, h2⟩ := hy_nth_ok h
      match cl, h1, h2 with
      | .inl (false, n, f), h1, h2 => exact hy_x_iald hd h1 h2.1 (hK _ _ _ h2.2)
    | .inl i :: .inr (.inr true) :: st', h =>
      match scr, h, hK with
      | some (L1, xs), h, hK => exact hy_x_sld hd h.1 (hK _ _ _ h.2)
  | baload =>
    simp only [hy_lk, decide_eq_true_eq] at hlk
    subst hlk
    obtain rfl : len = 1 := by omega
    match st, h with
    | .inl i :: .inr (.inl k) :: st', h =>
      obtain ⟨cl, h1, h2⟩ := hy_nth_ok h
      match cl, h1, h2 with
      | .inl (true, n, f), h1, h2 => exact hy_x_zald hd h1 h2.1 (hK _ _ _ h2.2)
  | iastore =>
    simp only [hy_lk, decide_eq_true_eq] at hlk
    subst hlk
    obtain rfl : len = 1 := by omega
    match st, h with
    | .inl x :: .inl i :: .inr (.inl k) :: st', h =>
      obtain ⟨cl, h1, h2⟩ := hy_nth_ok h
      match cl, h1, h2 with
      | .inl (false, n, f), h1, h2 => exact hy_x_iast hd h1 h2.1 (hK _ _ _ (hy_upd_ok h2.2).2)
  | bastore =>
    simp only [hy_lk, decide_eq_true_eq] at hlk
    subst hlk
    obtain rfl : len = 1 := by omega
    match st, h with
    | .inl x :: .inl i :: .inr (.inl k) :: st', h =>
      obtain ⟨cl, h1, h2⟩ := hy_nth_ok h
      match cl, h1, h2 with
      | .inl (true, n, f), h1, h2 => exact hy_x_zast hd h1 h2.1 (hK _ _ _ (hy_upd_ok h2.2).2)
  | arraylength =>
    simp only [hy_lk, decide_eq_true_eq] at hlk
    subst hlk
    obtain rfl : len = 1 := by omega
    match st, h with
    | .inr (.inr true) :: st', h =>
      match scr, h, hK with
      | some (L1, xs), h, hK => exact hy_x_slen hd (hK _ _ _ h)
  | ireturn =>
    simp only [hy_lk, decide_eq_true_eq] at hlk
    obtain rfl : len = 1 := by omega
    match st, h with
    | [.inl x], h => exact hy_x_ireturn hd h
  | return_ =>
    simp only [hy_lk, decide_eq_true_eq] at hlk
    obtain rfl : len = 1 := by omega
    match st, h with
    | [], h => exact hy_x_return hd h
  | new i =>
    simp only [hy_lk] at hlk
    cases hc : vwCl[a]? with
    | none => rw [hc] at hlk; cases hlk
    | some q =>
      obtain ⟨C, T, N⟩ := q
      rw [hc] at hlk
      simp only [Bool.and_eq_true, decide_eq_true_eq] at hlk
      obtain ⟨⟨⟨⟨rfl, rfl⟩, l1⟩, l2⟩, l3⟩ := hlk
      obtain rfl : len = 3 := by omega
      simp only [hy_st] at h
      split at h
      · rename_i g1 g2 g3
        exact hy_x_new hd hc (hy_inT_mem l1) (hy_inT_mem l2) (hy_inT_mem l3) (hy_blt g1) (hy_blt g2) g3 (hK _ _ _ h)
      · exact h.elim
  | newarray t =>
    simp only [hy_lk, Bool.and_eq_true, decide_eq_true_eq] at hlk
    obtain ⟨⟨rfl, l1⟩, l2⟩ := hlk
    obtain rfl : len = 2 := by omega
    match st, h with
    | .inl n :: st', h =>
      simp only [hy_st] at h
      split at h
      · rename_i g1 g2 g3
        exact hy_x_newarr hd (hy_inT_mem l1) l2 (hy_blt g1) (hy_blt g2) h.1.1 h.1.2 g3 (hK _ _ _ h.2)
      · exact h.elim
  | invokestatic i =>
    simp only [hy_lk] at hlk
    cases mo with
    | none => cases hlk
    | some Mc =>
      match r, hlk, h with
      | 1, hlk, h =>
        simp only [Bool.and_eq_true, decide_eq_true_eq] at hlk
        obtain ⟨⟨⟨⟨rfl, l1⟩, l2⟩, l3⟩, l4⟩ := hlk
        obtain rfl : len = 3 := by omega
        match st, h with
        | .inl y :: .inl x :: st', h =>
          simp only [hy_st] at h
          split at h
          · rename_i g1 g2
            have g2 := hy_blt g2
            have hr : ∀ (b : Nat) (ρ : Nat → Nat), ((st'.map (hy_v b ρ)).map fun v => v.category).sum ≤ 8 := fun b ρ => by
              have := hy_room_st (m := default) (pc := 0) (ls := #[]) (rest := []) (b := b) (ρ := ρ) (hy_blt g1)
              omega
            intro p l e R s m args below meth c A dC dI b Qf ρ κ H locs cells slots ls a1 a2 a3 a4 a5 a6 a7 a8 a9 a10
            have hr := hr b ρ
            exact va_mmax a1.1 a1.2.1 (a1.2.2.1.trans a7.1.symm) a1.2.2.2.1 (a1.2.2.2.2.1 _ (hy_inT_mem l1)) (a1.2.2.2.2.1 _ (hy_inT_mem l2)) (a1.2.2.2.2.1 _ (hy_inT_mem l3)) (a1.2.2.2.2.1 _ (hy_inT_mem l4)) (by omega) (by omega) (by omega) (by omega) hd (hK _ _ _ h p l e R s m args below meth c A dC dI b Qf ρ κ H locs cells slots ls a1 a2 a3 a4 a5 a6 a7 a8 a9 a10)
          · exact h.elim
      | 2, hlk, h =>
        simp only [Bool.and_eq_true, decide_eq_true_eq] at hlk
        obtain ⟨⟨⟨⟨rfl, l1⟩, l2⟩, l3⟩, l4⟩ := hlk
        obtain rfl : len = 3 := by omega
        match st, h with
        | .inl y :: .inl x :: st', h =>
          simp only [hy_st] at h
          split at h
          · rename_i g1 g2
            have g2 := hy_blt g2
            have hr : ∀ (b : Nat) (ρ : Nat → Nat), ((st'.map (hy_v b ρ)).map fun v => v.category).sum ≤ 8 := fun b ρ => by
              have := hy_room_st (m := default) (pc := 0) (ls := #[]) (rest := []) (b := b) (ρ := ρ) (hy_blt g1)
              omega
            intro p l e R s m args below meth c A dC dI b Qf ρ κ H locs cells slots ls a1 a2 a3 a4 a5 a6 a7 a8 a9 a10
            have hr := hr b ρ
            exact va_mmin a1.1 a1.2.1 (a1.2.2.1.trans a7.1.symm) a1.2.2.2.1 (a1.2.2.2.2.1 _ (hy_inT_mem l1)) (a1.2.2.2.2.1 _ (hy_inT_mem l2)) (a1.2.2.2.2.1 _ (hy_inT_mem l3)) (a1.2.2.2.2.1 _ (hy_inT_mem l4)) (by omega) (by omega) (by omega) (by omega) hd (hK _ _ _ h p l e R s m args below meth c A dC dI b Qf ρ κ H locs cells slots ls a1 a2 a3 a4 a5 a6 a7 a8 a9 a10)
          · exact h.elim
      | 0, hlk, h =>
        simp only [Bool.and_eq_true, decide_eq_true_eq] at hlk
        obtain ⟨⟨⟨⟨⟨rfl, l1⟩, l2⟩, l3⟩, l4⟩, l5⟩ := hlk
        obtain rfl : len = 3 := by omega
        obtain ⟨as, rest, p1, rfl, p3⟩ := hy_pop_ok h
        rw [List.append_nil] at p3
        cases h8 : Nat.ble rest.length 8 with
        | false => simp only [h8] at p3
        | true =>
          simp only [h8] at p3
          have hrun : ∀ d', hy_run M Mc d' 0 0 pc L (as.reverse ++ rest) rest as w := by
            intro d'
            split at l5
            · exact hy_runS hd l1 (hy_inT_mem l3) (hy_inT_mem l5) p1 (hy_blt h8)
            · exact hy_runSN hd l1 (hy_inT_mem l3) (hy_inN_mem l5) p1 (hy_blt h8)
          cases hp : pf a with
          | none =>
            simp only [hp] at p3
            obtain ⟨d', Q1, hR, hdd, hk⟩ := p3
            refine hy_x_call (hrun d') hR hdd (fun o w1 hq => ?_)
            have := hk o w1 hq
            cases o with
            | none => exact hK _ _ _ this
            | some y => exact hK _ _ _ this
          | some q =>
            obtain ⟨n, g⟩ := q
            simp only [hp] at p3
            split at p3
            · rename_i g1 g2
              obtain rfl := Nat.eq_of_beq_eq_true g1
              obtain ⟨xs, rfl, p4⟩ := hy_ints_ok p3
              by_cases ha : a = 0
              · subst ha
                rw [hpf.1] at hp
                cases hp
              · have hM : Mc = hy_pm a := by
                  simp only [Bool.or_eq_true, decide_eq_true_eq] at l4
                  rcases l4 with l4 | l4
                  · exact absurd (Nat.eq_of_beq_eq_true l4) ha
                  · exact l4
                subst hM
                have hR := hpf.2 a n g hp xs w (by simpa using p1)
                refine hy_x_call (hrun 3) hR (hy_blt g2) (fun o w1 hq => ?_)
                obtain ⟨rfl, rfl⟩ := hq
                exact hK _ _ _ p4
            · exact p3.elim
      | r + 3, hlk, h =>
        simp only [Bool.and_eq_true, decide_eq_true_eq] at hlk
        obtain ⟨⟨⟨⟨⟨rfl, l1⟩, l2⟩, l3⟩, l4⟩, l5⟩ := hlk
        obtain rfl : len = 3 := by omega
        obtain ⟨as, rest, p1, rfl, p3⟩ := hy_pop_ok h
        rw [List.append_nil] at p3
        cases h8 : Nat.ble rest.length 8 with
        | false => simp only [h8] at p3
        | true =>
          simp only [h8] at p3
          have hrun : ∀ d', hy_run M Mc d' 0 0 pc L (as.reverse ++ rest) rest as w := by
            intro d'
            split at l5
            · exact hy_runS hd l1 (hy_inT_mem l3) (hy_inT_mem l5) p1 (hy_blt h8)
            · exact hy_runSN hd l1 (hy_inT_mem l3) (hy_inN_mem l5) p1 (hy_blt h8)
          cases hp : pf a with
          | none =>
            simp only [hp] at p3
            obtain ⟨d', Q1, hR, hdd, hk⟩ := p3
            refine hy_x_call (hrun d') hR hdd (fun o w1 hq => ?_)
            have := hk o w1 hq
            cases o with
            | none => exact hK _ _ _ this
            | some y => exact hK _ _ _ this
          | some q =>
            obtain ⟨n, g⟩ := q
            simp only [hp] at p3
            split at p3
            · rename_i g1 g2
              obtain rfl := Nat.eq_of_beq_eq_true g1
              obtain ⟨xs, rfl, p4⟩ := hy_ints_ok p3
              by_cases ha : a = 0
              · subst ha
                rw [hpf.1] at hp
                cases hp
              · have hM : Mc = hy_pm a := by
                  simp only [Bool.or_eq_true, decide_eq_true_eq] at l4
                  rcases l4 with l4 | l4
                  · exact absurd (Nat.eq_of_beq_eq_true l4) ha
                  · exact l4
                subst hM
                have hR := hpf.2 a n g hp xs w (by simpa using p1)
                refine hy_x_call (hrun 3) hR (hy_blt g2) (fun o w1 hq => ?_)
                obtain ⟨rfl, rfl⟩ := hq
                exact hK _ _ _ p4
            · exact p3.elim
  | invokevirtual i =>
    simp only [hy_lk] at hlk
    split at hlk
    · rename_i Mc C T N hmo hc
      simp only [Bool.and_eq_true, decide_eq_true_eq] at hlk
      obtain ⟨⟨⟨⟨⟨rfl, l1⟩, l2⟩, l3⟩, l4⟩, l5⟩ := hlk
      obtain rfl : len = 3 := by omega
      obtain ⟨as, rest, p1, rfl, p3⟩ := hy_pop_ok h
      rw [List.append_nil] at p3
      cases h8 : Nat.ble rest.length 8 with
      | false => simp only [h8] at p3
      | true =>
        simp only [h8] at p3
        match as, p1, p3 with
        | .inr (.inl k) :: as, p1, p3 =>
          obtain ⟨cl, h1, h2⟩ := hy_nth_ok p3
          rcases cl with c1 | ⟨ci, fs⟩
          · exact h2.elim
          · cases hci : Nat.beq ci r with
            | false => simp only [hci] at h2
            | true =>
              simp only [hci] at h2
              obtain rfl := Nat.eq_of_beq_eq_true hci
              obtain ⟨d', Q1, hR, hdd, hk⟩ := h2
              refine hy_x_call (hy_runV hd l1 hc l2 (hy_inT_mem l3) (hy_inT_mem l4) (hy_inT_mem l5) h1 (by simpa using p1) (hy_blt h8)) hR hdd (fun o w1 hq => ?_)
              have := hk o w1 hq
              cases o with
              | none => exact hK _ _ _ this
              | some y => exact hK _ _ _ this
    · cases hlk
  | invokespecial i =>
    simp only [hy_lk] at hlk
    cases mo with
    | none =>
      simp only [Bool.and_eq_true, decide_eq_true_eq] at hlk
      obtain ⟨⟨⟨rfl, l1⟩, l2⟩, l3⟩ := hlk
      obtain rfl : len = 3 := by omega
      match st, h with
      | .inr (.inl k) :: st', h =>
        simp only [hy_st] at h
        split at h
        · rename_i g1 g2
          have g2 := hy_blt g2
          refine hy_s0 (fun p l e R s m args below meth c A dC dI b Qf ρ κ H locs cells slots ls a1 a2 a3 a4 a7 a8 a9 kk => ?_) (hK _ _ _ h)
          refine W.objInit a1.1 a1.2.1 a1.2.2.2.1 (a1.2.2.2.2.1 _ (hy_inT_mem l1)) (a1.2.2.2.2.1 _ (hy_inT_mem l2)) (a1.2.2.2.2.1 _ (hy_inT_mem l3)) rfl (a7.1.trans a1.2.2.1.symm) rfl hd (by omega) ?_ kk
          have := hy_room_st (m := m) (pc := pc) (ls := ls) (rest := (Sum.inr (Sum.inl k) :: st' : List hyV).map (hy_v b ρ)) (b := b) (ρ := ρ) (hy_blt g1)
          omega
        · exact h.elim
    | some Mc =>
      simp only [Bool.and_eq_true, decide_eq_true_eq] at hlk
      obtain ⟨⟨⟨⟨⟨rfl, l1⟩, l2⟩, l3⟩, l4⟩, l5⟩ := hlk
      obtain rfl : len = 3 := by omega
      obtain ⟨as, rest, p1, rfl, p3⟩ := hy_pop_ok h
      rw [List.append_nil] at p3
      split at p3
      · rename_i g1 g2
        match as, p1, p3 with
        | .inr (.inl k) :: as, p1, p3 =>
          obtain ⟨d', mc, ms, Q1, hR, hdd, hmc, hms, hk⟩ := p3
          have hret : Mc.2.2.2 = none := by simpa using l2
          have hrun : hy_run M Mc d' mc ms pc L ((.inr (.inl k) :: as).reverse ++ rest) rest (.inr (.inl k) :: as) w := by
            split at l5
            · exact hy_runI hd l1 hret l3 (hy_inT_mem l4) (hy_inT_mem l5) (by simpa using p1) (hy_blt g1)
            · exact hy_runIN hd l1 hret l3 (hy_inT_mem l4) (hy_inN_mem l5) (by simpa using p1) (hy_blt g1)
          exact hy_x_make hrun hret g2 hR hdd hmc hms (fun w1 hq => hK _ _ _ (hk w1 hq))
      · exact p3.elim
  | _ => exact absurd hlk (by simp [hy_lk])
/-- a stretch of pure steps, up to the program counters of S -/
theorem hy_go {pf : hyP} {tb : hyT} {scr : hyS} {d : Nat} {M : hyM} {Q : hyQ} (hpf : hy_pfok pf) (htb : hy_tok M tb) (S : List Nat) : ∀ (n kc ks : Nat) (f : hyF), hy_wp pf tb S scr d M Q n kc ks f → hy_X scr d M Q kc ks f
  | 0, _, _, _, h => h
  | n + 1, kc, ks, (pc, L, st, w), h => by
    simp only [hy_wp] at h
    cases he : hy_ft tb pc with
    | none => rw [he] at h; exact h.elim
    | some e =>
      rw [he] at h
      refine hy_st_ok hpf (hy_tok_at htb he) (fun kc' ks' f' h' => ?_) h
      cases hm : hy_mem S f'.1 with
      | true => rw [hm] at h'; exact h'
      | false => rw [hm] at h'; exact hy_go hpf htb S n kc' ks' f' h'
theorem hy_args_mem {b : Nat} {ρ : Nat → Nat} : ∀ (as : List hyV) (j i : Nat) (v : hyV), as[i]? = some v → (j + i, hy_v b ρ v) ∈ lv_args j (as.map (hy_v b ρ))
  | [], _, _, _, h => by simp at h
  | a :: r, j, 0, v, h => by
    simp at h; subst h
    exact List.mem_cons_self
  | a :: r, j, i + 1, v, h => by
    have h2 : r[i]? = some v := by simpa using h
    have hc : ¬ (hy_v b ρ a).category = 2 := by rw [hy_v_cat]; omega
    rw [List.map_cons, lv_args, if_neg hc]
    have := hy_args_mem (b := b) (ρ := ρ) r (j + 1) i v h2
    rw [show j + (i + 1) = j + 1 + i by omega]
    exact List.mem_cons_of_mem _ this
theorem hy_sl_len (b : Nat) (ρ : Nat → Nat) : ∀ as : List hyV, (lg_sl (as.map (hy_v b ρ))).length = as.length
  | [] => rfl
  | a :: r => by
    have hc : ¬ (hy_v b ρ a).category = 2 := by rw [hy_v_cat]; omega
    have := hy_sl_len b ρ r
    simp only [lg_sl] at this
    simp only [lg_sl, List.map_cons, List.flatMap_cons, if_neg hc, List.length_append, List.length_cons, List.length_nil]
    rw [this]; omega
def hy_loc (as : List hyV) (n : Nat) : hyL := as.map some ++ List.replicate (n - as.length) none
theorem hy_lr_entry {b : Nat} {ρ : Nat → Nat} {as : List hyV} {n : Nat} {ls : Array Slot} (hn : as.length ≤ n) (h : lv_has ls n (lv_args 0 (as.map (hy_v b ρ)))) : hy_lr b ρ n (hy_loc as n) ls := by
  refine ⟨h.1, by simp [hy_loc]; omega, h.2.1, fun i v hi => ?_⟩
  unfold hy_loc at hi
  rw [List.getElem?_append] at hi
  split at hi
  · rw [List.getElem?_map] at hi
    cases ha : as[i]? with
    | none => rw [ha] at hi; cases hi
    | some x =>
      rw [ha] at hi
      cases hi
      have := hy_args_mem (b := b) (ρ := ρ) as 0 i _ ha
      rw [Nat.zero_add] at this
      exact h.2.2 _ this
  · rw [List.getElem?_replicate] at hi
    split at hi
    · cases hi
    · cases hi
def hy_rok (M : hyM) (Q : hyQ) : Prop := (∀ x w, Q (some x) w → ∃ ty, M.2.2.2 = some ty ∧ narrow ty (.int x) = .int x) ∧ ∀ w, Q none w → M.2.2.2 = none
/-- a method's contract out of its frame's walk -/
theorem hy_R_of {d : Nat} {M : hyM} {kc ks : Nat} {as : List hyV} {w : hyW} {Q : hyQ} {L : hyL} (hy : plainName M.1.cls = true) (hq : hy_rok M Q) (hn : as.length ≤ M.2.2.1) (hL : hy_loc as M.2.2.1 = L) (k : hy_X none d M Q kc ks (0, L, [], w)) : hy_R d M kc ks as w Q := by
  intro l dC dI b ρ κ sz
  refine Met.ofW (cc := M.2.1) (maxL := M.2.2.1) (ret := M.2.2.2) hy rfl ?_
  intro p e s m args below meth c s₁ B hml hv
  obtain ⟨rfl, hsz, ⟨hP, hD0, hK⟩, hnw⟩ := hv
  have hts := atoms_spec (ws := hy_ws M) B.pre
  have hown : s.vm.findClass M.1.cls = some m.cls := findClass_of_methodNamed B.named
  subst hsz
  have hD := hD0.self (sz := s.heap.size)
  have hl := lv_entry (as.map (hy_v b ρ)) (n := M.2.2.1) (by rw [hy_sl_len]; exact hn)
  rw [lg_entry_eq]
  generalize (lg_sl (as.map (hy_v b ρ)) ++ List.replicate (M.2.2.1 - (lg_sl (as.map (hy_v b ρ))).length) Slot.unset).toArray = ls at hl ⊢
  have hlr := hy_lr_entry hn hl
  rw [hL] at hlr
  refine k p l e (headSpec (hy_ws M) (hy_rm d kc ks)).room s m _ below meth c (va_A (hy_w b ρ κ w) s.heap.size) dC dI b _ ρ κ s.heap [] 0 0 ls ⟨B.exec, B.bytes, hml, hown, fun x hx => hts x (List.mem_cons_of_mem _ hx), hnw, fun hi => ?_, fun q h => Or.inr h⟩ (fun _ _ h => by cases h) (Nat.le_refl _) (Nat.le_refl _) (Nat.le_of_eq (Nat.zero_add _)) (Nat.le_of_eq (Nat.zero_add _)) hlr ⟨hP, hD, hK⟩ va_S.rf ?_
  · rw [(name_of_methodNamed B.named B.method).1]; exact hi
  · intro r w' ρ' κ' H' locs' pc' ls' a1 a2 a3 a4 a5
    rw [Nat.zero_add, Nat.zero_add]
    cases r with
    | some x =>
      obtain ⟨ty, t1, t2⟩ := hq.1 x w' a1
      refine W.zret (ty := ty) B.exec B.bytes (B.returns.trans t1) t2 (fun t ht hW => ?_) a4.2.2 a5 B.notSynchronized
      unfold hy_Qc
      rw [t1]
      exact ⟨⟨x, (w', ρ', κ'), rfl, ⟨a1, a2⟩, by rw [ht]; exact a3.1, a3.2.1, hy_K_moved hW.alike a3.2.2⟩, a4.F ht⟩
    | none =>
      have t1 := hq.2 w' a1
      refine W.vret B.exec B.bytes (B.returns.trans t1) (fun t ht hW => ?_) a4.2.2 a5 B.notSynchronized
      unfold hy_Qc
      rw [t1]
      exact ⟨⟨(w', ρ', κ'), rfl, ⟨a1, a2⟩, by rw [ht]; exact a3.1, a3.2.1, hy_K_moved hW.alike a3.2.2⟩, a4.F ht⟩
/-- an int method, a boolean method, a void method -/
theorem hy_Ri {d : Nat} {M : hyM} {kc ks : Nat} {as : List hyV} {w : hyW} {Q : Int32 → hyW → Prop} {L : hyL} (hr : M.2.2.2 = some .int) (hy : plainName M.1.cls = true) (hn : as.length ≤ M.2.2.1) (hL : hy_loc as M.2.2.1 = L) (k : hy_X none d M (fun o w1 => ∃ x, o = some x ∧ Q x w1) kc ks (0, L, [], w)) : hy_R d M kc ks as w (fun o w1 => ∃ x, o = some x ∧ Q x w1) :=
  hy_R_of hy ⟨fun x w h => ⟨.int, hr, rfl⟩, fun w h => by obtain ⟨x, h, -⟩ := h; cases h⟩ hn hL k
theorem hy_Rz {d : Nat} {M : hyM} {kc ks : Nat} {as : List hyV} {w : hyW} {Q : Int32 → hyW → Prop} {L : hyL} (hr : M.2.2.2 = some .boolean) (hy : plainName M.1.cls = true) (hq : ∀ x w, Q x w → x = 0 ∨ x = 1) (hn : as.length ≤ M.2.2.1) (hL : hy_loc as M.2.2.1 = L) (k : hy_X none d M (fun o w1 => ∃ x, o = some x ∧ Q x w1) kc ks (0, L, [], w)) : hy_R d M kc ks as w (fun o w1 => ∃ x, o = some x ∧ Q x w1) :=
  hy_R_of hy ⟨fun x w h => ⟨.boolean, hr, by obtain ⟨y, h, h2⟩ := h; cases h; exact (hy_nar_bool (hq _ _ h2)).1⟩, fun w h => by obtain ⟨x, h, -⟩ := h; cases h⟩ hn hL k
theorem hy_Rv {d : Nat} {M : hyM} {kc ks : Nat} {as : List hyV} {w : hyW} {Q : hyW → Prop} {L : hyL} (hr : M.2.2.2 = none) (hy : plainName M.1.cls = true) (hn : as.length ≤ M.2.2.1) (hL : hy_loc as M.2.2.1 = L) (k : hy_X none d M (fun o w1 => o = none ∧ Q w1) kc ks (0, L, [], w)) : hy_R d M kc ks as w (fun o w1 => o = none ∧ Q w1) :=
  hy_R_of hy ⟨fun x w h => (by cases h.1), fun w _ => hr⟩ hn hL k
