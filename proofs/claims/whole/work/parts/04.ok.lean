/-! ===== what a linked instruction must be: by program ===== -/
def hy_inT (w : Cond) : Bool := goodWord w && decide (w ∈ lw_tbl)
def hy_inN (w : Cond) : Bool := hy_isN w && decide (w ∈ lw_tbl)
theorem hy_inT_mem {w : Cond} (h : hy_inT w = true) : w ∈ hy_tt := by
  simp only [hy_inT, Bool.and_eq_true, decide_eq_true_eq] at h
  exact List.mem_filter.mpr ⟨h.2, h.1⟩
theorem hy_inN_mem {w : Cond} (h : hy_inN w = true) : w ∈ hy_nw := by
  simp only [hy_inN, Bool.and_eq_true, decide_eq_true_eq] at h
  exact List.mem_filter.mpr ⟨h.2, h.1⟩
def hy_plain (y : MethodName) (n : Nat) : Bool := decide (y.cls ≠ "java/lang/invoke/MethodHandle") && decide (y.cls ≠ "java/lang/invoke/VarHandle") && decide ((parseMethodDescriptor y.desc).map (fun d => d.parameters.length) = some n)
def hy_mok (M : hyM) (n : Nat) : Bool := hy_plain M.1 n && decide (M.2.2.1 ≤ 20) && hy_inT (.code M.1 M.2.1 M.2.2.1 M.2.2.2) && hy_inT (.initialized M.1.cls)
def hy_tsw (pc : Nat) : Int → List Int → List (Int × Nat) → Bool
  | _, [], [] => true
  | lo, o :: os, s :: ss => decide (s.1 = lo) && decide ((pc : Int) + o = (s.2 : Int)) && hy_tsw pc (lo + 1) os ss
  | _, _, _ => false
def hy_lsw (pc : Nat) : List (Int × Int) → List (Int × Nat) → Bool
  | [], [] => true
  | o :: os, s :: ss => decide (s.1 = o.1) && decide ((pc : Int) + o.2 = (s.2 : Int)) && hy_lsw pc os ss
  | _, _ => false
def hy_isR (t : Option FieldType) : Bool := match t with
  | some (.array _) => true
  | some (.object _) => true
  | _ => false
def hy_fk (c : Nat) (own : String) (nm : String) (q : String × String × String × Bool) : Bool := match c with
  | 0 => decide (q.2.2.1 = "I") && decide (q.2.2.2 = false)
  | 1 => decide (q.2.2.1 = "Z") && decide (q.2.2.2 = false)
  | 2 => hy_isR (parseFieldDescriptor q.2.2.1) && decide (q.2.2.2 = true) && decide (nm = "<init>") && decide (q.1 = own)
  | 3 => decide (q.2.2.1 = "I") && decide (q.2.2.2 = true) && decide (nm = "<init>") && decide (q.1 = own)
  | _ => false
/-- the pure static methods, by number -/
def hy_pm : Nat → hyM
  | 1 => (yX5_within, cX5_within, 3, some .boolean)
  | 2 => (yX6_in, cX6_in, 3, some .boolean)
  | 3 => (yJ9_max_7cf53, cJ9_max_7cf53, 2, some .int)
  | 4 => (yJ9_min_7cf53, cJ9_min_7cf53, 2, some .int)
  | 5 => (yJ6_bitCount_0f7a4, cJ6_bitCount_0f7a4, 1, some .int)
  | 6 => (yJ6_numberOfTrailingZeros_0f7a4, cJ6_numberOfTrailingZeros_0f7a4, 2, some .int)
  | 7 => (yX3_readBy, cX3_readBy, 2, some .int)
  | 8 => (yX6_reads, cX6_reads, 2, some .int)
  | 9 => (yX3_weightsBelow, cX3_weightsBelow, 3, some .int)
  | 10 => (yX5_isMarks, cX5_isMarks, 1, some .boolean)
  | 11 => (yX2_isPit, cX2_isPit, 1, some .boolean)
  | 12 => (yX3_isReadSo, cX3_isReadSo, 3, some .boolean)
  | _ => (yX0_onlyOne, cX0_onlyOne, 1, some .int)
def hy_lk (M : hyM) (pc : Nat) (e : hyE) : Bool :=
  match e with
  | (ins, nx, a, b, c, r, v, mo, sw) => match ins with
    | .iload_n k => decide (nx = pc + 1) && decide (k.val = a)
    | .iload i => decide (nx = pc + 2) && decide (i = a)
    | .aload_n k => decide (nx = pc + 1) && decide (k.val = a)
    | .aload i => decide (nx = pc + 2) && decide (i = a)
    | .istore_n k => decide (nx = pc + 1) && decide (k.val = a)
    | .istore i => decide (nx = pc + 2) && decide (i = a)
    | .astore_n k => decide (nx = pc + 1) && decide (k.val = a)
    | .astore i => decide (nx = pc + 2) && decide (i = a)
    | .iconst n => decide (nx = pc + 1) && decide (Int32.ofInt n = v)
    | .bipush n => decide (nx = pc + 2) && decide ((Int8.ofInt n).toInt32 = v)
    | .sipush n => decide (nx = pc + 3) && decide ((Int16.ofInt n).toInt32 = v)
    | .ldc i => decide (nx = pc + 2) && hy_inT (.constant M.1.cls i v)
    | .ldc_w i => decide (nx = pc + 3) && hy_inT (.constant M.1.cls i v)
    | .iinc i n => decide (nx = pc + 3) && decide (i = a) && decide (Int32.ofInt n = v)
    | .iadd | .isub | .imul | .iand | .ior | .ixor | .ishl | .ishr | .iushr | .idiv | .dup | .dup2 | .iaload | .baload | .iastore | .bastore | .arraylength => decide (nx = pc + 1)
    | .goto off => decide (nx = pc + 3) && decide ((pc : Int) + off = (a : Int))
    | .if_icmp _ off => decide (nx = pc + 3) && decide ((pc : Int) + off = (a : Int))
    | .ifCond _ off => decide (nx = pc + 3) && decide ((pc : Int) + off = (a : Int))
    | .tableswitch df lo hi offs => decide ((pc : Int) + df = (a : Int)) && decide (hi + 1 = lo + (offs.size : Int)) && hy_tsw pc lo offs.toList sw
    | .lookupswitch df ps => decide ((pc : Int) + df = (a : Int)) && (ps.toList.zip (ps.toList.drop 1)).all (fun (a, next) => decide (a.1 < next.1)) && hy_lsw pc ps.toList sw
    | .getfield i => match vwCl[a]? with
      | some (_, T, N) => decide (nx = pc + 3) && decide (b < N) && hy_inT (.fieldLink M.1.cls i (T b).1 (T b).2.1 (T b).2.2.1)
      | none => false
    | .putfield i => match vwCl[a]? with
      | some (_, T, N) => decide (nx = pc + 3) && decide (b < N) && hy_inT (.fieldLink M.1.cls i (T b).1 (T b).2.1 (T b).2.2.1) && hy_fk c M.1.cls M.1.name (T b)
      | none => false
    | .ireturn | .return_ => decide (nx = pc + 1)
    | .new i => match vwCl[a]? with
      | some (C, _, N) => decide (nx = pc + 3) && decide (b = N) && hy_inT (.classLink M.1.cls i C) && hy_inT (.instantiable C N) && hy_inT (.initialized C)
      | none => false
    | .newarray t => decide (nx = pc + 2) && hy_inT (.arrayClass (newarray.typeOf t)) && decide (newarray.typeOf t = hy_ty (Nat.beq a 1))
    | .invokestatic i => match mo with
      | some Mc => match r with
       | 1 => decide (nx = pc + 3) && hy_inT (.methodLink M.1.cls i Lib.Math.max.name) && hy_inT (.static Lib.Math.max.name) && hy_inT (.initialized "java/lang/Math") && hy_inT (.code Lib.Math.max.name Lib.Math.max.code 2 (some .int))
       | 2 => decide (nx = pc + 3) && hy_inT (.methodLink M.1.cls i Lib.Math.min.name) && hy_inT (.static Lib.Math.min.name) && hy_inT (.initialized "java/lang/Math") && hy_inT (.code Lib.Math.min.name Lib.Math.min.code 2 (some .int))
       | _ => decide (nx = pc + 3) && hy_mok Mc b && Mc.2.2.2.isSome && hy_inT (.static Mc.1) && (Nat.beq a 0 || decide (Mc = hy_pm a)) && (match c with
        | 0 => hy_inT (.methodLink M.1.cls i Mc.1)
        | _ => hy_inN (.methodLinkNest M.1.cls i Mc.1 "HuskYard"))
      | none => false
    | .invokevirtual i => match mo, vwCl[r]? with
      | some Mc, some (C, _, _) => decide (nx = pc + 3) && hy_mok Mc b && decide (C = Mc.1.cls) && hy_inT (.instanceMethod Mc.1) && hy_inT (.selects C Mc.1 Mc.1) && hy_inT (.methodLink M.1.cls i Mc.1)
      | _, _ => false
    | .invokespecial i => match mo with
      | none => decide (nx = pc + 3) && hy_inT (.methodLink M.1.cls i objectInit) && hy_inT (.instanceMethod objectInit) && hy_inT (.code objectInit ⟨#[0xb1]⟩ 1 none)
      | some Mc => decide (nx = pc + 3) && hy_mok Mc b && Mc.2.2.2.isNone && decide (Mc.1.name = "<init>") && hy_inT (.instanceMethod Mc.1) && (match c with
        | 0 => hy_inT (.methodLink M.1.cls i Mc.1)
        | _ => hy_inN (.methodLinkNest M.1.cls i Mc.1 "HuskYard"))
    | _ => false
def hy_len (M : hyM) (pc : Nat) : Nat := match decode M.2.1 pc with
  | .ok q => q.2
  | .error _ => 0
def hy_dec (M : hyM) (pc : Nat) (ins : Instr) (nx : Nat) : Bool := match decode M.2.1 pc with
  | .ok q => decide (q.1 = ins) && decide (pc + q.2 = nx)
  | .error _ => false
def hy_ok (M : hyM) (pc : Nat) (e : hyE) : Bool := hy_dec M pc e.1 e.2.1 && hy_lk M pc e
theorem hy_ok_dec {M : hyM} {pc : Nat} {e : hyE} (h : hy_ok M pc e = true) : ∃ k, decode M.2.1 pc = .ok (e.1, k) ∧ pc + k = e.2.1 := by
  simp only [hy_ok, hy_dec, Bool.and_eq_true] at h
  revert h
  cases hd : decode M.2.1 pc with
  | error x => intro h; exact absurd h.1 (by simp)
  | ok q =>
    intro h
    simp only [Bool.and_eq_true, decide_eq_true_eq] at h
    exact ⟨q.2, by rw [← h.1.1], h.1.2⟩
def hy_tok (M : hyM) (tb : hyT) : Prop := ∀ ch ∈ tb, ∀ q ∈ ch, hy_ok M q.1 q.2 = true
theorem hy_fnd_mem : ∀ {l : List (Nat × hyE)} {pc : Nat} {e : hyE}, hy_fnd l pc = some e → (pc, e) ∈ l
  | [], _, _, h => by cases h
  | a :: r, pc, e, h => by
    simp only [hy_fnd] at h
    cases hb : Nat.beq a.1 pc with
    | true =>
      rw [hb] at h
      cases h
      have : a.1 = pc := Nat.eq_of_beq_eq_true hb
      exact List.mem_cons.mpr (Or.inl (by rw [← this]))
    | false =>
      rw [hb] at h
      exact List.mem_cons_of_mem _ (hy_fnd_mem h)
theorem hy_tok_at {M : hyM} {tb : hyT} (h : hy_tok M tb) {pc : Nat} {e : hyE} (he : hy_ft tb pc = some e) : hy_ok M pc e = true := by
  have hm := hy_fnd_mem he
  rw [List.getD_eq_getElem?_getD] at hm
  cases hc : tb[pc / 16]? with
  | none => rw [hc] at hm; cases hm
  | some ch =>
    rw [hc] at hm
    have hm1 : (pc, e) ∈ ch := hm
    have h1 : ∀ q ∈ ch, hy_ok M q.1 q.2 = true := h ch (List.mem_of_getElem? hc)
    exact h1 (pc, e) hm1
theorem hy_clsX0 : ∀ w ∈ u_ws RX0 TX0 3, w ∈ hy_tt := by decide +kernel
theorem hy_clsX1 : ∀ w ∈ u_ws RX1 TX1 12, w ∈ hy_tt := by decide +kernel
theorem hy_clsX2 : ∀ w ∈ u_ws RX2 TX2 11, w ∈ hy_tt := by decide +kernel
theorem hy_clsX3 : ∀ w ∈ u_ws RX3 TX3 3, w ∈ hy_tt := by decide +kernel
theorem hy_clsX4 : ∀ w ∈ u_ws RX4 TX4 10, w ∈ hy_tt := by decide +kernel
theorem hy_clsX5 : ∀ w ∈ u_ws RX5 TX5 5, w ∈ hy_tt := by decide +kernel
theorem hy_clsX6 : ∀ w ∈ u_ws RX6 TX6 36, w ∈ hy_tt := by decide +kernel
theorem hy_dfX (b : Nat) (ρ : Nat → Nat) : (∀ j, j < 3 → defaultValue (tyX0 j) = vp_V ((hy_dflt 0).map (hy_v b ρ)) j) ∧ (∀ j, j < 12 → defaultValue (tyX1 j) = vp_V ((hy_dflt 1).map (hy_v b ρ)) j) ∧ (∀ j, j < 11 → defaultValue (tyX2 j) = vp_V ((hy_dflt 2).map (hy_v b ρ)) j) ∧ (∀ j, j < 3 → defaultValue (tyX3 j) = vp_V ((hy_dflt 3).map (hy_v b ρ)) j) ∧ (∀ j, j < 10 → defaultValue (tyX4 j) = vp_V ((hy_dflt 4).map (hy_v b ρ)) j) ∧ (∀ j, j < 5 → defaultValue (tyX5 j) = vp_V ((hy_dflt 5).map (hy_v b ρ)) j) ∧ (∀ j, j < 36 → defaultValue (tyX6 j) = vp_V ((hy_dflt 6).map (hy_v b ρ)) j) := by
  refine ⟨?_, ?_, ?_, ?_, ?_, ?_, ?_⟩
  · intro j hj; match j, hj with
    | 0, _ => rfl
    | 1, _ => rfl
    | 2, _ => rfl
    | j + 3, h => exact absurd h (by omega)
  · intro j hj; match j, hj with
    | 0, _ => rfl
    | 1, _ => rfl
    | 2, _ => rfl
    | 3, _ => rfl
    | 4, _ => rfl
    | 5, _ => rfl
    | 6, _ => rfl
    | 7, _ => rfl
    | 8, _ => rfl
    | 9, _ => rfl
    | 10, _ => rfl
    | 11, _ => rfl
    | j + 12, h => exact absurd h (by omega)
  · intro j hj; match j, hj with
    | 0, _ => rfl
    | 1, _ => rfl
    | 2, _ => rfl
    | 3, _ => rfl
    | 4, _ => rfl
    | 5, _ => rfl
    | 6, _ => rfl
    | 7, _ => rfl
    | 8, _ => rfl
    | 9, _ => rfl
    | 10, _ => rfl
    | j + 11, h => exact absurd h (by omega)
  · intro j hj; match j, hj with
    | 0, _ => rfl
    | 1, _ => rfl
    | 2, _ => rfl
    | j + 3, h => exact absurd h (by omega)
  · intro j hj; match j, hj with
    | 0, _ => rfl
    | 1, _ => rfl
    | 2, _ => rfl
    | 3, _ => rfl
    | 4, _ => rfl
    | 5, _ => rfl
    | 6, _ => rfl
    | 7, _ => rfl
    | 8, _ => rfl
    | 9, _ => rfl
    | j + 10, h => exact absurd h (by omega)
  · intro j hj; match j, hj with
    | 0, _ => rfl
    | 1, _ => rfl
    | 2, _ => rfl
    | 3, _ => rfl
    | 4, _ => rfl
    | j + 5, h => exact absurd h (by omega)
  · intro j hj
    have h : ∀ j : Fin 36, defaultValue (tyX6 j.val) = vp_V ((hy_dflt 6).map (hy_v b ρ)) j.val := by
      intro j
      match j with
      | ⟨0, _⟩ | ⟨1, _⟩ | ⟨2, _⟩ | ⟨3, _⟩ | ⟨4, _⟩ | ⟨5, _⟩ | ⟨6, _⟩ | ⟨7, _⟩ | ⟨8, _⟩ | ⟨9, _⟩ | ⟨10, _⟩ | ⟨11, _⟩ | ⟨12, _⟩ | ⟨13, _⟩ | ⟨14, _⟩ | ⟨15, _⟩ | ⟨16, _⟩ | ⟨17, _⟩ | ⟨18, _⟩ | ⟨19, _⟩ | ⟨20, _⟩ | ⟨21, _⟩ | ⟨22, _⟩ | ⟨23, _⟩ | ⟨24, _⟩ | ⟨25, _⟩ | ⟨26, _⟩ | ⟨27, _⟩ | ⟨28, _⟩ | ⟨29, _⟩ | ⟨30, _⟩ | ⟨31, _⟩ | ⟨32, _⟩ | ⟨33, _⟩ | ⟨34, _⟩ | ⟨35, _⟩ => rfl
      | ⟨j + 36, h⟩ => exact absurd h (by omega)
    exact h ⟨j, hj⟩
theorem hy_cls (b : Nat) (ρ : Nat → Nat) {a : Nat} {C : String} {T : u_T} {N : Nat} (h : vwCl[a]? = some (C, T, N)) : ∃ ty0 : Nat → FieldType, (∀ k, k < N → parseFieldDescriptor (T k).2.2.1 = some (ty0 k)) ∧ (∀ a, a < N → ∀ b, b < N → a ≠ b → (T a).2.1 ≠ (T b).2.1) ∧ (∀ w ∈ u_ws C T N, w ∈ hy_tt) ∧ ∀ j, j < N → defaultValue (ty0 j) = vp_V ((hy_dflt a).map (hy_v b ρ)) j := by
  obtain ⟨d0, d1, d2, d3, d4, d5, d6⟩ := hy_dfX b ρ
  match a, h with
  | 0, h => cases h; exact ⟨tyX0, tyX0_ok, nmX0, hy_clsX0, d0⟩
  | 1, h => cases h; exact ⟨tyX1, tyX1_ok, nmX1, hy_clsX1, d1⟩
  | 2, h => cases h; exact ⟨tyX2, tyX2_ok, nmX2, hy_clsX2, d2⟩
  | 3, h => cases h; exact ⟨tyX3, tyX3_ok, nmX3, hy_clsX3, d3⟩
  | 4, h => cases h; exact ⟨tyX4, tyX4_ok, nmX4, hy_clsX4, d4⟩
  | 5, h => cases h; exact ⟨tyX5, tyX5_ok, nmX5, hy_clsX5, d5⟩
  | 6, h => cases h; exact ⟨tyX6, tyX6_ok, nmX6, hy_clsX6, d6⟩
  | a + 7, h => simp at h
