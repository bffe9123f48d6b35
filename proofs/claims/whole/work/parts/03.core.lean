/-! A pure machine over worlds of cells that are known by their places: values, cells, worlds, frames, methods, linked instructions. -/
abbrev hyV : Type := Int32 ⊕ (Nat ⊕ Bool)
abbrev hyC : Type := (Bool × Nat × (Nat → Int32)) ⊕ (Nat × List hyV)
abbrev hyW : Type := List hyC
abbrev hyL : Type := List (Option hyV)
abbrev hyF : Type := Nat × hyL × List hyV × hyW
abbrev hyM : Type := MethodName × ByteArray × Nat × Option FieldType
abbrev hyE : Type := Instr × Nat × Nat × Nat × Nat × Nat × Int32 × Option hyM × List (Int × Nat)
abbrev hyT : Type := List (List (Nat × hyE))
abbrev hyQ : Type := Option Int32 → hyW → Prop
abbrev hyP : Type := Nat → Option (Nat × (List Int32 → Int32))
abbrev hyS : Type := Option (Nat × (Nat → Int32))
abbrev hy_i (x : Int32) : hyV := .inl x
abbrev hy_r (k : Nat) : hyV := .inr (.inl k)
def hy_tt : List Cond := lw_tbl.filter goodWord
def hy_isN : Cond → Bool
  | .methodLinkNest .. => true
  | _ => false
def hy_nw : List Cond := lw_tbl.filter hy_isN
def hy_ws (M : hyM) : List Cond := .code M.1 M.2.1 M.2.2.1 M.2.2.2 :: hy_tt
def hy_rm (d kc ks : Nat) : Room := { frames := d, cells := kc, slots := ks, locals := 40 * (d + 1) }
def hy_v (b : Nat) (ρ : Nat → Nat) : hyV → Value
  | .inl x => .int x
  | .inr (.inl k) => .ref (ρ k)
  | .inr (.inr false) => .null
  | .inr (.inr true) => .ref b
def hy_c (b : Nat) (ρ : Nat → Nat) (κ : Nat → ClassId) (k : Nat) : hyC → va_E
  | .inl (_, n, f) => .inl (κ k, n, .inl f)
  | .inr (ci, fs) => .inr (ci, fs.map (hy_v b ρ))
def hy_w (b : Nat) (ρ : Nat → Nat) (κ : Nat → ClassId) (w : hyW) : va_W := w.mapIdx (fun k c => (ρ k, hy_c b ρ κ k c))
def hy_ty (t : Bool) : FieldType := match t with
  | true => .boolean
  | false => .int
def hy_K (dC : Nat → ClassId) (dI : Nat → Nat → Nat) (κ : Nat → ClassId) (w : hyW) (U : State) : Prop :=
  va_K (dC, dI) vwCl [] U ∧ ∀ (k : Nat) (t : Bool) (n : Nat) (f : Nat → Int32), w[k]? = some (.inl (t, n, f)) → va_K (dC, dI) vwCl [(κ k, hy_ty t)] U
def hy_U (dC : Nat → ClassId) (dI : Nat → Nat → Nat) (b : Nat) (ρ : Nat → Nat) (κ : Nat → ClassId) (A : Nat → Prop) (w : hyW) (U : State) (H : Heap) : Prop :=
  va_P (dC, dI) vwCl (hy_w b ρ κ w) H ∧ va_D A (hy_w b ρ κ w) ∧ hy_K dC dI κ w U
def hy_ag (kc n n' : Nat) (ρ : Nat → Nat) (κ : Nat → ClassId) (ρ' : Nat → Nat) (κ' : Nat → ClassId) : Prop :=
  n ≤ n' ∧ (kc = 0 → ρ' = ρ ∧ κ' = κ) ∧ ∀ k, k < n → ρ' k = ρ k ∧ κ' k = κ k
abbrev hyG : Type := hyW × (Nat → Nat) × (Nat → ClassId)
def hy_Qc (ret : Option FieldType) (Q : hyQ) (kc : Nat) (w : hyW) (dC : Nat → ClassId) (dI : Nat → Nat → Nat) (b : Nat) (ρ : Nat → Nat) (κ : Nat → ClassId) (A : Nat → Prop) : Array Value → State → Outcome → State → Prop := match ret with
  | none => va_Qv (S := hyG) (fun u => Q none u.1 ∧ hy_ag kc w.length u.1.length ρ κ u.2.1 u.2.2) (fun u t => hy_U dC dI b u.2.1 u.2.2 A u.1 t t.heap) A
  | some _ => va_Qi (S := hyG) (fun r u => Q (some r) u.1 ∧ hy_ag kc w.length u.1.length ρ κ u.2.1 u.2.2) (fun u t => hy_U dC dI b u.2.1 u.2.2 A u.1 t t.heap) A
/-- a method, called with these values in this world, returns, and its answer and the world behind it are in Q -/
def hy_R (d : Nat) (M : hyM) (kc ks : Nat) (as : List hyV) (w : hyW) (Q : hyQ) : Prop :=
  ∀ (l : Launch) (dC : Nat → ClassId) (dI : Nat → Nat → Nat) (b : Nat) (ρ : Nat → Nat) (κ : Nat → ClassId) (sz : Nat),
    Met l M.1 (hy_ws M) (hy_rm d kc ks) (va_Pc (as.map (hy_v b ρ)) (fun U => U.heap.size = sz ∧ hy_U dC dI b ρ κ (fun _ => True) w U U.heap ∧ ∀ x ∈ hy_nw, va_Nw x U)) (hy_Qc M.2.2.2 Q kc w dC dI b ρ κ (va_A (hy_w b ρ κ w) sz)) kc ks (va_A (hy_w b ρ κ w) sz)
def hy_cx (M : hyM) (p : Program) (s : State) (m : MethodId) (args : Array Value) (meth : Method) (c : Code) (A : Nat → Prop) : Prop :=
  p.tables.exec = Jvm.exec ∧ c.code = M.2.1 ∧ c.maxLocals = M.2.2.1 ∧ s.vm.findClass M.1.cls = some m.cls ∧ (∀ x ∈ hy_tt, x.before args s = true) ∧ (∀ x ∈ hy_nw, va_Nw x s) ∧ (M.1.name = "<init>" → meth.name = "<init>") ∧ ∀ q, s.heap.size ≤ q → A q
def hy_sc (scr : hyS) (b : Nat) (s : State) (A : Nat → Prop) : Prop := ∀ (L : Nat) (xs : Nat → Int32), scr = some (L, xs) → va_X b L xs s s.heap ∧ b < s.heap.size ∧ ¬ A b
def hy_lr (b : Nat) (ρ : Nat → Nat) (nL : Nat) (L : hyL) (ls : Array Slot) : Prop := ls.size = nL ∧ L.length = nL ∧ lv_wf ls ∧ ∀ (i : Nat) (v : hyV), L[i]? = some (some v) → ls[i]? = some (.val (hy_v b ρ v))
def hy_ri (r : Option Int32) : Instr := match r with
  | some _ => .ireturn
  | none => .return_
def hy_rv (r : Option Int32) : List Value := match r with
  | some x => [.int x]
  | none => []
def hy_rt (p : Program) (l : Launch) (e : Env) (R : Room) (s : State) (m : MethodId) (args : Array Value) (below : List Frame) (meth : Method) (c : Code) (A : Nat → Prop) (dC : Nat → ClassId) (dI : Nat → Nat → Nat) (b : Nat) (Qf : State → Prop) (M : hyM) (Q : hyQ) (kc ks n : Nat) (ρ : Nat → Nat) (κ : Nat → ClassId) (cells slots : Nat) : Prop :=
  ∀ (r : Option Int32) (w' : hyW) (ρ' : Nat → Nat) (κ' : Nat → ClassId) (H' : Heap) (locs' : List Loc) (pc' : Nat) (ls' : Array Slot), Q r w' → hy_ag kc n w'.length ρ κ ρ' κ' → hy_U dC dI b ρ' κ' A w' s H' → va_S A s.heap H' locs' → decode M.2.1 pc' = .ok (hy_ri r, 1) → W p l e R s m args below meth c H' locs' (cells + kc) (slots + ks) Qf (F0 m pc' ls' (hy_rv r))
/-- the frame f of the method M comes to its end, and answer and world there are in Q -/
def hy_X (scr : hyS) (d : Nat) (M : hyM) (Q : hyQ) (kc ks : Nat) (f : hyF) : Prop :=
  ∀ (p : Program) (l : Launch) (e : Env) (R : Room) (s : State) (m : MethodId) (args : Array Value) (below : List Frame) (meth : Method) (c : Code) (A : Nat → Prop) (dC : Nat → ClassId) (dI : Nat → Nat → Nat) (b : Nat) (Qf : State → Prop) (ρ : Nat → Nat) (κ : Nat → ClassId) (H : Heap) (locs : List Loc) (cells slots : Nat) (ls : Array Slot),
    hy_cx M p s m args meth c A → hy_sc scr b s A → d ≤ R.frames → 40 * (d + 1) ≤ R.locals → cells + kc ≤ R.cells → slots + ks ≤ R.slots →
    hy_lr b ρ M.2.2.1 f.2.1 ls → hy_U dC dI b ρ κ A f.2.2.2 s H → va_S A s.heap H locs →
    hy_rt p l e R s m args below meth c A dC dI b Qf M Q kc ks f.2.2.2.length ρ κ cells slots →
    W p l e R s m args below meth c H locs cells slots Qf (F0 m f.1 ls (f.2.2.1.map (hy_v b ρ)))
/-! ===== the pure steps, in the style of what must hold before ===== -/
def hy_nth {α : Type} : List α → Nat → (α → Prop) → Prop
  | [], _, _ => False
  | a :: r, n, K => match n with
    | 0 => K a
    | n + 1 => hy_nth r n K
def hy_upd {α : Type} : List α → Nat → α → (List α → Prop) → Prop
  | [], _, _, _ => False
  | a :: r, n, v, K => match n with
    | 0 => K (v :: r)
    | n + 1 => hy_upd r n v (fun r' => K (a :: r'))
def hy_pop {α : Type} : Nat → List α → List α → (List α → List α → Prop) → Prop
  | 0, st, acc, K => K acc st
  | n + 1, st, acc, K => match st with
    | [] => False
    | x :: r => hy_pop n r (x :: acc) K
def hy_ints : List hyV → (List Int32 → Prop) → Prop
  | [], K => K []
  | a :: r, K => match a with
    | .inl x => hy_ints r (fun xs => K (x :: xs))
    | .inr _ => False
def hy_fnd : List (Nat × hyE) → Nat → Option hyE
  | [], _ => none
  | a :: r, n => match Nat.beq a.1 n with
    | true => some a.2
    | false => hy_fnd r n
def hy_ft (tb : hyT) (pc : Nat) : Option hyE := hy_fnd (tb.getD (pc / 16) []) pc
def hy_mem : List Nat → Nat → Bool
  | [], _ => false
  | a :: r, n => match Nat.beq a n with
    | true => true
    | false => hy_mem r n
def hy_vok (n : Nat) : hyV → Bool
  | .inl _ => true
  | .inr (.inl k) => Nat.blt k n
  | .inr (.inr _) => true
def hy_lok (n : Nat) (L : hyL) : Bool := L.all (fun o => match o with
  | some v => hy_vok n v
  | none => true)
def hy_wok (n : Nat) (w : hyW) : Bool := w.all (fun c => match c with
  | .inl _ => true
  | .inr o => o.2.all (hy_vok n))
def hy_fok (L : hyL) (st : List hyV) (w : hyW) : Bool := hy_lok w.length L && st.all (hy_vok w.length) && hy_wok w.length w
def hy_cmp (c : ClassFile.Cond) (x y : Int32) : Prop := match c with
  | .eq => x = y
  | .ne => ¬ x = y
  | .lt => x < y
  | .ge => y ≤ x
  | .gt => y < x
  | .le => x ≤ y
def hy_br (c : ClassFile.Cond) (x y : Int32) (A B : Prop) : Prop := match c with
  | .eq => (x = y → A) ∧ (¬ x = y → B)
  | .ne => (x = y → B) ∧ (¬ x = y → A)
  | .lt => (x < y → A) ∧ (¬ x < y → B)
  | .ge => (y ≤ x → A) ∧ (¬ y ≤ x → B)
  | .gt => (y < x → A) ∧ (¬ y < x → B)
  | .le => (x ≤ y → A) ∧ (¬ x ≤ y → B)
def hy_sw (x : Int32) (d : Prop) (K : Nat → Prop) : List (Int × Nat) → Prop
  | [] => d
  | a :: r => (x.toInt = a.1 → K a.2) ∧ (¬ x.toInt = a.1 → hy_sw x d K r)
def hy_ar (i : Int32) (n : Nat) (P : Prop) : Prop := vp_in i n ∧ P
def hy_cl0 (d d' : Nat) (M : hyM) (as : List hyV) (w : hyW) (P : Option Int32 → hyW → Prop) : Prop :=
  ∃ Q1 : hyQ, hy_R d' M 0 0 as w Q1 ∧ d' + 1 ≤ d ∧ ∀ r w1, Q1 r w1 → P r w1
def hy_call (d : Nat) (M : hyM) (as : List hyV) (w : hyW) (P : Option Int32 → hyW → Prop) : Prop := ∃ d' : Nat, hy_cl0 d d' M as w P
def hy_make (d kc ks : Nat) (M : hyM) (as : List hyV) (w : hyW) (P : Nat → Nat → hyW → Prop) : Prop :=
  ∃ (d' mc ms : Nat) (Q1 : hyQ), hy_R d' M mc ms as w Q1 ∧ d' + 1 ≤ d ∧ mc ≤ kc ∧ ms ≤ ks ∧ ∀ w1, Q1 none w1 → P (kc - mc) (ks - ms) w1
def hy_fits (c : Nat) (x : hyV) (P : Prop) : Prop := match c, x with
  | 0, .inl _ => P
  | 1, .inl z => (z = 0 ∨ z = 1) ∧ P
  | 2, .inr (.inl _) => P
  | 3, .inl _ => P
  | _, _ => False
def hy_dflt (ci : Nat) : List hyV := match ci with
  | 0 => [.inr (.inr false), .inr (.inr false), .inl 0]
  | 1 => [.inr (.inr false), .inr (.inr false), .inr (.inr false), .inr (.inr false), .inr (.inr false), .inr (.inr false), .inr (.inr false), .inr (.inr false), .inl 0, .inl 0, .inl 0, .inl 0]
  | 2 => [.inr (.inr false), .inr (.inr false), .inr (.inr false), .inr (.inr false), .inr (.inr false), .inr (.inr false), .inr (.inr false), .inr (.inr false), .inl 0, .inl 0, .inl 0]
  | 3 => [.inl 0, .inl 0, .inl 0]
  | 4 => [.inr (.inr false), .inr (.inr false), .inr (.inr false), .inr (.inr false), .inr (.inr false), .inr (.inr false), .inl 0, .inl 0, .inl 0, .inl 0]
  | 5 => [.inr (.inr false), .inr (.inr false), .inr (.inr false), .inr (.inr false), .inr (.inr false)]
  | 6 => [.inl 0, .inr (.inr false), .inr (.inr false), .inl 0, .inr (.inr false), .inr (.inr false), .inr (.inr false), .inr (.inr false), .inr (.inr false), .inr (.inr false), .inl 0, .inr (.inr false), .inl 0, .inr (.inr false), .inl 0, .inl 0, .inr (.inr false), .inr (.inr false), .inr (.inr false), .inr (.inr false), .inl 0, .inl 0, .inr (.inr false), .inr (.inr false), .inl 0, .inr (.inr false), .inr (.inr false), .inl 0, .inl 0, .inl 0, .inr (.inr false), .inr (.inr false), .inr (.inr false), .inl 0, .inr (.inr false), .inr (.inr false)]
  | _ => []
/-- one linked instruction: next pc, a, b, c, r, v, method, switch -/
def hy_st (pf : hyP) (scr : hyS) (d : Nat) (Q : hyQ) (e : hyE) (kc ks : Nat) (ls : hyL) (st : List hyV) (w : hyW) (K : Nat → Nat → hyF → Prop) : Prop :=
  match e with
  | (ins, nx, a, b, c, r, v, mo, sw) => match ins with
    | .iload_n _ | .iload _ => hy_nth ls a (fun o => match o with
      | some (.inl x) => K kc ks (nx, ls, .inl x :: st, w)
      | _ => False)
    | .aload_n _ | .aload _ => hy_nth ls a (fun o => match o with
      | some (.inr (.inl k)) => K kc ks (nx, ls, .inr (.inl k) :: st, w)
      | some (.inr (.inr true)) => K kc ks (nx, ls, .inr (.inr true) :: st, w)
      | _ => False)
    | .istore_n _ | .istore _ => match st with
      | .inl x :: st' => hy_upd ls a (some (.inl x)) (fun ls' => K kc ks (nx, ls', st', w))
      | _ => False
    | .astore_n _ | .astore _ => match st with
      | .inr (.inl k) :: st' => hy_upd ls a (some (.inr (.inl k))) (fun ls' => K kc ks (nx, ls', st', w))
      | _ => False
    | .iconst _ | .bipush _ | .sipush _ | .ldc _ | .ldc_w _ => K kc ks (nx, ls, .inl v :: st, w)
    | .iinc _ _ => hy_nth ls a (fun o => match o with
      | some (.inl x) => hy_upd ls a (some (.inl (x + v))) (fun ls' => K kc ks (nx, ls', st, w))
      | _ => False)
    | .iadd => match st with
      | .inl y :: .inl x :: st' => K kc ks (nx, ls, .inl (x + y) :: st', w)
      | _ => False
    | .isub => match st with
      | .inl y :: .inl x :: st' => K kc ks (nx, ls, .inl (x - y) :: st', w)
      | _ => False
    | .imul => match st with
      | .inl y :: .inl x :: st' => K kc ks (nx, ls, .inl (x * y) :: st', w)
      | _ => False
    | .iand => match st with
      | .inl y :: .inl x :: st' => K kc ks (nx, ls, .inl (x &&& y) :: st', w)
      | _ => False
    | .ior => match st with
      | .inl y :: .inl x :: st' => K kc ks (nx, ls, .inl (x ||| y) :: st', w)
      | _ => False
    | .ixor => match st with
      | .inl y :: .inl x :: st' => K kc ks (nx, ls, .inl (x ^^^ y) :: st', w)
      | _ => False
    | .ishl => match st with
      | .inl y :: .inl x :: st' => K kc ks (nx, ls, .inl (x <<< (y &&& 31)) :: st', w)
      | _ => False
    | .ishr => match st with
      | .inl y :: .inl x :: st' => K kc ks (nx, ls, .inl (x >>> (y &&& 31)) :: st', w)
      | _ => False
    | .iushr => match st with
      | .inl y :: .inl x :: st' => K kc ks (nx, ls, .inl ((x.toUInt32 >>> (y.toUInt32 &&& Int32.toUInt32 31)).toInt32) :: st', w)
      | _ => False
    | .idiv => match st with
      | .inl y :: .inl x :: st' => (¬ y = 0) ∧ K kc ks (nx, ls, .inl (x / y) :: st', w)
      | _ => False
    | .dup => match st with
      | x :: st' => K kc ks (nx, ls, x :: x :: st', w)
      | _ => False
    | .dup2 => match st with
      | x :: y :: st' => K kc ks (nx, ls, x :: y :: x :: y :: st', w)
      | _ => False
    | .goto _ => K kc ks (a, ls, st, w)
    | .if_icmp cd _ => match st with
      | .inl y :: .inl x :: st' => hy_br cd x y (K kc ks (a, ls, st', w)) (K kc ks (nx, ls, st', w))
      | _ => False
    | .ifCond cd _ => match st with
      | .inl x :: st' => hy_br cd x 0 (K kc ks (a, ls, st', w)) (K kc ks (nx, ls, st', w))
      | _ => False
    | .tableswitch _ _ _ _ | .lookupswitch _ _ => match st with
      | .inl x :: st' => hy_sw x (K kc ks (a, ls, st', w)) (fun t => K kc ks (t, ls, st', w)) sw
      | _ => False
    | .getfield _ => match st with
      | .inr (.inl k) :: st' => hy_nth w k (fun cl => match cl with
        | .inr (ci, fs) => match Nat.beq ci a with
          | true => hy_nth fs b (fun x => K kc ks (nx, ls, x :: st', w))
          | false => False
        | .inl _ => False)
      | _ => False
    | .putfield _ => match st with
      | x :: .inr (.inl k) :: st' => hy_nth w k (fun cl => match cl with
        | .inr (ci, fs) => match Nat.beq ci a with
          | true => hy_fits c x (hy_upd fs b x (fun fs' => hy_upd w k (.inr (ci, fs')) (fun w' => K kc ks (nx, ls, st', w'))))
          | false => False
        | .inl _ => False)
      | _ => False
    | .iaload => match st with
      | .inl i :: .inr (.inl k) :: st' => hy_nth w k (fun cl => match cl with
        | .inl (false, n, f) => hy_ar i n (K kc ks (nx, ls, .inl (f i.toNatClampNeg) :: st', w))
        | _ => False)
      | .inl i :: .inr (.inr true) :: st' => match scr with
        | some (L, xs) => hy_ar i L (K kc ks (nx, ls, .inl (xs i.toNatClampNeg) :: st', w))
        | none => False
      | _ => False
    | .baload => match st with
      | .inl i :: .inr (.inl k) :: st' => hy_nth w k (fun cl => match cl with
        | .inl (true, n, f) => hy_ar i n (K kc ks (nx, ls, .inl (f i.toNatClampNeg) :: st', w))
        | _ => False)
      | _ => False
    | .iastore => match st with
      | .inl x :: .inl i :: .inr (.inl k) :: st' => hy_nth w k (fun cl => match cl with
        | .inl (false, n, f) => hy_ar i n (hy_upd w k (.inl (false, n, upd f i.toNatClampNeg x)) (fun w' => K kc ks (nx, ls, st', w')))
        | _ => False)
      | _ => False
    | .bastore => match st with
      | .inl x :: .inl i :: .inr (.inl k) :: st' => hy_nth w k (fun cl => match cl with
        | .inl (true, n, f) => hy_ar i n (hy_upd w k (.inl (true, n, upd f i.toNatClampNeg (vp_nar .boolean x))) (fun w' => K kc ks (nx, ls, st', w')))
        | _ => False)
      | _ => False
    | .arraylength => match st with
      | .inr (.inr true) :: st' => match scr with
        | some (L, _) => K kc ks (nx, ls, .inl (Int32.ofNat L) :: st', w)
        | none => False
      | _ => False
    | .ireturn => match st with
      | .inl x :: [] => Q (some x) w
      | _ => False
    | .return_ => match st with
      | [] => Q none w
      | _ => False
    | .new _ => match Nat.ble 1 kc, Nat.ble b ks, hy_fok ls st w with
      | true, true, true => K (kc - 1) (ks - b) (nx, ls, .inr (.inl w.length) :: st, w ++ [.inr (a, hy_dflt a)])
      | _, _, _ => False
    | .newarray _ => match st with
      | .inl n :: st' => match Nat.ble 1 kc, Nat.ble n.toNatClampNeg ks, hy_fok ls st' w with
        | true, true, true => (¬ n < 0 ∧ n.toNatClampNeg ≤ 1024) ∧ K (kc - 1) (ks - n.toNatClampNeg) (nx, ls, .inr (.inl w.length) :: st', w ++ [.inl (Nat.beq a 1, n.toNatClampNeg, fun _ => 0)])
        | _, _, _ => False
      | _ => False
    | .invokestatic _ => match mo with
      | none => False
      | some M => match r with
       | 1 => match st with
         | .inl y :: .inl x :: st' => match Nat.ble st'.length 8, Nat.ble 1 d with
           | true, true => K kc ks (nx, ls, .inl (if x < y then y else x) :: st', w)
           | _, _ => False
         | _ => False
       | 2 => match st with
         | .inl y :: .inl x :: st' => match Nat.ble st'.length 8, Nat.ble 1 d with
           | true, true => K kc ks (nx, ls, .inl (if y < x then y else x) :: st', w)
           | _, _ => False
         | _ => False
       | _ => hy_pop b st [] (fun as st' => match Nat.ble st'.length 8 with
        | false => False
        | true => match pf a with
          | some (n, g) => match Nat.beq n b, Nat.ble 4 d with
            | true, true => hy_ints as (fun xs => K kc ks (nx, ls, .inl (g xs) :: st', w))
            | _, _ => False
          | none => hy_call d M as w (fun o w1 => match o with
            | some y => K kc ks (nx, ls, .inl y :: st', w1)
            | none => K kc ks (nx, ls, st', w1)))
    | .invokevirtual _ => match mo with
      | none => False
      | some M => hy_pop (b + 1) st [] (fun as st' => match Nat.ble st'.length 8 with
        | false => False
        | true => match as with
          | .inr (.inl k) :: _ => hy_nth w k (fun cl => match cl with
            | .inr (ci, _) => match Nat.beq ci r with
              | true => hy_call d M as w (fun o w1 => match o with
                | some y => K kc ks (nx, ls, .inl y :: st', w1)
                | none => K kc ks (nx, ls, st', w1))
              | false => False
            | .inl _ => False)
          | _ => False)
    | .invokespecial _ => match mo with
      | none => match st with
        | .inr (.inl _) :: st' => match Nat.ble st'.length 8, Nat.ble 1 d with
          | true, true => K kc ks (nx, ls, st', w)
          | _, _ => False
        | _ => False
      | some M => hy_pop (b + 1) st [] (fun as st' => match Nat.ble st'.length 8, hy_fok ls st' w with
        | true, true => match as with
          | .inr (.inl _) :: _ => hy_make d kc ks M as w (fun kc' ks' w1 => K kc' ks' (nx, ls, st', w1))
          | _ => False
        | _, _ => False)
    | _ => False
def hy_wp (pf : hyP) (tb : hyT) (S : List Nat) (scr : hyS) (d : Nat) (M : hyM) (Q : hyQ) : Nat → Nat → Nat → hyF → Prop
  | 0, kc, ks, f => hy_X scr d M Q kc ks f
  | n + 1, kc, ks, f => match f with
    | (pc, ls, st, w) => match hy_ft tb pc with
      | none => False
      | some e => hy_st pf scr d Q e kc ks ls st w (fun kc' ks' f' => match hy_mem S f'.1 with
        | true => hy_X scr d M Q kc' ks' f'
        | false => hy_wp pf tb S scr d M Q n kc' ks' f')
