/-! ===== worlds under their steps ===== -/
theorem hy_w_get (b : Nat) (ρ : Nat → Nat) (κ : Nat → ClassId) (w : hyW) (k : Nat) : (hy_w b ρ κ w)[k]? = (w[k]?).map (fun c => (ρ k, hy_c b ρ κ k c)) := by
  simp [hy_w, List.getElem?_mapIdx]
theorem hy_w_at {b : Nat} {ρ : Nat → Nat} {κ : Nat → ClassId} {w : hyW} {k : Nat} {c : hyC} (h : w[k]? = some c) : (hy_w b ρ κ w)[k]? = some (ρ k, hy_c b ρ κ k c) := by
  rw [hy_w_get, h]; rfl
theorem hy_w_len (b : Nat) (ρ : Nat → Nat) (κ : Nat → ClassId) (w : hyW) : (hy_w b ρ κ w).length = w.length := by
  simp [hy_w]
theorem hy_w_set (b : Nat) (ρ : Nat → Nat) (κ : Nat → ClassId) (w : hyW) (k : Nat) (c : hyC) : (hy_w b ρ κ w).set k (ρ k, hy_c b ρ κ k c) = hy_w b ρ κ (w.set k c) := by
  apply List.ext_getElem?
  intro j
  rw [hy_w_get, List.getElem?_set, List.getElem?_set, hy_w_get, hy_w_len]
  by_cases h : k = j
  · subst h
    by_cases h2 : k < w.length
    · simp [h2]
    · simp [h2]
  · simp [h]
theorem hy_v_ag {b n : Nat} {ρ ρ' : Nat → Nat} (h : ∀ k, k < n → ρ' k = ρ k) {v : hyV} (hv : hy_vok n v = true) : hy_v b ρ' v = hy_v b ρ v := by
  match v, hv with
  | .inl x, _ => rfl
  | .inr (.inl k), hv => exact congrArg Value.ref (h k (Nat.lt_of_lt_of_le (Nat.lt_succ_self k) (Nat.le_of_ble_eq_true hv)))
  | .inr (.inr false), _ => rfl
  | .inr (.inr true), _ => rfl
theorem hy_vs_ag {b n : Nat} {ρ ρ' : Nat → Nat} (h : ∀ k, k < n → ρ' k = ρ k) {vs : List hyV} (hv : vs.all (hy_vok n) = true) : vs.map (hy_v b ρ') = vs.map (hy_v b ρ) :=
  List.map_congr_left (fun v hm => hy_v_ag h (List.all_eq_true.mp hv v hm))
theorem hy_w_ag {b n : Nat} {ρ ρ' : Nat → Nat} {κ κ' : Nat → ClassId} {w : hyW} (h : ∀ k, k < n → ρ' k = ρ k ∧ κ' k = κ k) (hl : w.length ≤ n) (hw : hy_wok n w = true) : hy_w b ρ' κ' w = hy_w b ρ κ w := by
  apply List.ext_getElem?
  intro j
  rw [hy_w_get, hy_w_get]
  cases hj : w[j]? with
  | none => rfl
  | some c =>
    have hlt : j < n := Nat.lt_of_lt_of_le (List.getElem?_eq_some_iff.mp hj).1 hl
    have hc := List.all_eq_true.mp hw c (List.mem_of_getElem? hj)
    obtain ⟨h1, h2⟩ := h j hlt
    cases c with
    | inl a =>
      obtain ⟨t, m, f⟩ := a
      simp only [Option.map_some, hy_c, h1, h2]
    | inr o =>
      obtain ⟨ci, fs⟩ := o
      simp only [Option.map_some, hy_c, h1]
      rw [hy_vs_ag (fun k hk => (h k hk).1) hc]
theorem hy_w_app {b : Nat} {ρ : Nat → Nat} {κ : Nat → ClassId} {w : hyW} {c : hyC} : hy_w b ρ κ (w ++ [c]) = hy_w b ρ κ w ++ [(ρ w.length, hy_c b ρ κ w.length c)] := by
  simp [hy_w, List.mapIdx_append]
theorem hy_nth_ok {α : Type} : ∀ {l : List α} {n : Nat} {K : α → Prop}, hy_nth l n K → ∃ a, l[n]? = some a ∧ K a
  | [], _, _, h => h.elim
  | a :: _, 0, _, h => ⟨a, rfl, h⟩
  | _ :: r, n + 1, K, h => by
    obtain ⟨x, h1, h2⟩ := hy_nth_ok (l := r) (n := n) (K := K) h
    exact ⟨x, by simpa using h1, h2⟩
theorem hy_upd_ok {α : Type} : ∀ {l : List α} {n : Nat} {v : α} {K : List α → Prop}, hy_upd l n v K → n < l.length ∧ K (l.set n v)
  | [], _, _, _, h => h.elim
  | _ :: _, 0, _, _, h => ⟨Nat.succ_pos _, h⟩
  | a :: r, n + 1, v, K, h => by
    obtain ⟨h1, h2⟩ := hy_upd_ok (l := r) (n := n) (v := v) (K := fun r' => K (a :: r')) h
    exact ⟨Nat.succ_lt_succ h1, h2⟩
theorem hy_pop_ok {α : Type} : ∀ {n : Nat} {st acc : List α} {K : List α → List α → Prop}, hy_pop n st acc K → ∃ as rest, as.length = n ∧ st = as.reverse ++ rest ∧ K (as ++ acc) rest
  | 0, st, acc, K, h => ⟨[], st, rfl, rfl, h⟩
  | n + 1, [], acc, K, h => h.elim
  | n + 1, x :: r, acc, K, h => by
    obtain ⟨as, rest, h1, h2, h3⟩ := hy_pop_ok (n := n) (st := r) (acc := x :: acc) (K := K) h
    exact ⟨as ++ [x], rest, by simp [h1], by simp [h2], by simpa using h3⟩
theorem hy_ints_ok : ∀ {as : List hyV} {K : List Int32 → Prop}, hy_ints as K → ∃ xs : List Int32, as = xs.map (fun x => Sum.inl x) ∧ K xs
  | [], K, h => ⟨[], rfl, h⟩
  | .inl x :: r, K, h => by
    obtain ⟨xs, h1, h2⟩ := hy_ints_ok (as := r) (K := fun xs => K (x :: xs)) h
    exact ⟨x :: xs, by rw [h1]; rfl, h2⟩
  | .inr _ :: _, _, h => h.elim
def hy_lv (b : Nat) (ρ : Nat → Nat) (L : hyL) : List (Nat × Value) := L.zipIdx.filterMap (fun q => q.1.map (fun v => (q.2, hy_v b ρ v)))
theorem hy_lv_mem {b : Nat} {ρ : Nat → Nat} {L : hyL} {i : Nat} {x : Value} : (i, x) ∈ hy_lv b ρ L ↔ ∃ v, L[i]? = some (some v) ∧ hy_v b ρ v = x := by
  unfold hy_lv
  rw [List.mem_filterMap]
  constructor
  · rintro ⟨⟨o, j⟩, h1, h2⟩
    rw [List.mem_zipIdx_iff_getElem?] at h1
    cases o with
    | none => cases h2
    | some v =>
      simp only [Option.map_some, Option.some.injEq, Prod.mk.injEq] at h2
      exact ⟨v, by rw [← h2.1]; exact h1, h2.2⟩
  · rintro ⟨v, h1, h2⟩
    exact ⟨(some v, i), by rw [List.mem_zipIdx_iff_getElem?]; exact h1, by simp [h2]⟩
theorem hy_lr_has {b : Nat} {ρ : Nat → Nat} {nL : Nat} {L : hyL} {ls : Array Slot} (h : hy_lr b ρ nL L ls) : lv_has ls nL (hy_lv b ρ L) := by
  refine ⟨h.1, h.2.2.1, fun q hq => ?_⟩
  obtain ⟨v, h1, h2⟩ := hy_lv_mem.mp (show (q.1, q.2) ∈ hy_lv b ρ L from hq)
  rw [← h2]
  exact h.2.2.2 q.1 v h1
theorem hy_v_cat (b : Nat) (ρ : Nat → Nat) (v : hyV) : (hy_v b ρ v).category = 1 := by
  match v with
  | .inl _ => rfl
  | .inr (.inl _) => rfl
  | .inr (.inr false) => rfl
  | .inr (.inr true) => rfl
theorem hy_lr_set {b : Nat} {ρ : Nat → Nat} {nL : Nat} {L : hyL} {ls : Array Slot} {a : Nat} {x : hyV} (hL : L.length = nL) (h : lv_has ls nL ((a, hy_v b ρ x) :: (hy_lv b ρ L).filter (fun q => !(q.1 == a) && !(q.1 + 1 == a && q.2.category == 2)))) : hy_lr b ρ nL (L.set a (some x)) ls := by
  refine ⟨h.1, by simp [hL], h.2.1, fun i v hi => ?_⟩
  rw [List.getElem?_set] at hi
  by_cases e : a = i
  · subst e
    rw [if_pos rfl] at hi
    split at hi
    · cases hi
      exact h.2.2 (a, hy_v b ρ x) List.mem_cons_self
    · cases hi
  · rw [if_neg e] at hi
    refine h.2.2 (i, hy_v b ρ v) (List.mem_cons_of_mem _ (List.mem_filter.mpr ⟨hy_lv_mem.mpr ⟨v, hi, rfl⟩, ?_⟩))
    have hc := hy_v_cat b ρ v
    simp [hc]
    exact fun h => e h.symm
theorem hy_lr_ag {b n : Nat} {ρ ρ' : Nat → Nat} {nL : Nat} {L : hyL} {ls : Array Slot} (h : ∀ k, k < n → ρ' k = ρ k) (hL : hy_lok n L = true) (hl : hy_lr b ρ nL L ls) : hy_lr b ρ' nL L ls := by
  refine ⟨hl.1, hl.2.1, hl.2.2.1, fun i v hi => ?_⟩
  rw [hy_v_ag h (List.all_eq_true.mp hL _ (List.mem_of_getElem? hi))]
  exact hl.2.2.2 i v hi
theorem hy_K_set {dC : Nat → ClassId} {dI : Nat → Nat → Nat} {κ : Nat → ClassId} {w : hyW} {U : State} {k : Nat} {c : hyC} (h : hy_K dC dI κ w U) (hc : ∀ t n f, c = .inl (t, n, f) → ∃ n' f', w[k]? = some (.inl (t, n', f'))) : hy_K dC dI κ (w.set k c) U := by
  refine ⟨h.1, fun j t n f hj => ?_⟩
  rw [List.getElem?_set] at hj
  by_cases e : k = j
  · subst e
    rw [if_pos rfl] at hj
    split at hj
    · obtain ⟨n', f', h1⟩ := hc t n f (Option.some.inj hj)
      exact h.2 k t n' f' h1
    · cases hj
  · rw [if_neg e] at hj
    exact h.2 j t n f hj
theorem hy_K_moved {dC : Nat → ClassId} {dI : Nat → Nat → Nat} {κ : Nat → ClassId} {w : hyW} {u U : State} (hvm : u.vm.Alike U.vm) (h : hy_K dC dI κ w u) : hy_K dC dI κ w U :=
  ⟨va_K.moved hvm h.1, fun k t n f hk => va_K.moved hvm (h.2 k t n f hk)⟩
theorem hy_nw_form {x : Cond} (h : x ∈ hy_nw) : ∃ a i y hh, x = .methodLinkNest a i y hh := by
  have h2 := (List.mem_filter.mp h).2
  revert h2
  cases x <;> intro h2 <;> first | exact ⟨_, _, _, _, rfl⟩ | cases h2
theorem hy_nw_warm {s U : State} (hW : s.WarmedH U.vm) (h : ∀ x ∈ hy_nw, va_Nw x s) : ∀ x ∈ hy_nw, va_Nw x U := by
  intro x hx
  obtain ⟨a, i, y, hh, rfl⟩ := hy_nw_form hx
  exact va_Nw.warmM hW (h _ hx)
theorem hy_nw_same {s U : State} (hW : s.vm = U.vm) (h : ∀ x ∈ hy_nw, va_Nw x s) : ∀ x ∈ hy_nw, va_Nw x U := by
  intro x hx
  obtain ⟨a, i, y, hh, rfl⟩ := hy_nw_form hx
  exact va_Nw.same rfl hW (h _ hx)
theorem hy_ag_refl (kc n : Nat) (ρ : Nat → Nat) (κ : Nat → ClassId) : hy_ag kc n n ρ κ ρ κ := ⟨Nat.le_refl n, fun _ => ⟨rfl, rfl⟩, fun _ _ => ⟨rfl, rfl⟩⟩
/-! ===== one step of a frame ===== -/
/-- a step that leaves locals and world alone -/
theorem hy_s0 {scr : hyS} {d : Nat} {M : hyM} {Q : hyQ} {kc ks pc pc' : Nat} {L : hyL} {st st' : List hyV} {w : hyW}
    (h : ∀ (p : Program) (l : Launch) (e : Env) (R : Room) (s : State) (m : MethodId) (args : Array Value) (below : List Frame) (meth : Method) (c : Code) (A : Nat → Prop) (dC : Nat → ClassId) (dI : Nat → Nat → Nat) (b : Nat) (Qf : State → Prop) (ρ : Nat → Nat) (κ : Nat → ClassId) (H : Heap) (locs : List Loc) (cells slots : Nat) (ls : Array Slot),
      hy_cx M p s m args meth c A → hy_sc scr b s A → d ≤ R.frames → 40 * (d + 1) ≤ R.locals → hy_lr b ρ M.2.2.1 L ls → hy_U dC dI b ρ κ A w s H → va_S A s.heap H locs →
      W p l e R s m args below meth c H locs cells slots Qf (F0 m pc' ls (st'.map (hy_v b ρ))) → W p l e R s m args below meth c H locs cells slots Qf (F0 m pc ls (st.map (hy_v b ρ))))
    (k : hy_X scr d M Q kc ks (pc', L, st', w)) : hy_X scr d M Q kc ks (pc, L, st, w) := by
  intro p l e R s m args below meth c A dC dI b Qf ρ κ H locs cells slots ls h1 h2 h3 h4 h5 h6 h7 h8 h9 h10
  exact h p l e R s m args below meth c A dC dI b Qf ρ κ H locs cells slots ls h1 h2 h3 h4 h7 h8 h9 (k p l e R s m args below meth c A dC dI b Qf ρ κ H locs cells slots ls h1 h2 h3 h4 h5 h6 h7 h8 h9 h10)
/-- a step that stores into a local -/
theorem hy_s1 {scr : hyS} {d : Nat} {M : hyM} {Q : hyQ} {kc ks pc pc' a : Nat} {L : hyL} {st st' : List hyV} {w : hyW} {x : hyV}
    (h : ∀ (p : Program) (l : Launch) (e : Env) (R : Room) (s : State) (m : MethodId) (args : Array Value) (below : List Frame) (meth : Method) (c : Code) (A : Nat → Prop) (b : Nat) (Qf : State → Prop) (ρ : Nat → Nat) (H : Heap) (locs : List Loc) (cells slots : Nat) (ls : Array Slot),
      hy_cx M p s m args meth c A → hy_lr b ρ M.2.2.1 L ls → lv_has ls M.2.2.1 (hy_lv b ρ L) →
      (∀ ls', lv_has ls' M.2.2.1 ((a, hy_v b ρ x) :: (hy_lv b ρ L).filter (fun q => !(q.1 == a) && !(q.1 + 1 == a && q.2.category == 2))) → W p l e R s m args below meth c H locs cells slots Qf (F0 m pc' ls' (st'.map (hy_v b ρ)))) → W p l e R s m args below meth c H locs cells slots Qf (F0 m pc ls (st.map (hy_v b ρ))))
    (k : hy_X scr d M Q kc ks (pc', L.set a (some x), st', w)) : hy_X scr d M Q kc ks (pc, L, st, w) := by
  intro p l e R s m args below meth c A dC dI b Qf ρ κ H locs cells slots ls h1 h2 h3 h4 h5 h6 h7 h8 h9 h10
  exact h p l e R s m args below meth c A b Qf ρ H locs cells slots ls h1 h7 (hy_lr_has h7) (fun ls' h' => k p l e R s m args below meth c A dC dI b Qf ρ κ H locs cells slots ls' h1 h2 h3 h4 h5 h6 (hy_lr_set h7.2.1 h') h8 h9 h10)
/-- a step that changes one cell -/
theorem hy_s2 {scr : hyS} {d : Nat} {M : hyM} {Q : hyQ} {kc ks pc pc' a : Nat} {L : hyL} {st st' : List hyV} {w : hyW} {x : hyC} (hx : ∀ t n f, x = .inl (t, n, f) → ∃ n' f', w[a]? = some (.inl (t, n', f')))
    (h : ∀ (p : Program) (l : Launch) (e : Env) (R : Room) (s : State) (m : MethodId) (args : Array Value) (below : List Frame) (meth : Method) (c : Code) (A : Nat → Prop) (dC : Nat → ClassId) (dI : Nat → Nat → Nat) (b : Nat) (Qf : State → Prop) (ρ : Nat → Nat) (κ : Nat → ClassId) (H : Heap) (locs : List Loc) (cells slots : Nat) (ls : Array Slot),
      hy_cx M p s m args meth c A → hy_U dC dI b ρ κ A w s H → va_S A s.heap H locs →
      (∀ H1 locs1, va_P (dC, dI) vwCl ((hy_w b ρ κ w).set a (ρ a, hy_c b ρ κ a x)) H1 → va_D A ((hy_w b ρ κ w).set a (ρ a, hy_c b ρ κ a x)) → va_S A s.heap H1 locs1 → W p l e R s m args below meth c H1 locs1 cells slots Qf (F0 m pc' ls (st'.map (hy_v b ρ)))) → W p l e R s m args below meth c H locs cells slots Qf (F0 m pc ls (st.map (hy_v b ρ))))
    (k : hy_X scr d M Q kc ks (pc', L, st', w.set a x)) : hy_X scr d M Q kc ks (pc, L, st, w) := by
  intro p l e R s m args below meth c A dC dI b Qf ρ κ H locs cells slots ls h1 h2 h3 h4 h5 h6 h7 h8 h9 h10
  refine h p l e R s m args below meth c A dC dI b Qf ρ κ H locs cells slots ls h1 h8 h9 (fun H1 locs1 a1 a2 a3 => ?_)
  rw [hy_w_set] at a1 a2
  exact k p l e R s m args below meth c A dC dI b Qf ρ κ H1 locs1 cells slots ls h1 h2 h3 h4 h5 h6 h7 ⟨a1, a2, hy_K_set h8.2.2 hx⟩ a3 (by
    show hy_rt p l e R s m args below meth c A dC dI b Qf M Q kc ks (w.set a x).length ρ κ cells slots
    rw [List.length_set]; exact h10)
theorem hy_br_ok {cd : ClassFile.Cond} {x y : Int32} {A B : Prop} (h : hy_br cd x y A B) : (hy_cmp cd x y → A) ∧ (¬ hy_cmp cd x y → B) := by
  cases cd with
  | ne => exact ⟨h.2, fun q => h.1 (Classical.not_not.mp q)⟩
  | _ => exact h
