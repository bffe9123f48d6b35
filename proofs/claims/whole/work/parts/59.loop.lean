/-! ===== the law's loop ===== -/
section
variable (L : Nat) (xs : Nat → Int32)
def lwQ : hyQ := fun o _ => o = some 1
theorem nI_k (i k : Nat) : nI i + nI k = nI (i + k) := nI_add i k
set_option maxRecDepth 100000 in
theorem law_loop (hL : L ≤ 2560) : ∀ (j i : Nat) (N F S T C M : hyB), L - i ≤ j → i ≤ L + 5 → rel N F S T C M → hy_X (some (L, xs)) 30 mL_law lwQ 0 0 (18, [some (.inr (.inr true)), some (hy_r 0), some (hy_r 30), some (.inl (nI i))], [], wW N F S T C (wM M)) := by
  have h5 : (nI L - 5).toInt = (L : Int) - 5 := pk_sub_toInt (a := L) (b := 5) (by omega) (by omega)
  intro j
  induction j with
  | zero =>
    intro i N F S T C M hj hi hr
    refine hy_go hy_pfA oL_law [18, 827] 60 0 0 _ ?_
    refine And.intro (fun q => ?_) (fun q => absurd ?_ q)
    · exact hy_go hy_pfA oL_law [18] 60 0 0 _ rfl
    · show nI L - 5 < nI i
      rw [zi_lt, h5, zi_nI (by omega)]; omega
  | succ j ih =>
    intro i N F S T C M hj hi hr
    by_cases hc : i + 5 ≤ L
    · have v0 : vp_in (nI i) L := vp_in_nI (by omega) (by omega)
      have v1 : vp_in (nI i + 1) L := by
        have : vp_in (nI (i + 1)) L := vp_in_nI (by omega) (by omega)
        rwa [← nI_k] at this
      have v2 : vp_in (nI i + 2) L := by
        have : vp_in (nI (i + 2)) L := vp_in_nI (by omega) (by omega)
        rwa [← nI_k] at this
      have v3 : vp_in (nI i + 3) L := by
        have : vp_in (nI (i + 3)) L := vp_in_nI (by omega) (by omega)
        rwa [← nI_k] at this
      have v4 : vp_in (nI i + 4) L := by
        have : vp_in (nI (i + 4)) L := vp_in_nI (by omega) (by omega)
        rwa [← nI_k] at this
      have nx : ∀ N' F' S' T' C' M', rel N' F' S' T' C' M' → hy_X (some (L, xs)) 30 mL_law lwQ 0 0 (821, [some (.inr (.inr true)), some (hy_r 0), some (hy_r 30), some (.inl (nI i))], [], wW N' F' S' T' C' (wM M')) := fun N' F' S' T' C' M' hr' => by
        refine hy_go hy_pfA oL_law [18] 60 0 0 _ ?_
        have h := ih (i + 5) N' F' S' T' C' M' (by omega) (by omega) hr'
        rw [← nI_k] at h
        exact h
      refine hy_go hy_pfA oL_law [140, 173, 206, 259, 282, 305, 328, 361, 394, 427, 480, 503, 516, 549, 562, 595, 628, 641, 664, 677, 710, 749, 798, 821, 827] 60 0 0 _ ?_
      refine And.intro (fun q => ?_) (fun q => ?_)
      · have q : nI L - 5 < nI i := q
        rw [zi_lt, h5, zi_nI (by omega)] at q; omega
      · refine And.intro v0 ?_
        refine And.intro (fun _ => w_salt L xs N F S T C M lwQ i v1 v2 hr nx) (fun _ => ?_)
        refine And.intro (fun _ => w_ripens L xs N F S T C M lwQ i v1 v2 hr nx) (fun _ => ?_)
        refine And.intro (fun _ => w_net L xs N F S T C M lwQ i v1 v2 v3 v4 hr nx) (fun _ => ?_)
        refine And.intro (fun _ => w_weeks L xs N F S T C M lwQ i v1 hr nx) (fun _ => ?_)
        refine And.intro (fun _ => w_pull L xs N F S T C M lwQ i v1 hr nx) (fun _ => ?_)
        refine And.intro (fun _ => w_flood L xs N F S T C M lwQ i v1 hr nx) (fun _ => ?_)
        refine And.intro (fun _ => w_find L xs N F S T C M lwQ i v1 v2 hr nx) (fun _ => ?_)
        refine And.intro (fun _ => w_found L xs N F S T C M lwQ i v1 v2 hr nx) (fun _ => ?_)
        refine And.intro (fun _ => w_netOf L xs N F S T C M lwQ i v1 v2 hr nx) (fun _ => ?_)
        refine And.intro (fun _ => w_order L xs N F S T C M lwQ i v1 v2 v3 v4 hr nx) (fun _ => ?_)
        refine And.intro (fun _ => w_change L xs N F S T C M lwQ i v1 hr nx) (fun _ => ?_)
        refine And.intro (fun _ => w_late L xs N F S T C M lwQ i  hr nx) (fun _ => ?_)
        refine And.intro (fun _ => w_spun L xs N F S T C M lwQ i v1 v2 hr nx) (fun _ => ?_)
        refine And.intro (fun _ => w_clear L xs N F S T C M lwQ i  hr nx) (fun _ => ?_)
        refine And.intro (fun _ => w_roll L xs N F S T C M lwQ i v1 v2 hr nx) (fun _ => ?_)
        refine And.intro (fun _ => w_cut L xs N F S T C M lwQ i v1 v2 hr nx) (fun _ => ?_)
        refine And.intro (fun _ => w_opened L xs N F S T C M lwQ i  hr nx) (fun _ => ?_)
        refine And.intro (fun _ => w_from L xs N F S T C M lwQ i v1 hr nx) (fun _ => ?_)
        refine And.intro (fun _ => w_away L xs N F S T C M lwQ i  hr nx) (fun _ => ?_)
        refine And.intro (fun _ => w_reading L xs N F S T C M lwQ i v1 v2 hr nx) (fun _ => ?_)
        refine And.intro (fun _ => w_errs L xs N F S T C M lwQ i v1 hr nx) (fun _ => ?_)
        refine And.intro (fun _ => w_back L xs N F S T C M lwQ i v1 v2 hr nx) (fun _ => ?_)
        refine And.intro (fun _ => w_about L xs N F S T C M lwQ i v1 hr nx) (fun _ => ?_)
        exact nx N F S T C M hr
    · refine hy_go hy_pfA oL_law [18, 827] 60 0 0 _ ?_
      refine And.intro (fun q => ?_) (fun q => absurd ?_ q)
      · exact hy_go hy_pfA oL_law [18] 60 0 0 _ rfl
      · show nI L - 5 < nI i
        rw [zi_lt, h5, zi_nI (by omega)]; omega
end
