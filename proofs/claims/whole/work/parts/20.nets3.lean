/-! ===== which nets a find fits ===== -/
abbrev fit (st mk : Nat → Int32) (y no : Int32) (k : Nat) : Prop := st k = 2 ∧ (mk k &&& y) = y ∧ (mk k &&& no) = 0
section
variable (N F S T C : hyB) (R : hyW)
theorem l_n_afloat (Q : hyQ) (y no : Int32) (n : Nat) (hN : iN N n) (K : Q (some (nI (bitf (fit (N.1 7) (N.1 3) y no) n))) (wW N F S T C R)) :
    ∀ (j i : Nat) (x : Option hyV), n - i = j → i ≤ n → hy_X none 4 mX2_afloatWith Q 0 0 (5, [some (hy_r 1), some (.inl y), some (.inl no), some (.inl (nI (bitf (fit (N.1 7) (N.1 3) y no) i))), some (.inl (nI i)), x], [], wW N F S T C R) := by
  obtain ⟨c1, c2, -, -⟩ := id hN
  intro j
  induction j with
  | zero =>
    intro i x hj hi
    have : i = n := by omega
    subst this
    refine hy_go hy_pfA oX2_afloatWith [5] 60 0 0 _ ?_
    refine And.intro (fun q => K) (fun q => absurd ?_ q)
    show N.2 8 ≤ nI i
    rw [c1]; exact Int32.le_refl _
  | succ j ih =>
    intro i x hj hi
    have hcl : (nI i).toNatClampNeg = i := cl_nI (by omega)
    have hin : vp_in (nI i) 24 := vn_in (by omega) (by omega)
    have nx : ∀ x, hy_X none 4 mX2_afloatWith Q 0 0 (5, [some (hy_r 1), some (.inl y), some (.inl no), some (.inl (nI (bitf (fit (N.1 7) (N.1 3) y no) (i + 1)))), some (.inl (nI i + 1)), x], [], wW N F S T C R) := fun x => by
      rw [nI_s]; exact ih (i + 1) x (by omega) (by omega)
    have no1 : ¬ fit (N.1 7) (N.1 3) y no i → ∀ x, hy_X none 4 mX2_afloatWith Q 0 0 (5, [some (hy_r 1), some (.inl y), some (.inl no), some (.inl (nI (bitf (fit (N.1 7) (N.1 3) y no) i))), some (.inl (nI i + 1)), x], [], wW N F S T C R) := fun h x => by
      have := nx x
      rw [bitf, if_neg h, Nat.add_zero] at this
      exact this
    have b2 : ∀ (z : Int32), (z = 0 ∨ fit (N.1 7) (N.1 3) y no i ∨ ¬ N.1 7 i = 2) → (z = 0 → ¬ fit (N.1 7) (N.1 3) y no i) → hy_X none 4 mX2_afloatWith Q 0 0 (46, [some (hy_r 1), some (.inl y), some (.inl no), some (.inl (nI (bitf (fit (N.1 7) (N.1 3) y no) i))), some (.inl (nI i)), some (.inl z)], [], wW N F S T C R) := by
      intro z hz hz2
      refine hy_go hy_pfA oX2_afloatWith [5] 60 0 0 _ ?_
      refine And.intro hin ?_
      refine And.intro (fun q2 => ?_) (fun q2 => ?_)
      · rw [hcl] at q2
        refine And.intro (fun q3 => ?_) (fun q3 => ?_)
        · exact no1 (hz2 q3) _
        · have hf : fit (N.1 7) (N.1 3) y no i := by
            rcases hz with h | h | h
            · exact absurd h q3
            · exact h
            · exact absurd q2 h
          have := nx (some (.inl z))
          rw [bitf, if_pos hf, ← or_2 (bitf_lt _ _) (by omega), ← shl_1 (by omega)] at this
          exact this
      · rw [hcl] at q2
        exact no1 (fun h => q2 h.1) _
    refine hy_go hy_pfA oX2_afloatWith [5, 46] 60 0 0 _ ?_
    refine And.intro (fun q => ?_) (fun q => ?_)
    · rw [c1, nI_le24 (by omega) (by omega)] at q
      omega
    · refine And.intro hin ?_
      refine And.intro (fun q2 => ?_) (fun q2 => ?_)
      · rw [hcl] at q2
        refine And.intro hin ?_
        refine And.intro (fun q3 => ?_) (fun q3 => ?_)
        · rw [hcl] at q3
          refine b2 1 ?_ (fun h => absurd h (by decide))
          by_cases q4 : N.1 7 i = 2
          · exact Or.inr (Or.inl ⟨q4, q2, q3⟩)
          · exact Or.inr (Or.inr q4)
        · rw [hcl] at q3
          exact b2 0 (Or.inl rfl) (fun _ h => q3 h.2.2)
      · rw [hcl] at q2
        exact b2 0 (Or.inl rfl) (fun _ h => q2 h.2.1)
theorem r_n_afloat (y no : Int32) (n : Nat) (hN : iN N n) : hy_R 4 mX2_afloatWith 0 0 [hy_r 1, .inl y, .inl no] (wW N F S T C R) (fun o w1 => ∃ x, o = some x ∧ x = nI (bitf (fit (N.1 7) (N.1 3) y no) n) ∧ w1 = wW N F S T C R) := by
  refine hy_Ri (L := [some (hy_r 1), some (.inl y), some (.inl no), none, none, none]) rfl (by decide) (hy_ple rfl) rfl ?_
  refine hy_go hy_pfA oX2_afloatWith [5] 60 0 0 _ ?_
  exact l_n_afloat N F S T C R _ y no n hN ⟨_, rfl, rfl, rfl⟩ n 0 none (by omega) (by omega)
end
