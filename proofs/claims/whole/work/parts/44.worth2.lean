/-! worth, its loop -/
abbrev lW (mk k y w p e : Int32) (r : ML) : ML := (0, .ref 11) :: (1, .int mk) :: (2, .int k) :: (3, .int y) :: (4, .int w) :: (5, .int p) :: (6, .int e) :: r
theorem n_maxsub {t u : Nat} (ht : t ≤ 120) (hu : u ≤ 2) : (if 0 < nI t - nI u then nI t - nI u else 0) = nI (t - u) := by
  by_cases h : u ≤ t
  · rw [pk_sub h]
    by_cases h2 : t - u = 0
    · rw [h2]
      rfl
    · rw [if_pos (show (0 : Int32) < nI (t - u) from n_lt (a := 0) (b := t - u) (by omega) (by omega))]
  · rw [if_neg, show t - u = 0 by omega]
    · rfl
    · rw [Int32.lt_iff_toInt_lt, pk_sub_toInt (by omega) (by omega), Int32.toInt_zero]
      omega
section WK
variable {N : Nat} {sc : Nat × (Nat → Int32)} {x : XS} {m : OS} {tl : MH} {mk k y w p e : Int32} {v : Option Value} {hT : MH}
theorem l_w1 (stk : Nat → Int32) (top at_ : Nat) (ht : top ≤ 120) (c : Int32) (K : MW M_L_worth 2 0 0 v hT 0 0 160 (lW mk k y w p e [(7, .int (nI top)), (8, .int 0), (9, .int (nI at_)), (10, .int c), (11, .int (sp_rt top stk)), (12, .int (sp_lf top stk)), (13, .int 2), (14, .int 0)]) [] (heapN N sc (xW_stack_s x stk) m tl)) : MW M_L_worth 2 0 0 v hT 0 0 96 (lW mk k y w p e [(7, .int (nI top)), (8, .int 0), (9, .int (nI at_)), (10, .int c)]) [] (heapN N sc (xW_stack_s x stk) m tl) := by
  have hw : ∀ j : Nat, 1 ≤ j → j ≤ 2 → (j ≤ top → nI j ≤ nI top ∧ nI top ≤ nI 120) ∧ (¬ j ≤ top → ¬ (nI j ≤ nI top ∧ nI top ≤ nI 120)) := fun j h1 h2 => ⟨fun z => ⟨nI_le z (by omega), nI_le ht (by omega)⟩, fun z q => z ((nI_leI (by omega) (by omega)).mp q.1)⟩
  have hsub : ∀ j : Nat, j ≤ top → nI top - nI j = nI (top - j) := fun j h => pk_sub h
  repeat (refine mw_step rfl ?_)
  refine mw_call (c_within _ _ _ _) rfl rfl (Nat.le_of_ble_eq_true rfl) (Nat.le_refl _) (Nat.le_refl _) ?_
  by_cases h1 : 1 ≤ top
  · refine mw_brF rfl (bI_ne ((hw 1 (by omega) (by omega)).1 h1)) ?_
    repeat (refine mw_step rfl ?_)
    refine mw_ild rfl (hsub 1 h1) (by omega) (by decide) ?_
    repeat (refine mw_step rfl ?_)
    refine mw_call (c_within _ _ _ _) rfl rfl (Nat.le_of_ble_eq_true rfl) (Nat.le_refl _) (Nat.le_refl _) ?_
    by_cases h2 : 2 ≤ top
    · refine mw_brF rfl (bI_ne ((hw 2 (by omega) (by omega)).1 h2)) ?_
      repeat (refine mw_step rfl ?_)
      refine mw_ild rfl (hsub 2 h2) (by omega) (by decide) ?_
      repeat (refine mw_to 160 rfl rfl ?_)
      refine mw_pick [0, 1, 2, 3, 4, 5, 6, 7, 8, 9, 10, 11, 12, 13, 14] rfl ?_
      rw [sp_rt, if_pos h1, sp_lf, if_pos h2] at K
      exact K
    · refine mw_brT rfl (bI_f ((hw 2 (by omega) (by omega)).2 h2)) ?_
      repeat (refine mw_to 160 rfl rfl ?_)
      refine mw_pick [0, 1, 2, 3, 4, 5, 6, 7, 8, 9, 10, 11, 12, 13, 14] rfl ?_
      rw [sp_rt, if_pos h1, sp_lf, if_neg h2] at K
      exact K
  · refine mw_brT rfl (bI_f ((hw 1 (by omega) (by omega)).2 h1)) ?_
    repeat (refine mw_step rfl ?_)
    refine mw_call (c_within _ _ _ _) rfl rfl (Nat.le_of_ble_eq_true rfl) (Nat.le_refl _) (Nat.le_refl _) ?_
    refine mw_brT rfl (bI_f ((hw 2 (by omega) (by omega)).2 (by omega))) ?_
    repeat (refine mw_to 160 rfl rfl ?_)
    refine mw_pick [0, 1, 2, 3, 4, 5, 6, 7, 8, 9, 10, 11, 12, 13, 14] rfl ?_
    rw [sp_rt, if_neg h1, sp_lf, if_neg (by omega)] at K
    exact K
theorem l_w3 (stk : Nat → Int32) (top at_ u : Nat) (ht : top ≤ 120) (hu : u ≤ 2) (val : Int32)
    (K1 : top - u < 120 → MW M_L_worth 2 0 0 v hT 0 0 58 (lW mk k y w p e [(7, .int (nI (top - u + 1))), (8, .int 0), (9, .int (nI (at_ + 1)))]) [] (heapN N sc (xW_stack_s x (upd stk (top - u) val)) m tl))
    (K2 : ¬ top - u < 120 → MW M_L_worth 2 0 0 v hT 0 0 58 (lW mk k y w p e [(7, .int (nI (top - u))), (8, .int 0), (9, .int (nI (at_ + 1)))]) [] (heapN N sc (xW_stack_s x stk) m tl)) :
    MW M_L_worth 2 0 0 v hT 0 0 358 (lW mk k y w p e [(7, .int (nI top)), (8, .int 0), (9, .int (nI at_)), (13, .int (nI u)), (14, .int val)]) [] (heapN N sc (xW_stack_s x stk) m tl) := by
  repeat (refine mw_step rfl ?_)
  refine mw_call (c_J_max _ _ _) rfl rfl (Nat.le_of_ble_eq_true rfl) (Nat.le_refl _) (Nat.le_refl _) ?_
  rw [n_maxsub ht hu]
  repeat (refine mw_step rfl ?_)
  by_cases h : top - u < 120
  · refine mw_brT rfl (n_lt (b := 120) h (by omega)) ?_
    repeat (refine mw_step rfl ?_)
    refine mw_ist rfl (rfl) (by omega) (by decide) ?_
    repeat (refine mw_to 58 rfl rfl ?_)
    rw [nI_1, nI_1]
    refine mw_pick [0, 1, 2, 3, 4, 5, 6, 7, 8, 9] rfl ?_
    exact K1 h
  · refine mw_brF rfl (n_nlt (b := 120) (by omega) (by omega)) ?_
    repeat (refine mw_to 58 rfl rfl ?_)
    rw [nI_1]
    refine mw_pick [0, 1, 2, 3, 4, 5, 6, 7, 8, 9] rfl ?_
    exact K2 h
end WK
