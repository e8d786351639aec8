/-! taken, house, papers, paper, body, trace as the law calls them -/
section CL
variable {sc : Nat × (Nat → Int32)} {x : XS} {m : OS} {P : List PieceS} {N n : Nat} {tl : MH}
theorem c_C_taken_bad (d k : Int32) (h : ¬ ((0 ≤ d ∧ d ≤ nI 5) ∧ (0 ≤ k ∧ k ≤ nI 7))) : MC M_C_taken 3 0 0 [.ref 5, .int d, .int k] (heapN N sc x m tl) (some (.int (-1))) (heapN N sc x m tl) := by
  refine mc_of k1_C_taken k2_C_taken (Nat.le_of_ble_eq_true rfl) ?_
  repeat (refine mw_step rfl ?_)
  refine mw_call (c_isShelf _ _) rfl rfl (Nat.le_of_ble_eq_true rfl) (Nat.le_refl _) (Nat.le_refl _) ?_
  refine mw_br rfl (fun h1 => ?_) (fun h1 => ?_)
  · repeat (refine mw_step rfl ?_)
    exact mw_r1 rfl trivial (Nat.le_refl _) (Nat.le_refl _) rfl rfl
  · repeat (refine mw_step rfl ?_)
    refine mw_call (c_B_isBodyKind _ _) rfl rfl (Nat.le_of_ble_eq_true rfl) (Nat.le_refl _) (Nat.le_refl _) ?_
    refine mw_br rfl (fun h2 => ?_) (fun h2 => ?_)
    · repeat (refine mw_step rfl ?_)
      exact mw_r1 rfl trivial (Nat.le_refl _) (Nat.le_refl _) rfl rfl
    · exact absurd ⟨bI_of h1, bI_of h2⟩ h
theorem c_C_taken_0 (a : Nat) (k : Int32) (ha : a ≤ 5) (hk : 0 ≤ k ∧ k ≤ nI 7) (hs : xH_sorts x a = -2) : MC M_C_taken 3 0 0 [.ref 5, .int (nI a), .int k] (heapN N sc x m tl) (some (.int (-11))) (heapN N sc x m tl) := by
  refine mc_of k1_C_taken k2_C_taken (Nat.le_of_ble_eq_true rfl) ?_
  repeat (refine mw_step rfl ?_)
  refine mw_call (c_isShelf _ _) rfl rfl (Nat.le_of_ble_eq_true rfl) (Nat.le_refl _) (Nat.le_refl _) ?_
  refine mw_brF rfl (bI_ne (rng_in ha (by decide))) ?_
  repeat (refine mw_step rfl ?_)
  refine mw_call (c_B_isBodyKind _ _) rfl rfl (Nat.le_of_ble_eq_true rfl) (Nat.le_refl _) (Nat.le_refl _) ?_
  refine mw_brF rfl (bI_ne hk) ?_
  repeat (refine mw_step rfl ?_)
  refine mw_call (c_H_sortOn a ha) rfl rfl (Nat.le_of_ble_eq_true rfl) (Nat.le_refl _) (Nat.le_refl _) ?_
  repeat (refine mw_step rfl ?_)
  refine mw_brT rfl (hs) ?_
  repeat (refine mw_step rfl ?_)
  exact mw_r1 rfl trivial (Nat.le_refl _) (Nat.le_refl _) rfl rfl
theorem c_C_taken_row (a : Nat) (k : Int32) (ha : a ≤ 5) (hk : 0 ≤ k ∧ k ≤ nI 7) (hs : ¬ xH_sorts x a = -2) (hs2 : ¬ xH_sorts x a = -1) : MC M_C_taken 3 0 0 [.ref 5, .int (nI a), .int k] (heapN N sc x m tl) (some (.int (-12))) (heapN N sc x m tl) := by
  refine mc_of k1_C_taken k2_C_taken (Nat.le_of_ble_eq_true rfl) ?_
  repeat (refine mw_step rfl ?_)
  refine mw_call (c_isShelf _ _) rfl rfl (Nat.le_of_ble_eq_true rfl) (Nat.le_refl _) (Nat.le_refl _) ?_
  refine mw_brF rfl (bI_ne (rng_in ha (by decide))) ?_
  repeat (refine mw_step rfl ?_)
  refine mw_call (c_B_isBodyKind _ _) rfl rfl (Nat.le_of_ble_eq_true rfl) (Nat.le_refl _) (Nat.le_refl _) ?_
  refine mw_brF rfl (bI_ne hk) ?_
  repeat (refine mw_step rfl ?_)
  refine mw_call (c_H_sortOn a ha) rfl rfl (Nat.le_of_ble_eq_true rfl) (Nat.le_refl _) (Nat.le_refl _) ?_
  repeat (refine mw_step rfl ?_)
  refine mw_brF rfl (hs) ?_
  repeat (refine mw_step rfl ?_)
  refine mw_brF rfl (hs2) ?_
  repeat (refine mw_step rfl ?_)
  refine mw_call (c_B_isUnder _ _) rfl rfl (Nat.le_of_ble_eq_true rfl) (Nat.le_refl _) (Nat.le_refl _) ?_
  refine mw_brT rfl (bI_f (show ¬ (false = true) by decide)) ?_
  repeat (refine mw_step rfl ?_)
  exact mw_r1 rfl trivial (Nat.le_refl _) (Nat.le_refl _) rfl rfl
theorem c_C_taken_b (a b : Nat) (k : Int32) (ha : a ≤ 5) (hk : 0 ≤ k ∧ k ≤ nI 7) (hs : xH_sorts x a = -1) (hb : xH_held x a = nI b) (hn : xB_many x = nI n) (h50 : n ≤ 50) (hbn : b < n) : MC M_C_taken 3 0 0 [.ref 5, .int (nI a), .int k] (heapN N sc x m tl) (some (.int (if sp_und k 8 (xB_kinds x b) = true then xB_kinds x b else -12))) (heapN N sc x m tl) := by
  refine mc_of k1_C_taken k2_C_taken (Nat.le_of_ble_eq_true rfl) ?_
  repeat (refine mw_step rfl ?_)
  refine mw_call (c_isShelf _ _) rfl rfl (Nat.le_of_ble_eq_true rfl) (Nat.le_refl _) (Nat.le_refl _) ?_
  refine mw_brF rfl (bI_ne (rng_in ha (by decide))) ?_
  repeat (refine mw_step rfl ?_)
  refine mw_call (c_B_isBodyKind _ _) rfl rfl (Nat.le_of_ble_eq_true rfl) (Nat.le_refl _) (Nat.le_refl _) ?_
  refine mw_brF rfl (bI_ne hk) ?_
  repeat (refine mw_step rfl ?_)
  refine mw_call (c_H_sortOn a ha) rfl rfl (Nat.le_of_ble_eq_true rfl) (Nat.le_refl _) (Nat.le_refl _) ?_
  repeat (refine mw_step rfl ?_)
  refine mw_brF rfl (by rw [hs]; decide) ?_
  repeat (refine mw_step rfl ?_)
  refine mw_brT rfl (hs) ?_
  repeat (refine mw_step rfl ?_)
  refine mw_call (c_H_bodyOn a ha) rfl rfl (Nat.le_of_ble_eq_true rfl) (Nat.le_refl _) (Nat.le_refl _) ?_
  rw [hb]
  refine mw_call (c_B_kindOf b hn h50 hbn) rfl rfl (Nat.le_of_ble_eq_true rfl) (Nat.le_refl _) (Nat.le_refl _) ?_
  repeat (refine mw_step rfl ?_)
  refine mw_call (c_B_isUnder _ _) rfl rfl (Nat.le_of_ble_eq_true rfl) (Nat.le_refl _) (Nat.le_refl _) ?_
  refine mw_br rfl (fun h1 => ?_) (fun h1 => ?_)
  · repeat (refine mw_step rfl ?_)
    exact mw_r1 rfl trivial (Nat.le_refl _) (Nat.le_refl _) (by rw [if_neg (bI_0.mp h1)]) rfl
  · repeat (refine mw_step rfl ?_)
    exact mw_r1 rfl trivial (Nat.le_refl _) (Nat.le_refl _) (by rw [if_pos (bI_of h1)]) rfl
theorem c_O_kindOf (b : Nat) (hb : b < 50) : MC M_O_kindOf 0 0 0 [.ref 39, .int (nI b)] (heapN N sc x m tl) (some (.int (zb_kind m b))) (heapN N sc x m tl) := by
  refine mc_of k1_O_kindOf k2_O_kindOf (Nat.le_of_ble_eq_true rfl) ?_
  repeat (refine mw_step rfl ?_)
  refine mw_ild rfl (rfl) (by omega) (by decide) ?_
  exact mw_r1 rfl trivial (Nat.le_refl _) (Nat.le_refl _) rfl rfl
theorem c_O_taken_bad (d k : Int32) (h : ¬ ((0 ≤ d ∧ d ≤ nI 5) ∧ (0 ≤ k ∧ k ≤ nI 7))) : MC M_O_taken 2 0 0 [.ref 39, .int d, .int k] (heapN N sc x m tl) (some (.int (-1))) (heapN N sc x m tl) := by
  refine mc_of k1_O_taken k2_O_taken (Nat.le_of_ble_eq_true rfl) ?_
  repeat (refine mw_step rfl ?_)
  refine mw_call (c_O_isShelf _ _) rfl rfl (Nat.le_of_ble_eq_true rfl) (Nat.le_refl _) (Nat.le_refl _) ?_
  refine mw_br rfl (fun h1 => ?_) (fun h1 => ?_)
  · repeat (refine mw_step rfl ?_)
    exact mw_r1 rfl trivial (Nat.le_refl _) (Nat.le_refl _) rfl rfl
  · repeat (refine mw_step rfl ?_)
    refine mw_call (c_withinO32 _ k 0 (nI 7)) rfl rfl (Nat.le_of_ble_eq_true rfl) (Nat.le_refl _) (Nat.le_refl _) ?_
    refine mw_br rfl (fun h2 => ?_) (fun h2 => ?_)
    · repeat (refine mw_step rfl ?_)
      exact mw_r1 rfl trivial (Nat.le_refl _) (Nat.le_refl _) rfl rfl
    · exact absurd ⟨bI_of h1, bI_of h2⟩ h
theorem c_O_taken_0 (a : Nat) (k : Int32) (ha : a ≤ 5) (hk : 0 ≤ k ∧ k ≤ nI 7) (hs : zs_shelf m a < 0) : MC M_O_taken 2 0 0 [.ref 39, .int (nI a), .int k] (heapN N sc x m tl) (some (.int (-11))) (heapN N sc x m tl) := by
  refine mc_of k1_O_taken k2_O_taken (Nat.le_of_ble_eq_true rfl) ?_
  repeat (refine mw_step rfl ?_)
  refine mw_call (c_O_isShelf _ _) rfl rfl (Nat.le_of_ble_eq_true rfl) (Nat.le_refl _) (Nat.le_refl _) ?_
  refine mw_brF rfl (bI_ne (rng_in ha (by decide))) ?_
  repeat (refine mw_step rfl ?_)
  refine mw_call (c_withinO32 _ k 0 (nI 7)) rfl rfl (Nat.le_of_ble_eq_true rfl) (Nat.le_refl _) (Nat.le_refl _) ?_
  refine mw_brF rfl (bI_ne hk) ?_
  repeat (refine mw_step rfl ?_)
  refine mw_ild rfl (rfl) (by omega) (by decide) ?_
  refine mw_brT rfl (hs) ?_
  repeat (refine mw_step rfl ?_)
  exact mw_r1 rfl trivial (Nat.le_refl _) (Nat.le_refl _) rfl rfl
theorem c_O_taken_row (a : Nat) (k : Int32) (ha : a ≤ 5) (hk : 0 ≤ k ∧ k ≤ nI 7) (hs : ¬ zs_shelf m a < 0) (hs2 : ¬ zs_shelf m a < 50) : MC M_O_taken 2 0 0 [.ref 39, .int (nI a), .int k] (heapN N sc x m tl) (some (.int (-12))) (heapN N sc x m tl) := by
  refine mc_of k1_O_taken k2_O_taken (Nat.le_of_ble_eq_true rfl) ?_
  repeat (refine mw_step rfl ?_)
  refine mw_call (c_O_isShelf _ _) rfl rfl (Nat.le_of_ble_eq_true rfl) (Nat.le_refl _) (Nat.le_refl _) ?_
  refine mw_brF rfl (bI_ne (rng_in ha (by decide))) ?_
  repeat (refine mw_step rfl ?_)
  refine mw_call (c_withinO32 _ k 0 (nI 7)) rfl rfl (Nat.le_of_ble_eq_true rfl) (Nat.le_refl _) (Nat.le_refl _) ?_
  refine mw_brF rfl (bI_ne hk) ?_
  repeat (refine mw_step rfl ?_)
  refine mw_ild rfl (rfl) (by omega) (by decide) ?_
  refine mw_brF rfl (hs) ?_
  repeat (refine mw_step rfl ?_)
  refine mw_ild rfl (rfl) (by omega) (by decide) ?_
  repeat (refine mw_step rfl ?_)
  refine mw_brF rfl (hs2) ?_
  repeat (refine mw_step rfl ?_)
  exact mw_r1 rfl trivial (Nat.le_refl _) (Nat.le_refl _) rfl rfl
theorem c_O_taken_b (a b kk : Nat) (k : Int32) (ha : a ≤ 5) (hk : 0 ≤ k ∧ k ≤ nI 7) (hs : zs_shelf m a = nI b) (hb : b < 50) (hkk : zb_kind m b = nI kk) (h7 : kk ≤ 7) : MC M_O_taken 2 0 0 [.ref 39, .int (nI a), .int k] (heapN N sc x m tl) (some (.int (if sp_undO k 8 kk = true then nI kk else -12))) (heapN N sc x m tl) := by
  refine mc_of k1_O_taken k2_O_taken (Nat.le_of_ble_eq_true rfl) ?_
  repeat (refine mw_step rfl ?_)
  refine mw_call (c_O_isShelf _ _) rfl rfl (Nat.le_of_ble_eq_true rfl) (Nat.le_refl _) (Nat.le_refl _) ?_
  refine mw_brF rfl (bI_ne (rng_in ha (by decide))) ?_
  repeat (refine mw_step rfl ?_)
  refine mw_call (c_withinO32 _ k 0 (nI 7)) rfl rfl (Nat.le_of_ble_eq_true rfl) (Nat.le_refl _) (Nat.le_refl _) ?_
  refine mw_brF rfl (bI_ne hk) ?_
  repeat (refine mw_step rfl ?_)
  refine mw_ild rfl (rfl) (by omega) (by decide) ?_
  refine mw_brF rfl (by rw [hs]; exact nI_pos (by omega)) ?_
  repeat (refine mw_step rfl ?_)
  refine mw_ild rfl (rfl) (by omega) (by decide) ?_
  repeat (refine mw_step rfl ?_)
  refine mw_brT rfl (by rw [hs]; exact n_lt (b := 50) hb (by omega)) ?_
  repeat (refine mw_step rfl ?_)
  refine mw_ild rfl (rfl) (by omega) (by decide) ?_
  rw [hs]
  refine mw_call (c_O_kindOf b hb) rfl rfl (Nat.le_of_ble_eq_true rfl) (Nat.le_refl _) (Nat.le_refl _) ?_
  repeat (refine mw_to 58 rfl rfl ?_)
  rw [hkk]
  refine mw_pick [0, 1, 2, 3] rfl ?_
  refine l_O_taken (nI a) k 8 kk (by omega) h7 (fun e => ?_) (fun e h0 => ?_)
  · repeat (refine mw_step rfl ?_)
    refine mw_brT rfl (rfl) ?_
    repeat (refine mw_step rfl ?_)
    refine mw_ild rfl (rfl) (by omega) (by decide) ?_
    rw [hs]
    refine mw_call (c_O_kindOf b hb) rfl rfl (Nat.le_of_ble_eq_true rfl) (Nat.le_refl _) (Nat.le_refl _) ?_
    repeat (refine mw_step rfl ?_)
    exact mw_r1 rfl trivial (Nat.le_refl _) (Nat.le_refl _) (by rw [if_pos e, hkk]) rfl
  · repeat (refine mw_step rfl ?_)
    refine mw_brF rfl (fun z => h0 z.symm) ?_
    repeat (refine mw_step rfl ?_)
    exact mw_r1 rfl trivial (Nat.le_refl _) (Nat.le_refl _) (by rw [if_neg (by rw [e]; decide)]) rfl
/-- house -/
theorem c_C_house_bad (y : Int32) (h : ¬ (0 ≤ y ∧ y ≤ nI 29)) : MC M_C_house 2 0 0 [.ref 5, .int y] (heapN N sc x m tl) (some (.int (-1))) (heapN N sc x m tl) := by
  refine mc_of k1_C_house k2_C_house (Nat.le_of_ble_eq_true rfl) ?_
  repeat (refine mw_step rfl ?_)
  refine mw_call (c_isTime _ _) rfl rfl (Nat.le_of_ble_eq_true rfl) (Nat.le_refl _) (Nat.le_refl _) ?_
  refine mw_brT rfl (bI_f h) ?_
  repeat (refine mw_step rfl ?_)
  exact mw_r1 rfl trivial (Nat.le_refl _) (Nat.le_refl _) rfl rfl
theorem c_C_house (y : Int32) (h : 0 ≤ y ∧ y ≤ nI 29) (hn : xP_many x = nI n) (h10 : n ≤ 10) : MC M_C_house 2 0 0 [.ref 5, .int y] (heapN N sc x m tl) (some (.int (sp_house (xP_from x) (xP_to x) (xP_houses x) y n 0))) (heapN N sc x m tl) := by
  refine mc_of k1_C_house k2_C_house (Nat.le_of_ble_eq_true rfl) ?_
  repeat (refine mw_step rfl ?_)
  refine mw_call (c_isTime _ _) rfl rfl (Nat.le_of_ble_eq_true rfl) (Nat.le_refl _) (Nat.le_refl _) ?_
  refine mw_brF rfl (bI_ne h) ?_
  repeat (refine mw_step rfl ?_)
  refine mw_call (c_P_houseAt y hn h10) rfl rfl (Nat.le_of_ble_eq_true rfl) (Nat.le_refl _) (Nat.le_refl _) ?_
  repeat (refine mw_step rfl ?_)
  exact mw_r1 rfl trivial (Nat.le_refl _) (Nat.le_refl _) rfl rfl
theorem c_O_house_bad (y : Int32) (h : ¬ (0 ≤ y ∧ y ≤ nI 29)) : MC M_O_house 2 0 0 [.ref 39, .int y] (heapN N sc x m tl) (some (.int (-1))) (heapN N sc x m tl) := by
  refine mc_of k1_O_house k2_O_house (Nat.le_of_ble_eq_true rfl) ?_
  repeat (refine mw_step rfl ?_)
  refine mw_call (c_withinO32 _ y 0 (nI 29)) rfl rfl (Nat.le_of_ble_eq_true rfl) (Nat.le_refl _) (Nat.le_refl _) ?_
  refine mw_brT rfl (bI_f h) ?_
  repeat (refine mw_step rfl ?_)
  exact mw_r1 rfl trivial (Nat.le_refl _) (Nat.le_refl _) rfl rfl
theorem c_O_house (y : Int32) (h : 0 ≤ y ∧ y ≤ nI 29) (hn : zq_papers m = nI n) (h10 : n ≤ 10) : MC M_O_house 2 0 0 [.ref 39, .int y] (heapN N sc x m tl) (some (.int (sp_house (zq_from m) (zq_to m) (zq_house m) y n 0))) (heapN N sc x m tl) := by
  refine mc_of k1_O_house k2_O_house (Nat.le_of_ble_eq_true rfl) ?_
  repeat (refine mw_step rfl ?_)
  refine mw_call (c_withinO32 _ y 0 (nI 29)) rfl rfl (Nat.le_of_ble_eq_true rfl) (Nat.le_refl _) (Nat.le_refl _) ?_
  refine mw_brF rfl (bI_ne h) ?_
  repeat (refine mw_step rfl ?_)
  refine mw_call (c_O_houseOf y hn h10) rfl rfl (Nat.le_of_ble_eq_true rfl) (Nat.le_refl _) (Nat.le_refl _) ?_
  repeat (refine mw_step rfl ?_)
  exact mw_r1 rfl trivial (Nat.le_refl _) (Nat.le_refl _) rfl rfl
theorem c_C_papers_bad (w : Int32) (h : ¬ (0 ≤ w ∧ w ≤ nI 1)) : MC M_C_papers 2 0 0 [.ref 5, .int w] (heapN N sc x m tl) (some (.int (-1))) (heapN N sc x m tl) := by
  refine mc_of k1_C_papers k2_C_papers (Nat.le_of_ble_eq_true rfl) ?_
  repeat (refine mw_step rfl ?_)
  refine mw_call (c_within _ _ _ _) rfl rfl (Nat.le_of_ble_eq_true rfl) (Nat.le_refl _) (Nat.le_refl _) ?_
  refine mw_brT rfl (bI_f h) ?_
  repeat (refine mw_step rfl ?_)
  exact mw_r1 rfl trivial (Nat.le_refl _) (Nat.le_refl _) rfl rfl
theorem c_C_papers0 (hn : xP_many x = nI n) (h10 : n ≤ 10) : MC M_C_papers 2 0 0 [.ref 5, .int 0] (heapN N sc x m tl) (some (.int (sp_clash (xP_from x) (xP_to x) (xP_houses x) n 0))) (heapN N sc x m tl) := by
  refine mc_of k1_C_papers k2_C_papers (Nat.le_of_ble_eq_true rfl) ?_
  repeat (refine mw_step rfl ?_)
  refine mw_call (c_within _ _ _ _) rfl rfl (Nat.le_of_ble_eq_true rfl) (Nat.le_refl _) (Nat.le_refl _) ?_
  refine mw_brF rfl (by decide) ?_
  repeat (refine mw_step rfl ?_)
  refine mw_brT rfl (rfl) ?_
  repeat (refine mw_step rfl ?_)
  refine mw_call (c_P_clash hn h10) rfl rfl (Nat.le_of_ble_eq_true rfl) (Nat.le_refl _) (Nat.le_refl _) ?_
  repeat (refine mw_step rfl ?_)
  exact mw_r1 rfl trivial (Nat.le_refl _) (Nat.le_refl _) rfl rfl
theorem c_C_papers1 (hn : xP_many x = nI n) (h10 : n ≤ 10) : MC M_C_papers 2 0 0 [.ref 5, .int 1] (heapN N sc x m tl) (some (.int (sp_gapsX (fun y => sp_house (xP_from x) (xP_to x) (xP_houses x) (nI y) n 0) 30 0 0 0 0))) (heapN N sc x m tl) := by
  refine mc_of k1_C_papers k2_C_papers (Nat.le_of_ble_eq_true rfl) ?_
  repeat (refine mw_step rfl ?_)
  refine mw_call (c_within _ _ _ _) rfl rfl (Nat.le_of_ble_eq_true rfl) (Nat.le_refl _) (Nat.le_refl _) ?_
  refine mw_brF rfl (by decide) ?_
  repeat (refine mw_step rfl ?_)
  refine mw_brF rfl (by decide) ?_
  repeat (refine mw_step rfl ?_)
  refine mw_call (c_P_gaps hn h10) rfl rfl (Nat.le_of_ble_eq_true rfl) (Nat.le_refl _) (Nat.le_refl _) ?_
  exact mw_r1 rfl trivial (Nat.le_refl _) (Nat.le_refl _) rfl rfl
theorem c_O_papers_bad (w : Int32) (h0 : ¬ w = 0) (h1 : ¬ w = 1) : MC M_O_papers 3 0 0 [.ref 39, .int w] (heapN N sc x m tl) (some (.int (-1))) (heapN N sc x m tl) := by
  refine mc_of k1_O_papers k2_O_papers (Nat.le_of_ble_eq_true rfl) ?_
  repeat (refine mw_step rfl ?_)
  refine mw_brF rfl (h0) ?_
  repeat (refine mw_step rfl ?_)
  refine mw_brF rfl (h1) ?_
  repeat (refine mw_step rfl ?_)
  exact mw_r1 rfl trivial (Nat.le_refl _) (Nat.le_refl _) rfl rfl
theorem c_O_papers0 (hn : zq_papers m = nI n) (h10 : n ≤ 10) : MC M_O_papers 3 0 0 [.ref 39, .int 0] (heapN N sc x m tl) (some (.int (sp_clash (zq_from m) (zq_to m) (zq_house m) n 0))) (heapN N sc x m tl) := by
  refine mc_of k1_O_papers k2_O_papers (Nat.le_of_ble_eq_true rfl) ?_
  repeat (refine mw_step rfl ?_)
  refine mw_brT rfl (rfl) ?_
  repeat (refine mw_step rfl ?_)
  refine mw_call (c_O_clash hn h10) rfl rfl (Nat.le_of_ble_eq_true rfl) (Nat.le_refl _) (Nat.le_refl _) ?_
  repeat (refine mw_step rfl ?_)
  exact mw_r1 rfl trivial (Nat.le_refl _) (Nat.le_refl _) rfl rfl
/-- the turns of the reference's second loop -/
def sp_turns (a b : Int32) : Nat := (b.toInt + 1 - a.toInt).toNat
theorem c_O_gaps (hn : zq_papers m = nI n) (h10 : n ≤ 10) (ha0 : 0 ≤ (sp_least (zq_from m) n 0 30).toInt) (ha1 : (sp_least (zq_from m) n 0 30).toInt ≤ 30) (hb : (sp_most (zq_to m) n 0 (-1)).toInt < 30) : MC M_O_gaps 2 0 0 [.ref 39] (heapN N sc x m tl) (some (.int (sp_gapsO (fun y => sp_house (zq_from m) (zq_to m) (zq_house m) y n 0) (sp_turns (sp_least (zq_from m) n 0 30) (sp_most (zq_to m) n 0 (-1))) (sp_least (zq_from m) n 0 30) 0))) (heapN N sc x m tl) := by
  refine mc_of k1_O_gaps k2_O_gaps (Nat.le_of_ble_eq_true rfl) ?_
  repeat (refine mw_to 7 rfl rfl ?_)
  refine mw_pick [0, 1, 2, 3] rfl ?_
  refine l_O_gaps1 hn h10 n 0 30 (-1) (by omega) ?_
  repeat (refine mw_to 68 rfl rfl ?_)
  refine mw_pick [0, 1, 2, 3, 4] rfl ?_
  refine l_O_gaps2 hn h10 _ _ hb _ _ 0 ha0 ?_ ha1
  unfold sp_turns
  omega
theorem c_O_papers1 (hn : zq_papers m = nI n) (h10 : n ≤ 10) (ha0 : 0 ≤ (sp_least (zq_from m) n 0 30).toInt) (ha1 : (sp_least (zq_from m) n 0 30).toInt ≤ 30) (hb : (sp_most (zq_to m) n 0 (-1)).toInt < 30) : MC M_O_papers 3 0 0 [.ref 39, .int 1] (heapN N sc x m tl) (some (.int (sp_gapsO (fun y => sp_house (zq_from m) (zq_to m) (zq_house m) y n 0) (sp_turns (sp_least (zq_from m) n 0 30) (sp_most (zq_to m) n 0 (-1))) (sp_least (zq_from m) n 0 30) 0))) (heapN N sc x m tl) := by
  refine mc_of k1_O_papers k2_O_papers (Nat.le_of_ble_eq_true rfl) ?_
  repeat (refine mw_step rfl ?_)
  refine mw_brF rfl (by decide) ?_
  repeat (refine mw_step rfl ?_)
  refine mw_brT rfl (rfl) ?_
  repeat (refine mw_step rfl ?_)
  refine mw_call (c_O_gaps hn h10 ha0 ha1 hb) rfl rfl (Nat.le_of_ble_eq_true rfl) (Nat.le_refl _) (Nat.le_refl _) ?_
  repeat (refine mw_step rfl ?_)
  exact mw_r1 rfl trivial (Nat.le_refl _) (Nat.le_refl _) rfl rfl
/-- paper -/
def sp_ft (ft hs : Int32) : Prop := (0 ≤ ft / 100 ∧ ft / 100 ≤ nI 29) ∧ (0 ≤ ft - ft / 100 * 100 ∧ ft - ft / 100 * 100 ≤ nI 29) ∧ ¬ (ft - ft / 100 * 100 < ft / 100) ∧ (0 ≤ hs ∧ hs ≤ nI 9)
theorem c_C_paper_bad (ft hs : Int32) (h : ¬ sp_ft ft hs) : MC M_C_paper 2 0 0 [.ref 5, .int ft, .int hs] (heapN N sc x m tl) (some (.int (-1))) (heapN N sc x m tl) := by
  refine mc_of k1_C_paper k2_C_paper (Nat.le_of_ble_eq_true rfl) ?_
  repeat (refine mw_step rfl ?_)
  refine mw_div rfl (by decide) ?_
  repeat (refine mw_step rfl ?_)
  refine mw_div rfl (by decide) ?_
  repeat (refine mw_step rfl ?_)
  refine mw_call (c_isTime _ _) rfl rfl (Nat.le_of_ble_eq_true rfl) (Nat.le_refl _) (Nat.le_refl _) ?_
  refine mw_br rfl (fun h1 => ?_) (fun h1 => ?_)
  · repeat (refine mw_step rfl ?_)
    exact mw_r1 rfl trivial (Nat.le_refl _) (Nat.le_refl _) rfl rfl
  · repeat (refine mw_step rfl ?_)
    refine mw_call (c_isTime _ _) rfl rfl (Nat.le_of_ble_eq_true rfl) (Nat.le_refl _) (Nat.le_refl _) ?_
    refine mw_br rfl (fun h2 => ?_) (fun h2 => ?_)
    · repeat (refine mw_step rfl ?_)
      exact mw_r1 rfl trivial (Nat.le_refl _) (Nat.le_refl _) rfl rfl
    · repeat (refine mw_step rfl ?_)
      refine mw_br rfl (fun h3 => ?_) (fun h3 => ?_)
      · repeat (refine mw_step rfl ?_)
        exact mw_r1 rfl trivial (Nat.le_refl _) (Nat.le_refl _) rfl rfl
      · repeat (refine mw_step rfl ?_)
        refine mw_call (c_within _ _ _ _) rfl rfl (Nat.le_of_ble_eq_true rfl) (Nat.le_refl _) (Nat.le_refl _) ?_
        refine mw_br rfl (fun h4 => ?_) (fun h4 => ?_)
        · repeat (refine mw_step rfl ?_)
          exact mw_r1 rfl trivial (Nat.le_refl _) (Nat.le_refl _) rfl rfl
        · exact absurd ⟨bI_of h1, bI_of h2, h3, bI_of h4⟩ h
theorem c_C_paper {r : Int32} {h' : MH} (ft hs : Int32) (h : sp_ft ft hs) (hC : MC M_P_add 0 0 0 [.ref 23, .int (ft / 100), .int (ft - ft / 100 * 100), .int hs] (heapN N sc x m tl) (some (.int r)) h') : MC M_C_paper 2 0 0 [.ref 5, .int ft, .int hs] (heapN N sc x m tl) (some (.int r)) h' := by
  refine mc_of k1_C_paper k2_C_paper (Nat.le_of_ble_eq_true rfl) ?_
  repeat (refine mw_step rfl ?_)
  refine mw_div rfl (by decide) ?_
  repeat (refine mw_step rfl ?_)
  refine mw_div rfl (by decide) ?_
  repeat (refine mw_step rfl ?_)
  refine mw_call (c_isTime _ _) rfl rfl (Nat.le_of_ble_eq_true rfl) (Nat.le_refl _) (Nat.le_refl _) ?_
  refine mw_brF rfl (bI_ne h.1) ?_
  repeat (refine mw_step rfl ?_)
  refine mw_call (c_isTime _ _) rfl rfl (Nat.le_of_ble_eq_true rfl) (Nat.le_refl _) (Nat.le_refl _) ?_
  refine mw_brF rfl (bI_ne h.2.1) ?_
  repeat (refine mw_step rfl ?_)
  refine mw_brF rfl (h.2.2.1) ?_
  repeat (refine mw_step rfl ?_)
  refine mw_call (c_within _ _ _ _) rfl rfl (Nat.le_of_ble_eq_true rfl) (Nat.le_refl _) (Nat.le_refl _) ?_
  refine mw_brF rfl (bI_ne h.2.2.2) ?_
  repeat (refine mw_step rfl ?_)
  refine mw_call (hC) rfl rfl (Nat.le_of_ble_eq_true rfl) (Nat.le_refl _) (Nat.le_refl _) ?_
  exact mw_r1 rfl trivial (Nat.le_refl _) (Nat.le_refl _) rfl rfl
theorem n_lt30 {y : Int32} : (y < nI 30) ↔ (y ≤ nI 29) := by
  rw [Int32.lt_iff_toInt_lt, Int32.le_iff_toInt_le, show (nI 30).toInt = 30 from rfl, show (nI 29).toInt = 29 from rfl]
  omega
theorem sp_ft_nn {ft hs : Int32} (h : sp_ft ft hs) : ¬ ft < 0 := fun z => (dm_neg ft 100 (by decide) (by decide) z).elim (fun e => m_nlt h.1.1 e) (fun e => m_nlt h.2.1.1 e)
theorem dm_nn {ft : Int32} (d : Nat) (h0 : 1 < d) (hd : d < 2 ^ 31) (h : ¬ ft < 0) : 0 ≤ ft / nI d ∧ 0 ≤ ft - ft / nI d * nI d := by
  obtain ⟨j, hj, rfl⟩ := nI_of h
  have h1 : j / d ≤ j := Nat.div_le_self j d
  have h2 : j % d ≤ j := Nat.mod_le j d
  rw [pk_rem hj (by omega) hd, pk_div hj (by omega) hd]
  exact ⟨nI_pos' (by omega), nI_pos' (by omega)⟩
theorem c_O_paper_bad (ft hs : Int32) (h : ¬ sp_ft ft hs) : MC M_O_paper 1 0 0 [.ref 39, .int ft, .int hs] (heapN N sc x m tl) (some (.int (-1))) (heapN N sc x m tl) := by
  refine mc_of k1_O_paper k2_O_paper (Nat.le_of_ble_eq_true rfl) ?_
  repeat (refine mw_step rfl ?_)
  refine mw_br rfl (fun h0 => ?_) (fun h0 => ?_)
  · repeat (refine mw_step rfl ?_)
    exact mw_r1 rfl trivial (Nat.le_refl _) (Nat.le_refl _) rfl rfl
  · repeat (refine mw_step rfl ?_)
    refine mw_div rfl (by decide) ?_
    repeat (refine mw_step rfl ?_)
    refine mw_br rfl (fun h1 => ?_) (fun h1 => ?_)
    · repeat (refine mw_step rfl ?_)
      refine mw_div rfl (by decide) ?_
      repeat (refine mw_step rfl ?_)
      refine mw_br rfl (fun h2 => ?_) (fun h2 => ?_)
      · repeat (refine mw_step rfl ?_)
        refine mw_div rfl (by decide) ?_
        repeat (refine mw_step rfl ?_)
        refine mw_div rfl (by decide) ?_
        refine mw_br rfl (fun h3 => ?_) (fun h3 => ?_)
        · repeat (refine mw_step rfl ?_)
          exact mw_r1 rfl trivial (Nat.le_refl _) (Nat.le_refl _) rfl rfl
        · repeat (refine mw_step rfl ?_)
          refine mw_call (c_withinO32 _ hs 0 (nI 9)) rfl rfl (Nat.le_of_ble_eq_true rfl) (Nat.le_refl _) (Nat.le_refl _) ?_
          refine mw_br rfl (fun h4 => ?_) (fun h4 => ?_)
          · repeat (refine mw_step rfl ?_)
            exact mw_r1 rfl trivial (Nat.le_refl _) (Nat.le_refl _) rfl rfl
          · have hz := dm_nn (ft := ft) 100 (by decide) (by decide) h0
            exact absurd ⟨⟨hz.1, n_lt30.mp h1⟩, ⟨hz.2, n_lt30.mp h2⟩, h3, bI_of h4⟩ h
      · repeat (refine mw_step rfl ?_)
        exact mw_r1 rfl trivial (Nat.le_refl _) (Nat.le_refl _) rfl rfl
    · repeat (refine mw_step rfl ?_)
      exact mw_r1 rfl trivial (Nat.le_refl _) (Nat.le_refl _) rfl rfl
theorem c_O_paper_full (ft hs : Int32) (h : sp_ft ft hs) (hn : zq_papers m = nI 10) : MC M_O_paper 1 0 0 [.ref 39, .int ft, .int hs] (heapN N sc x m tl) (some (.int (-3))) (heapN N sc x m tl) := by
  refine mc_of k1_O_paper k2_O_paper (Nat.le_of_ble_eq_true rfl) ?_
  repeat (refine mw_step rfl ?_)
  refine mw_brF rfl (sp_ft_nn h) ?_
  repeat (refine mw_step rfl ?_)
  refine mw_div rfl (by decide) ?_
  repeat (refine mw_step rfl ?_)
  refine mw_brT rfl (n_lt30.mpr h.1.2) ?_
  repeat (refine mw_step rfl ?_)
  refine mw_div rfl (by decide) ?_
  repeat (refine mw_step rfl ?_)
  refine mw_brT rfl (n_lt30.mpr h.2.1.2) ?_
  repeat (refine mw_step rfl ?_)
  refine mw_div rfl (by decide) ?_
  repeat (refine mw_step rfl ?_)
  refine mw_div rfl (by decide) ?_
  refine mw_brF rfl (h.2.2.1) ?_
  repeat (refine mw_step rfl ?_)
  refine mw_call (c_withinO32 _ hs 0 (nI 9)) rfl rfl (Nat.le_of_ble_eq_true rfl) (Nat.le_refl _) (Nat.le_refl _) ?_
  refine mw_brF rfl (bI_ne h.2.2.2) ?_
  repeat (refine mw_step rfl ?_)
  refine mw_brT rfl (by rw [hn]; rfl) ?_
  repeat (refine mw_step rfl ?_)
  exact mw_r1 rfl trivial (Nat.le_refl _) (Nat.le_refl _) rfl rfl
theorem c_O_paper (ft hs : Int32) (h : sp_ft ft hs) (hn : zq_papers m = nI n) (h10 : n < 10) : MC M_O_paper 1 0 0 [.ref 39, .int ft, .int hs] (heapN N sc x m tl) (some (.int (nI n))) (heapN N sc x (zq_s m (nI (n + 1), upd (zq_from m) n (ft / 100), upd (zq_to m) n (ft - ft / 100 * 100), upd (zq_house m) n hs)) tl) := by
  refine mc_of k1_O_paper k2_O_paper (Nat.le_of_ble_eq_true rfl) ?_
  repeat (refine mw_step rfl ?_)
  refine mw_brF rfl (sp_ft_nn h) ?_
  repeat (refine mw_step rfl ?_)
  refine mw_div rfl (by decide) ?_
  repeat (refine mw_step rfl ?_)
  refine mw_brT rfl (n_lt30.mpr h.1.2) ?_
  repeat (refine mw_step rfl ?_)
  refine mw_div rfl (by decide) ?_
  repeat (refine mw_step rfl ?_)
  refine mw_brT rfl (n_lt30.mpr h.2.1.2) ?_
  repeat (refine mw_step rfl ?_)
  refine mw_div rfl (by decide) ?_
  repeat (refine mw_step rfl ?_)
  refine mw_div rfl (by decide) ?_
  refine mw_brF rfl (h.2.2.1) ?_
  repeat (refine mw_step rfl ?_)
  refine mw_call (c_withinO32 _ hs 0 (nI 9)) rfl rfl (Nat.le_of_ble_eq_true rfl) (Nat.le_refl _) (Nat.le_refl _) ?_
  refine mw_brF rfl (bI_ne h.2.2.2) ?_
  repeat (refine mw_step rfl ?_)
  refine mw_brF rfl (by rw [hn]; intro e; have := (nI_eq (by omega) (b := 10) (by omega)).mp e; omega) ?_
  repeat (refine mw_step rfl ?_)
  refine mw_div rfl (by decide) ?_
  refine mw_ist rfl (hn) (by omega) (by decide) ?_
  repeat (refine mw_step rfl ?_)
  refine mw_div rfl (by decide) ?_
  refine mw_ist rfl (hn) (by omega) (by decide) ?_
  repeat (refine mw_step rfl ?_)
  refine mw_ist rfl (hn) (by omega) (by decide) ?_
  repeat (refine mw_step rfl ?_)
  exact mw_r1 rfl trivial (Nat.le_refl _) (Nat.le_refl _) (by rw [show zq_papers m + 1 - 1 = nI n by rw [hn, nI_1]; exact nI_pred n] ) ( by rw [← nI_1, ← hn]; rfl)
/-- bodies and traces -/
theorem c_C_body_bad (k : Int32) (h : ¬ (0 ≤ k ∧ k ≤ nI 7)) : MC M_C_body 2 0 0 [.ref 5, .int k] (heapN N sc x m tl) (some (.int (-1))) (heapN N sc x m tl) := by
  refine mc_of k1_C_body k2_C_body (Nat.le_of_ble_eq_true rfl) ?_
  repeat (refine mw_step rfl ?_)
  refine mw_call (c_B_isBodyKind _ _) rfl rfl (Nat.le_of_ble_eq_true rfl) (Nat.le_refl _) (Nat.le_refl _) ?_
  refine mw_brT rfl (bI_f h) ?_
  repeat (refine mw_step rfl ?_)
  exact mw_r1 rfl trivial (Nat.le_refl _) (Nat.le_refl _) rfl rfl
theorem c_C_body {r : Int32} {h' : MH} (k : Int32) (h : 0 ≤ k ∧ k ≤ nI 7) (hC : MC M_B_add 0 0 0 [.ref 27, .int k] (heapN N sc x m tl) (some (.int r)) h') : MC M_C_body 2 0 0 [.ref 5, .int k] (heapN N sc x m tl) (some (.int r)) h' := by
  refine mc_of k1_C_body k2_C_body (Nat.le_of_ble_eq_true rfl) ?_
  repeat (refine mw_step rfl ?_)
  refine mw_call (c_B_isBodyKind _ _) rfl rfl (Nat.le_of_ble_eq_true rfl) (Nat.le_refl _) (Nat.le_refl _) ?_
  refine mw_brF rfl (bI_ne h) ?_
  repeat (refine mw_step rfl ?_)
  refine mw_call (hC) rfl rfl (Nat.le_of_ble_eq_true rfl) (Nat.le_refl _) (Nat.le_refl _) ?_
  repeat (refine mw_step rfl ?_)
  exact mw_r1 rfl trivial (Nat.le_refl _) (Nat.le_refl _) rfl rfl
theorem c_O_body_bad (k : Int32) (h : ¬ (0 ≤ k ∧ k ≤ nI 7)) : MC M_O_body 1 0 0 [.ref 39, .int k] (heapN N sc x m tl) (some (.int (-1))) (heapN N sc x m tl) := by
  refine mc_of k1_O_body k2_O_body (Nat.le_of_ble_eq_true rfl) ?_
  repeat (refine mw_step rfl ?_)
  refine mw_call (c_withinO32 _ k 0 (nI 7)) rfl rfl (Nat.le_of_ble_eq_true rfl) (Nat.le_refl _) (Nat.le_refl _) ?_
  refine mw_brT rfl (bI_f h) ?_
  repeat (refine mw_step rfl ?_)
  exact mw_r1 rfl trivial (Nat.le_refl _) (Nat.le_refl _) rfl rfl
theorem c_O_body_full (k : Int32) (h : 0 ≤ k ∧ k ≤ nI 7) (hn : zb_bodies m = nI 50) : MC M_O_body 1 0 0 [.ref 39, .int k] (heapN N sc x m tl) (some (.int (-3))) (heapN N sc x m tl) := by
  refine mc_of k1_O_body k2_O_body (Nat.le_of_ble_eq_true rfl) ?_
  repeat (refine mw_step rfl ?_)
  refine mw_call (c_withinO32 _ k 0 (nI 7)) rfl rfl (Nat.le_of_ble_eq_true rfl) (Nat.le_refl _) (Nat.le_refl _) ?_
  refine mw_brF rfl (bI_ne h) ?_
  repeat (refine mw_step rfl ?_)
  refine mw_brT rfl (by rw [hn]; rfl) ?_
  repeat (refine mw_step rfl ?_)
  exact mw_r1 rfl trivial (Nat.le_refl _) (Nat.le_refl _) rfl rfl
theorem c_O_body (k : Int32) (h : 0 ≤ k ∧ k ≤ nI 7) (hn : zb_bodies m = nI n) (h50 : n < 50) : MC M_O_body 1 0 0 [.ref 39, .int k] (heapN N sc x m tl) (some (.int (nI n))) (heapN N sc x (zb_s m (nI (n + 1), upd (zb_kind m) n k, zb_trace m, zb_ran m, zb_ownKind m, zb_ownNumber m)) tl) := by
  refine mc_of k1_O_body k2_O_body (Nat.le_of_ble_eq_true rfl) ?_
  repeat (refine mw_step rfl ?_)
  refine mw_call (c_withinO32 _ k 0 (nI 7)) rfl rfl (Nat.le_of_ble_eq_true rfl) (Nat.le_refl _) (Nat.le_refl _) ?_
  refine mw_brF rfl (bI_ne h) ?_
  repeat (refine mw_step rfl ?_)
  refine mw_brF rfl (by rw [hn]; intro e; have := (nI_eq (by omega) (b := 50) (by omega)).mp e; omega) ?_
  repeat (refine mw_step rfl ?_)
  refine mw_ist rfl (hn) (by omega) (by decide) ?_
  repeat (refine mw_step rfl ?_)
  exact mw_r1 rfl trivial (Nat.le_refl _) (Nat.le_refl _) (by rw [show zb_bodies m + 1 - 1 = nI n by rw [hn, nI_1]; exact nI_pred n] ) ( by rw [← nI_1, ← hn]; rfl)
theorem c_C_trace_bad (i : Int32) (hn : xB_runs x = nI n) (h9 : n < 2 ^ 30) (h : ¬ ∃ j, j < n ∧ j < 24 ∧ i = nI j) : MC M_C_trace 2 0 0 [.ref 5, .int i] (heapN N sc x m tl) (some (.int (-1))) (heapN N sc x m tl) := by
  have hC : MC M_B_ranAt 1 0 0 [.ref 27, .int i] (heapN N sc x m tl) (some (.int (-1))) (heapN N sc x m tl) := by
    refine mc_of k1_B_ranAt k2_B_ranAt (Nat.le_of_ble_eq_true rfl) ?_
    repeat (refine mw_step rfl ?_)
    refine mw_call (c_within _ _ _ _) rfl rfl (Nat.le_of_ble_eq_true rfl) (Nat.le_refl _) (Nat.le_refl _) ?_
    refine mw_br rfl (fun h1 => ?_) (fun h1 => ?_)
    · repeat (refine mw_step rfl ?_)
      exact mw_r1 rfl trivial (Nat.le_refl _) (Nat.le_refl _) rfl rfl
    · have h1 := bI_of h1
      rw [hn] at h1
      obtain ⟨j, hj, rfl⟩ := n_predN (by omega) h1
      repeat (refine mw_step rfl ?_)
      refine mw_brF rfl (n_nlt (b := 24) (Nat.le_of_not_lt fun z => h ⟨j, hj, z, rfl⟩) (by omega)) ?_
      repeat (refine mw_step rfl ?_)
      exact mw_r1 rfl trivial (Nat.le_refl _) (Nat.le_refl _) rfl rfl
  refine mc_of k1_C_trace k2_C_trace (Nat.le_of_ble_eq_true rfl) ?_
  repeat (refine mw_step rfl ?_)
  refine mw_call (hC) rfl rfl (Nat.le_of_ble_eq_true rfl) (Nat.le_refl _) (Nat.le_refl _) ?_
  exact mw_r1 rfl trivial (Nat.le_refl _) (Nat.le_refl _) rfl rfl
theorem c_C_trace (j : Nat) (hn : xB_runs x = nI n) (h9 : n < 2 ^ 30) (hj : j < n) (h24 : j < 24) : MC M_C_trace 2 0 0 [.ref 5, .int (nI j)] (heapN N sc x m tl) (some (.int (xB_ran x j))) (heapN N sc x m tl) := by
  have hC : MC M_B_ranAt 1 0 0 [.ref 27, .int (nI j)] (heapN N sc x m tl) (some (.int (xB_ran x j))) (heapN N sc x m tl) := by
    refine mc_of k1_B_ranAt k2_B_ranAt (Nat.le_of_ble_eq_true rfl) ?_
    repeat (refine mw_step rfl ?_)
    refine mw_call (c_within _ _ _ _) rfl rfl (Nat.le_of_ble_eq_true rfl) (Nat.le_refl _) (Nat.le_refl _) ?_
    refine mw_brF rfl (bI_ne (by rw [hn]; exact n_predI hj (by omega))) ?_
    repeat (refine mw_step rfl ?_)
    refine mw_brT rfl (n_lt (b := 24) h24 (by omega)) ?_
    repeat (refine mw_step rfl ?_)
    refine mw_ild rfl (rfl) (by omega) (by decide) ?_
    repeat (refine mw_step rfl ?_)
    exact mw_r1 rfl trivial (Nat.le_refl _) (Nat.le_refl _) rfl rfl
  refine mc_of k1_C_trace k2_C_trace (Nat.le_of_ble_eq_true rfl) ?_
  repeat (refine mw_step rfl ?_)
  refine mw_call (hC) rfl rfl (Nat.le_of_ble_eq_true rfl) (Nat.le_refl _) (Nat.le_refl _) ?_
  exact mw_r1 rfl trivial (Nat.le_refl _) (Nat.le_refl _) rfl rfl
theorem c_O_trace_bad (i : Int32) (hn : zb_ran m = nI n) (h9 : n < 2 ^ 30) (h : ¬ ∃ j, j < n ∧ j < 24 ∧ i = nI j) : MC M_O_trace 0 0 0 [.ref 39, .int i] (heapN N sc x m tl) (some (.int (-1))) (heapN N sc x m tl) := by
  refine mc_of k1_O_trace k2_O_trace (Nat.le_of_ble_eq_true rfl) ?_
  repeat (refine mw_step rfl ?_)
  refine mw_br rfl (fun h1 => ?_) (fun h1 => ?_)
  · repeat (refine mw_step rfl ?_)
    exact mw_r1 rfl trivial (Nat.le_refl _) (Nat.le_refl _) rfl rfl
  · repeat (refine mw_step rfl ?_)
    refine mw_br rfl (fun h2 => ?_) (fun h2 => ?_)
    · repeat (refine mw_step rfl ?_)
      refine mw_br rfl (fun h3 => ?_) (fun h3 => ?_)
      · obtain ⟨j, hj, rfl⟩ := nI_of h1
        rw [hn] at h2
        exact absurd ⟨j, (nI_ltI hj (by omega)).mp h2, (nI_ltI hj (b := 24) (by omega)).mp h3, rfl⟩ h
      · repeat (refine mw_step rfl ?_)
        exact mw_r1 rfl trivial (Nat.le_refl _) (Nat.le_refl _) rfl rfl
    · repeat (refine mw_step rfl ?_)
      exact mw_r1 rfl trivial (Nat.le_refl _) (Nat.le_refl _) rfl rfl
theorem c_O_trace (j : Nat) (hn : zb_ran m = nI n) (h9 : n < 2 ^ 30) (hj : j < n) (h24 : j < 24) : MC M_O_trace 0 0 0 [.ref 39, .int (nI j)] (heapN N sc x m tl) (some (.int (zb_trace m j))) (heapN N sc x m tl) := by
  refine mc_of k1_O_trace k2_O_trace (Nat.le_of_ble_eq_true rfl) ?_
  repeat (refine mw_step rfl ?_)
  refine mw_brF rfl (nI_pos (by omega)) ?_
  repeat (refine mw_step rfl ?_)
  refine mw_brT rfl (by rw [hn]; exact n_lt hj (by omega)) ?_
  repeat (refine mw_step rfl ?_)
  refine mw_brT rfl (n_lt (b := 24) h24 (by omega)) ?_
  repeat (refine mw_step rfl ?_)
  refine mw_ild rfl (rfl) (by omega) (by decide) ?_
  repeat (refine mw_step rfl ?_)
  exact mw_r1 rfl trivial (Nat.le_refl _) (Nat.le_refl _) rfl rfl
end CL
