/-! shelves as the law calls them -/
section SG
variable {N : Nat} {sc : Nat × (Nat → Int32)} {x : XS} {m : OS} {tl : MH} {n : Nat}
theorem c_C_keep_bad (d w : Int32) (h : ¬ ((0 ≤ d ∧ d ≤ nI 5) ∧ (-1 ≤ w ∧ w ≤ xB_many x - 1))) : MC M_C_keep 3 0 0 [.ref 5, .int d, .int w] (heapN N sc x m tl) (some (.int (-1))) (heapN N sc x m tl) := by
  refine mc_of k1_C_keep k2_C_keep (Nat.le_of_ble_eq_true rfl) ?_
  repeat (refine mw_step rfl ?_)
  refine mw_call (c_isShelf _ _) rfl rfl (Nat.le_of_ble_eq_true rfl) (Nat.le_refl _) (Nat.le_refl _) ?_
  refine mw_br rfl (fun h1 => ?_) (fun h1 => ?_)
  · repeat (refine mw_step rfl ?_)
    exact mw_r1 rfl trivial (Nat.le_refl _) (Nat.le_refl _) rfl rfl
  · repeat (refine mw_step rfl ?_)
    refine mw_call (c_within _ _ _ _) rfl rfl (Nat.le_of_ble_eq_true rfl) (Nat.le_refl _) (Nat.le_refl _) ?_
    refine mw_br rfl (fun h2 => ?_) (fun h2 => ?_)
    · repeat (refine mw_step rfl ?_)
      exact mw_r1 rfl trivial (Nat.le_refl _) (Nat.le_refl _) rfl rfl
    · exact absurd ⟨bI_of h1, bI_of h2⟩ h
theorem c_C_keep (a : Nat) (w : Int32) (ha : a ≤ 5) (hw : -1 ≤ w ∧ w ≤ xB_many x - 1) : MC M_C_keep 3 0 0 [.ref 5, .int (nI a), .int w] (heapN N sc x m tl) (some (.int 1)) (heapN N sc (xH_s x (upd (xH_sorts x) a (if w < 0 then -2 else -1), upd (xH_held x) a w, upd (xH_lens x) a 0, xH_cells x)) m tl) := by
  refine mc_of k1_C_keep k2_C_keep (Nat.le_of_ble_eq_true rfl) ?_
  repeat (refine mw_step rfl ?_)
  refine mw_call (c_isShelf _ _) rfl rfl (Nat.le_of_ble_eq_true rfl) (Nat.le_refl _) (Nat.le_refl _) ?_
  refine mw_brF rfl (bI_ne (rng_in ha (by decide))) ?_
  repeat (refine mw_step rfl ?_)
  refine mw_call (c_within _ _ _ _) rfl rfl (Nat.le_of_ble_eq_true rfl) (Nat.le_refl _) (Nat.le_refl _) ?_
  refine mw_brF rfl (bI_ne hw) ?_
  repeat (refine mw_step rfl ?_)
  refine mw_call (c_H_hold a ha w) rfl rfl (Nat.le_of_ble_eq_true rfl) (Nat.le_refl _) (Nat.le_refl _) ?_
  repeat (refine mw_step rfl ?_)
  exact mw_r1 rfl trivial (Nat.le_refl _) (Nat.le_refl _) rfl rfl
theorem c_O_isBody (w : Int32) : MC M_O_isBody 1 0 0 [.ref 39, .int w] (heapN N sc x m tl) (some (.int (bI (0 ≤ w ∧ w ≤ zb_bodies m - 1)))) (heapN N sc x m tl) := by
  refine mc_of k1_O_isBody k2_O_isBody (Nat.le_of_ble_eq_true rfl) ?_
  repeat (refine mw_step rfl ?_)
  refine mw_call (c_withinO32 _ w 0 (zb_bodies m - 1)) rfl rfl (Nat.le_of_ble_eq_true rfl) (Nat.le_refl _) (Nat.le_refl _) ?_
  exact mw_r1 rfl bI_nar (Nat.le_refl _) (Nat.le_refl _) rfl rfl
theorem c_O_keep_bad (d w : Int32) (h : ¬ ((0 ≤ d ∧ d ≤ nI 5) ∧ (w = -1 ∨ (0 ≤ w ∧ w ≤ zb_bodies m - 1)))) : MC M_O_keep 2 0 0 [.ref 39, .int d, .int w] (heapN N sc x m tl) (some (.int (-1))) (heapN N sc x m tl) := by
  refine mc_of k1_O_keep k2_O_keep (Nat.le_of_ble_eq_true rfl) ?_
  repeat (refine mw_step rfl ?_)
  refine mw_call (c_O_isShelf _ _) rfl rfl (Nat.le_of_ble_eq_true rfl) (Nat.le_refl _) (Nat.le_refl _) ?_
  refine mw_br rfl (fun h1 => ?_) (fun h1 => ?_)
  · repeat (refine mw_step rfl ?_)
    exact mw_r1 rfl trivial (Nat.le_refl _) (Nat.le_refl _) rfl rfl
  · repeat (refine mw_step rfl ?_)
    refine mw_br rfl (fun h2 => ?_) (fun h2 => ?_)
    · exact absurd ⟨bI_of h1, Or.inl h2⟩ h
    · repeat (refine mw_step rfl ?_)
      refine mw_call (c_O_isBody w) rfl rfl (Nat.le_of_ble_eq_true rfl) (Nat.le_refl _) (Nat.le_refl _) ?_
      refine mw_br rfl (fun h3 => ?_) (fun h3 => ?_)
      · repeat (refine mw_step rfl ?_)
        exact mw_r1 rfl trivial (Nat.le_refl _) (Nat.le_refl _) rfl rfl
      · exact absurd ⟨bI_of h1, Or.inr (bI_of h3)⟩ h
theorem c_O_keep (a : Nat) (w : Int32) (ha : a ≤ 5) (hw : w = -1 ∨ (0 ≤ w ∧ w ≤ zb_bodies m - 1)) : MC M_O_keep 2 0 0 [.ref 39, .int (nI a), .int w] (heapN N sc x m tl) (some (.int 1)) (heapN N sc x (zs_s m (upd (zs_shelf m) a w, upd (zs_many m) a 0, zs_items m, zs_carried m)) tl) := by
  refine mc_of k1_O_keep k2_O_keep (Nat.le_of_ble_eq_true rfl) ?_
  repeat (refine mw_step rfl ?_)
  refine mw_call (c_O_isShelf _ _) rfl rfl (Nat.le_of_ble_eq_true rfl) (Nat.le_refl _) (Nat.le_refl _) ?_
  refine mw_brF rfl (bI_ne (rng_in ha (by decide))) ?_
  repeat (refine mw_step rfl ?_)
  refine mw_br rfl (fun h2 => ?_) (fun h2 => ?_)
  · repeat (refine mw_step rfl ?_)
    refine mw_ist rfl (rfl) (by omega) (by decide) ?_
    repeat (refine mw_step rfl ?_)
    refine mw_ist rfl (rfl) (by omega) (by decide) ?_
    repeat (refine mw_step rfl ?_)
    exact mw_r1 rfl trivial (Nat.le_refl _) (Nat.le_refl _) rfl rfl
  · repeat (refine mw_step rfl ?_)
    refine mw_call (c_O_isBody w) rfl rfl (Nat.le_of_ble_eq_true rfl) (Nat.le_refl _) (Nat.le_refl _) ?_
    refine mw_brF rfl (bI_ne (hw.resolve_left h2)) ?_
    repeat (refine mw_step rfl ?_)
    refine mw_ist rfl (rfl) (by omega) (by decide) ?_
    repeat (refine mw_step rfl ?_)
    refine mw_ist rfl (rfl) (by omega) (by decide) ?_
    repeat (refine mw_step rfl ?_)
    exact mw_r1 rfl trivial (Nat.le_refl _) (Nat.le_refl _) rfl rfl
def sp_rowOk (d s k : Int32) : Prop := (0 ≤ d ∧ d ≤ nI 5) ∧ (0 ≤ s ∧ s ≤ nI 4) ∧ ¬ nI 60 < k
theorem c_C_row_bad (d s k : Int32) (h : ¬ sp_rowOk d s k) : MC M_C_row 3 0 0 [.ref 5, .int d, .int s, .int k] (heapN N sc x m tl) (some (.int (-1))) (heapN N sc x m tl) := by
  refine mc_of k1_C_row k2_C_row (Nat.le_of_ble_eq_true rfl) ?_
  repeat (refine mw_step rfl ?_)
  refine mw_call (c_isShelf _ _) rfl rfl (Nat.le_of_ble_eq_true rfl) (Nat.le_refl _) (Nat.le_refl _) ?_
  refine mw_br rfl (fun h1 => ?_) (fun h1 => ?_)
  · repeat (refine mw_step rfl ?_)
    exact mw_r1 rfl trivial (Nat.le_refl _) (Nat.le_refl _) rfl rfl
  · repeat (refine mw_step rfl ?_)
    refine mw_call (c_within _ _ _ _) rfl rfl (Nat.le_of_ble_eq_true rfl) (Nat.le_refl _) (Nat.le_refl _) ?_
    refine mw_br rfl (fun h2 => ?_) (fun h2 => ?_)
    · repeat (refine mw_step rfl ?_)
      exact mw_r1 rfl trivial (Nat.le_refl _) (Nat.le_refl _) rfl rfl
    · repeat (refine mw_step rfl ?_)
      refine mw_br rfl (fun h3 => ?_) (fun h3 => ?_)
      · repeat (refine mw_step rfl ?_)
        exact mw_r1 rfl trivial (Nat.le_refl _) (Nat.le_refl _) rfl rfl
      · exact absurd ⟨bI_of h1, bI_of h2, h3⟩ h
theorem c_C_row_neg (d s k : Int32) (h : sp_rowOk d s k) (hk : k < 0) : MC M_C_row 3 0 0 [.ref 5, .int d, .int s, .int k] (heapN N sc x m tl) (some (.int (-14))) (heapN N sc x m tl) := by
  refine mc_of k1_C_row k2_C_row (Nat.le_of_ble_eq_true rfl) ?_
  repeat (refine mw_step rfl ?_)
  refine mw_call (c_isShelf _ _) rfl rfl (Nat.le_of_ble_eq_true rfl) (Nat.le_refl _) (Nat.le_refl _) ?_
  refine mw_brF rfl (bI_ne h.1) ?_
  repeat (refine mw_step rfl ?_)
  refine mw_call (c_within _ _ _ _) rfl rfl (Nat.le_of_ble_eq_true rfl) (Nat.le_refl _) (Nat.le_refl _) ?_
  refine mw_brF rfl (bI_ne h.2.1) ?_
  repeat (refine mw_step rfl ?_)
  refine mw_brF rfl (h.2.2) ?_
  repeat (refine mw_step rfl ?_)
  refine mw_brT rfl (hk) ?_
  repeat (refine mw_step rfl ?_)
  exact mw_r1 rfl trivial (Nat.le_refl _) (Nat.le_refl _) rfl rfl
theorem c_C_row (a k : Nat) (s : Int32) (ha : a ≤ 5) (hs : 0 ≤ s ∧ s ≤ nI 4) (hk : k ≤ 60) : MC M_C_row 3 0 0 [.ref 5, .int (nI a), .int s, .int (nI k)] (heapN N sc x m tl) (some (.int 1)) (heapN N sc (xH_s x (upd (xH_sorts x) a s, xH_held x, upd (xH_lens x) a (nI k), sp_fill (xH_cells x) (a * 60) ((a + 1) * 60) 0)) m tl) := by
  refine mc_of k1_C_row k2_C_row (Nat.le_of_ble_eq_true rfl) ?_
  repeat (refine mw_step rfl ?_)
  refine mw_call (c_isShelf _ _) rfl rfl (Nat.le_of_ble_eq_true rfl) (Nat.le_refl _) (Nat.le_refl _) ?_
  refine mw_brF rfl (bI_ne (rng_in ha (by decide))) ?_
  repeat (refine mw_step rfl ?_)
  refine mw_call (c_within _ _ _ _) rfl rfl (Nat.le_of_ble_eq_true rfl) (Nat.le_refl _) (Nat.le_refl _) ?_
  refine mw_brF rfl (bI_ne hs) ?_
  repeat (refine mw_step rfl ?_)
  refine mw_brF rfl (n_nlt (a := 60) hk (by omega)) ?_
  repeat (refine mw_step rfl ?_)
  refine mw_brF rfl (nI_pos (by omega)) ?_
  repeat (refine mw_step rfl ?_)
  refine mw_call (c_H_holdRow a k s ha hk) rfl rfl (Nat.le_of_ble_eq_true rfl) (Nat.le_refl _) (Nat.le_refl _) ?_
  repeat (refine mw_step rfl ?_)
  exact mw_r1 rfl trivial (Nat.le_refl _) (Nat.le_refl _) rfl rfl
theorem c_O_row_bad (d s k : Int32) (h : ¬ sp_rowOk d s k) : MC M_O_row 2 0 0 [.ref 39, .int d, .int s, .int k] (heapN N sc x m tl) (some (.int (-1))) (heapN N sc x m tl) := by
  refine mc_of k1_O_row k2_O_row (Nat.le_of_ble_eq_true rfl) ?_
  repeat (refine mw_step rfl ?_)
  refine mw_call (c_O_isShelf _ _) rfl rfl (Nat.le_of_ble_eq_true rfl) (Nat.le_refl _) (Nat.le_refl _) ?_
  refine mw_br rfl (fun h1 => ?_) (fun h1 => ?_)
  · repeat (refine mw_step rfl ?_)
    exact mw_r1 rfl trivial (Nat.le_refl _) (Nat.le_refl _) rfl rfl
  · repeat (refine mw_step rfl ?_)
    refine mw_call (c_withinO32 _ s 0 (nI 4)) rfl rfl (Nat.le_of_ble_eq_true rfl) (Nat.le_refl _) (Nat.le_refl _) ?_
    refine mw_br rfl (fun h2 => ?_) (fun h2 => ?_)
    · repeat (refine mw_step rfl ?_)
      exact mw_r1 rfl trivial (Nat.le_refl _) (Nat.le_refl _) rfl rfl
    · repeat (refine mw_step rfl ?_)
      refine mw_br rfl (fun h3 => ?_) (fun h3 => ?_)
      · repeat (refine mw_step rfl ?_)
        exact mw_r1 rfl trivial (Nat.le_refl _) (Nat.le_refl _) rfl rfl
      · exact absurd ⟨bI_of h1, bI_of h2, h3⟩ h
theorem c_O_row_neg (d s k : Int32) (h : sp_rowOk d s k) (hk : k < 0) : MC M_O_row 2 0 0 [.ref 39, .int d, .int s, .int k] (heapN N sc x m tl) (some (.int (-14))) (heapN N sc x m tl) := by
  refine mc_of k1_O_row k2_O_row (Nat.le_of_ble_eq_true rfl) ?_
  repeat (refine mw_step rfl ?_)
  refine mw_call (c_O_isShelf _ _) rfl rfl (Nat.le_of_ble_eq_true rfl) (Nat.le_refl _) (Nat.le_refl _) ?_
  refine mw_brF rfl (bI_ne h.1) ?_
  repeat (refine mw_step rfl ?_)
  refine mw_call (c_withinO32 _ s 0 (nI 4)) rfl rfl (Nat.le_of_ble_eq_true rfl) (Nat.le_refl _) (Nat.le_refl _) ?_
  refine mw_brF rfl (bI_ne h.2.1) ?_
  repeat (refine mw_step rfl ?_)
  refine mw_brF rfl (h.2.2) ?_
  repeat (refine mw_step rfl ?_)
  refine mw_brT rfl (hk) ?_
  repeat (refine mw_step rfl ?_)
  exact mw_r1 rfl trivial (Nat.le_refl _) (Nat.le_refl _) rfl rfl
theorem c_O_row (a k : Nat) (s : Int32) (ha : a ≤ 5) (hs : 0 ≤ s ∧ s ≤ nI 4) (hk : k ≤ 60) : MC M_O_row 2 0 0 [.ref 39, .int (nI a), .int s, .int (nI k)] (heapN N sc x m tl) (some (.int 1)) (heapN N sc x (zs_s m (upd (zs_shelf m) a (50 + s), upd (zs_many m) a (nI k), sp_fill (zs_items m) (60 * a) (60 * a + 60) 0, zs_carried m)) tl) := by
  refine mc_of k1_O_row k2_O_row (Nat.le_of_ble_eq_true rfl) ?_
  repeat (refine mw_step rfl ?_)
  refine mw_call (c_O_isShelf _ _) rfl rfl (Nat.le_of_ble_eq_true rfl) (Nat.le_refl _) (Nat.le_refl _) ?_
  refine mw_brF rfl (bI_ne (rng_in ha (by decide))) ?_
  repeat (refine mw_step rfl ?_)
  refine mw_call (c_withinO32 _ s 0 (nI 4)) rfl rfl (Nat.le_of_ble_eq_true rfl) (Nat.le_refl _) (Nat.le_refl _) ?_
  refine mw_brF rfl (bI_ne hs) ?_
  repeat (refine mw_step rfl ?_)
  refine mw_brF rfl (n_nlt (a := 60) hk (by omega)) ?_
  repeat (refine mw_step rfl ?_)
  refine mw_brF rfl (nI_pos (by omega)) ?_
  repeat (refine mw_step rfl ?_)
  refine mw_ist rfl (rfl) (by omega) (by decide) ?_
  repeat (refine mw_step rfl ?_)
  refine mw_ist rfl (rfl) (by omega) (by decide) ?_
  repeat (refine mw_to 57 rfl rfl ?_)
  rw [show (60 : Int32) * nI a = nI (60 * a) from pk_mul 60 a]
  refine mw_pick [0, 1, 2, 3, 4] rfl ?_
  have := l_O_row (N := N) (sc := sc) (x := x) (tl := tl) (m := zs_s m (upd (zs_shelf m) a (50 + s), upd (zs_many m) a (nI k), zs_items m, zs_carried m)) (v := some (.int 1)) (hT := heapN N sc x (zs_s m (upd (zs_shelf m) a (50 + s), upd (zs_many m) a (nI k), sp_fill (zs_items m) (60 * a) (60 * a + 60) 0, zs_carried m)) tl) a ha s (nI k) (zs_items m) (by
    repeat (refine mw_step rfl ?_)
    exact mw_r1 rfl trivial (Nat.le_refl _) (Nat.le_refl _) rfl rfl) 60 (60 * a) (by omega) (Nat.le_refl _)
  rw [sp_fill_0] at this
  exact this
theorem c_C_put_bad (d i : Int32) (v : Int64) (hd : ¬ (0 ≤ d ∧ d ≤ nI 5)) : MC M_C_put 4 0 0 [.ref 5, .int d, .int i, .long v] (heapN N sc x m tl) (some (.int (-1))) (heapN N sc x m tl) := by
  refine mc_of k1_C_put k2_C_put (Nat.le_of_ble_eq_true rfl) ?_
  repeat (refine mw_step rfl ?_)
  refine mw_call (c_isShelf _ _) rfl rfl (Nat.le_of_ble_eq_true rfl) (Nat.le_refl _) (Nat.le_refl _) ?_
  refine mw_brT rfl (bI_f hd) ?_
  repeat (refine mw_step rfl ?_)
  refine mw_brF rfl (by decide) ?_
  repeat (refine mw_step rfl ?_)
  exact mw_r1 rfl trivial (Nat.le_refl _) (Nat.le_refl _) rfl rfl
theorem c_C_put_ref (a : Nat) (ha : a ≤ 5) (i : Int32) (v : Int64) (h : ¬ sp_refX (xH_sorts x a) (xH_lens x a) i = 0) : MC M_C_put 4 0 0 [.ref 5, .int (nI a), .int i, .long v] (heapN N sc x m tl) (some (.int (sp_refX (xH_sorts x a) (xH_lens x a) i))) (heapN N sc x m tl) := by
  refine mc_of k1_C_put k2_C_put (Nat.le_of_ble_eq_true rfl) ?_
  repeat (refine mw_step rfl ?_)
  refine mw_call (c_isShelf _ _) rfl rfl (Nat.le_of_ble_eq_true rfl) (Nat.le_refl _) (Nat.le_refl _) ?_
  refine mw_brF rfl (bI_ne (rng_in ha (by decide))) ?_
  repeat (refine mw_step rfl ?_)
  refine mw_call (c_H_refusal a ha i) rfl rfl (Nat.le_of_ble_eq_true rfl) (Nat.le_refl _) (Nat.le_refl _) ?_
  repeat (refine mw_step rfl ?_)
  refine mw_brF rfl (h) ?_
  repeat (refine mw_step rfl ?_)
  exact mw_r1 rfl trivial (Nat.le_refl _) (Nat.le_refl _) rfl rfl
theorem c_C_put (a i s : Nat) (ha : a ≤ 5) (hi : i ≤ 59) (hs : s ≤ 4) (hss : xH_sorts x a = nI s) (v : Int64) (h : sp_refX (xH_sorts x a) (xH_lens x a) (nI i) = 0) : MC M_C_put 4 0 0 [.ref 5, .int (nI a), .int (nI i), .long v] (heapN N sc x m tl) (some (.int 1)) (heapN N sc (xH_cells_s x (vp_updL (xH_cells x) (a * 60 + i) (sp_low (nI s) v))) m tl) := by
  refine mc_of k1_C_put k2_C_put (Nat.le_of_ble_eq_true rfl) ?_
  repeat (refine mw_step rfl ?_)
  refine mw_call (c_isShelf _ _) rfl rfl (Nat.le_of_ble_eq_true rfl) (Nat.le_refl _) (Nat.le_refl _) ?_
  refine mw_brF rfl (bI_ne (rng_in ha (by decide))) ?_
  repeat (refine mw_step rfl ?_)
  refine mw_call (c_H_refusal a ha (nI i)) rfl rfl (Nat.le_of_ble_eq_true rfl) (Nat.le_refl _) (Nat.le_refl _) ?_
  repeat (refine mw_step rfl ?_)
  refine mw_brT rfl (h) ?_
  repeat (refine mw_step rfl ?_)
  refine mw_call (c_H_setCell a i s ha hi hs hss v) rfl rfl (Nat.le_of_ble_eq_true rfl) (Nat.le_refl _) (Nat.le_refl _) ?_
  repeat (refine mw_step rfl ?_)
  exact mw_r1 rfl trivial (Nat.le_refl _) (Nat.le_refl _) rfl rfl
theorem c_O_put_bad (d i : Int32) (v : Int64) (hd : ¬ (0 ≤ d ∧ d ≤ nI 5)) : MC M_O_put 3 0 0 [.ref 39, .int d, .int i, .long v] (heapN N sc x m tl) (some (.int (-1))) (heapN N sc x m tl) := by
  refine mc_of k1_O_put k2_O_put (Nat.le_of_ble_eq_true rfl) ?_
  repeat (refine mw_step rfl ?_)
  refine mw_call (c_O_refusal_bad d i hd) rfl rfl (Nat.le_of_ble_eq_true rfl) (Nat.le_refl _) (Nat.le_refl _) ?_
  repeat (refine mw_step rfl ?_)
  refine mw_brF rfl (by decide) ?_
  repeat (refine mw_step rfl ?_)
  refine mw_brF rfl (by decide) ?_
  repeat (refine mw_step rfl ?_)
  exact mw_r1 rfl trivial (Nat.le_refl _) (Nat.le_refl _) rfl rfl
theorem c_O_put_ref (a : Nat) (ha : a ≤ 5) (i : Int32) (v : Int64) (h : ¬ sp_refO (zs_shelf m a) (zs_many m a) i = 0) : MC M_O_put 3 0 0 [.ref 39, .int (nI a), .int i, .long v] (heapN N sc x m tl) (some (.int (sp_refO (zs_shelf m a) (zs_many m a) i))) (heapN N sc x m tl) := by
  refine mc_of k1_O_put k2_O_put (Nat.le_of_ble_eq_true rfl) ?_
  repeat (refine mw_step rfl ?_)
  refine mw_call (c_O_refusal a ha i) rfl rfl (Nat.le_of_ble_eq_true rfl) (Nat.le_refl _) (Nat.le_refl _) ?_
  repeat (refine mw_step rfl ?_)
  refine mw_brF rfl (h) ?_
  repeat (refine mw_step rfl ?_)
  refine mw_brF rfl (h) ?_
  repeat (refine mw_step rfl ?_)
  exact mw_r1 rfl trivial (Nat.le_refl _) (Nat.le_refl _) rfl rfl
theorem c_O_put (a i : Nat) (ha : a ≤ 5) (hi : i ≤ 59) (v : Int64) (h : sp_refO (zs_shelf m a) (zs_many m a) (nI i) = 0) : MC M_O_put 3 0 0 [.ref 39, .int (nI a), .int (nI i), .long v] (heapN N sc x m tl) (some (.int 1)) (heapN N sc x (zs_items_s m (vp_updL (zs_items m) (60 * a + i) (sp_low (zs_shelf m a - 50) v))) tl) := by
  refine mc_of k1_O_put k2_O_put (Nat.le_of_ble_eq_true rfl) ?_
  repeat (refine mw_step rfl ?_)
  refine mw_call (c_O_refusal a ha (nI i)) rfl rfl (Nat.le_of_ble_eq_true rfl) (Nat.le_refl _) (Nat.le_refl _) ?_
  repeat (refine mw_step rfl ?_)
  refine mw_brT rfl (h) ?_
  repeat (refine mw_step rfl ?_)
  refine mw_ild rfl (rfl) (by omega) (by decide) ?_
  repeat (refine mw_step rfl ?_)
  refine mw_call (c_O_asSort _ v _) rfl rfl (Nat.le_of_ble_eq_true rfl) (Nat.le_refl _) (Nat.le_refl _) ?_
  refine mw_lst rfl (n_60m a i) (by omega) (by decide) ?_
  repeat (refine mw_step rfl ?_)
  refine mw_brT rfl (h) ?_
  repeat (refine mw_step rfl ?_)
  exact mw_r1 rfl trivial (Nat.le_refl _) (Nat.le_refl _) rfl rfl
theorem c_C_el_bad (d i : Int32) (hd : ¬ (0 ≤ d ∧ d ≤ nI 5)) : MC M_C_element 4 0 0 [.ref 5, .int d, .int i] (heapN N sc x m tl) (some (.long (-9223372036854775808))) (heapN N sc x m tl) := by
  refine mc_of k1_C_element k2_C_element (Nat.le_of_ble_eq_true rfl) ?_
  repeat (refine mw_step rfl ?_)
  refine mw_call (c_isShelf _ _) rfl rfl (Nat.le_of_ble_eq_true rfl) (Nat.le_refl _) (Nat.le_refl _) ?_
  refine mw_brT rfl (bI_f hd) ?_
  repeat (refine mw_step rfl ?_)
  exact mw_r1 rfl trivial (Nat.le_refl _) (Nat.le_refl _) rfl rfl
theorem c_C_el_ref (a : Nat) (ha : a ≤ 5) (i : Int32) (h : ¬ sp_refX (xH_sorts x a) (xH_lens x a) i = 0) : MC M_C_element 4 0 0 [.ref 5, .int (nI a), .int i] (heapN N sc x m tl) (some (.long (-9223372036854775808))) (heapN N sc x m tl) := by
  refine mc_of k1_C_element k2_C_element (Nat.le_of_ble_eq_true rfl) ?_
  repeat (refine mw_step rfl ?_)
  refine mw_call (c_isShelf _ _) rfl rfl (Nat.le_of_ble_eq_true rfl) (Nat.le_refl _) (Nat.le_refl _) ?_
  refine mw_brF rfl (bI_ne (rng_in ha (by decide))) ?_
  repeat (refine mw_step rfl ?_)
  refine mw_call (c_H_refusal a ha i) rfl rfl (Nat.le_of_ble_eq_true rfl) (Nat.le_refl _) (Nat.le_refl _) ?_
  refine mw_brF rfl (h) ?_
  repeat (refine mw_step rfl ?_)
  exact mw_r1 rfl trivial (Nat.le_refl _) (Nat.le_refl _) rfl rfl
theorem c_C_el (a i : Nat) (ha : a ≤ 5) (hi : i ≤ 59) (h : sp_refX (xH_sorts x a) (xH_lens x a) (nI i) = 0) : MC M_C_element 4 0 0 [.ref 5, .int (nI a), .int (nI i)] (heapN N sc x m tl) (some (.long (xH_cells x (a * 60 + i)))) (heapN N sc x m tl) := by
  refine mc_of k1_C_element k2_C_element (Nat.le_of_ble_eq_true rfl) ?_
  repeat (refine mw_step rfl ?_)
  refine mw_call (c_isShelf _ _) rfl rfl (Nat.le_of_ble_eq_true rfl) (Nat.le_refl _) (Nat.le_refl _) ?_
  refine mw_brF rfl (bI_ne (rng_in ha (by decide))) ?_
  repeat (refine mw_step rfl ?_)
  refine mw_call (c_H_refusal a ha (nI i)) rfl rfl (Nat.le_of_ble_eq_true rfl) (Nat.le_refl _) (Nat.le_refl _) ?_
  refine mw_brT rfl (h) ?_
  repeat (refine mw_step rfl ?_)
  refine mw_call (c_H_cell a i ha hi) rfl rfl (Nat.le_of_ble_eq_true rfl) (Nat.le_refl _) (Nat.le_refl _) ?_
  exact mw_r1 rfl trivial (Nat.le_refl _) (Nat.le_refl _) rfl rfl
theorem c_O_el_bad (d i : Int32) (hd : ¬ (0 ≤ d ∧ d ≤ nI 5)) : MC M_O_element 3 0 0 [.ref 39, .int d, .int i] (heapN N sc x m tl) (some (.long (-9223372036854775808))) (heapN N sc x m tl) := by
  refine mc_of k1_O_element k2_O_element (Nat.le_of_ble_eq_true rfl) ?_
  repeat (refine mw_step rfl ?_)
  refine mw_call (c_O_refusal_bad d i hd) rfl rfl (Nat.le_of_ble_eq_true rfl) (Nat.le_refl _) (Nat.le_refl _) ?_
  refine mw_brF rfl (by decide) ?_
  repeat (refine mw_step rfl ?_)
  exact mw_r1 rfl trivial (Nat.le_refl _) (Nat.le_refl _) rfl rfl
theorem c_O_el_ref (a : Nat) (ha : a ≤ 5) (i : Int32) (h : ¬ sp_refO (zs_shelf m a) (zs_many m a) i = 0) : MC M_O_element 3 0 0 [.ref 39, .int (nI a), .int i] (heapN N sc x m tl) (some (.long (-9223372036854775808))) (heapN N sc x m tl) := by
  refine mc_of k1_O_element k2_O_element (Nat.le_of_ble_eq_true rfl) ?_
  repeat (refine mw_step rfl ?_)
  refine mw_call (c_O_refusal a ha i) rfl rfl (Nat.le_of_ble_eq_true rfl) (Nat.le_refl _) (Nat.le_refl _) ?_
  refine mw_brF rfl (h) ?_
  repeat (refine mw_step rfl ?_)
  exact mw_r1 rfl trivial (Nat.le_refl _) (Nat.le_refl _) rfl rfl
theorem c_O_el (a i : Nat) (ha : a ≤ 5) (hi : i ≤ 59) (h : sp_refO (zs_shelf m a) (zs_many m a) (nI i) = 0) : MC M_O_element 3 0 0 [.ref 39, .int (nI a), .int (nI i)] (heapN N sc x m tl) (some (.long (zs_items m (60 * a + i)))) (heapN N sc x m tl) := by
  refine mc_of k1_O_element k2_O_element (Nat.le_of_ble_eq_true rfl) ?_
  repeat (refine mw_step rfl ?_)
  refine mw_call (c_O_refusal a ha (nI i)) rfl rfl (Nat.le_of_ble_eq_true rfl) (Nat.le_refl _) (Nat.le_refl _) ?_
  refine mw_brT rfl (h) ?_
  repeat (refine mw_step rfl ?_)
  refine mw_lld rfl (n_60m a i) (by omega) (by decide) ?_
  exact mw_r1 rfl trivial (Nat.le_refl _) (Nat.le_refl _) rfl rfl
/-- shift -/
def sp_shX (s1 s2 l1 l2 i j k : Int32) : Int32 := if s1 = -2 then -11 else if s2 = -2 then -11 else if s1 = -1 then -12 else if s1 = s2 then (if k < 0 then -13 else if ¬ i < 0 ∧ ¬ l1 - k < i then (if ¬ j < 0 ∧ ¬ l2 - k < j then 1 else -13) else -13) else -12
theorem c_H_copy_ref (a b : Nat) (ha : a ≤ 5) (hb : b ≤ 5) (i j k : Int32) (h : ¬ sp_shX (xH_sorts x a) (xH_sorts x b) (xH_lens x a) (xH_lens x b) i j k = 1) : MC M_H_copy 4 0 0 [.ref 30, .int (nI a), .int i, .int (nI b), .int j, .int k] (heapN N sc x m tl) (some (.int (sp_shX (xH_sorts x a) (xH_sorts x b) (xH_lens x a) (xH_lens x b) i j k))) (heapN N sc x m tl) := by
  refine mc_of k1_H_copy k2_H_copy (Nat.le_of_ble_eq_true rfl) ?_
  repeat (refine mw_step rfl ?_)
  refine mw_call (c_H_sortOn a ha) rfl rfl (Nat.le_of_ble_eq_true rfl) (Nat.le_refl _) (Nat.le_refl _) ?_
  repeat (refine mw_step rfl ?_)
  refine mw_call (c_H_sortOn b hb) rfl rfl (Nat.le_of_ble_eq_true rfl) (Nat.le_refl _) (Nat.le_refl _) ?_
  repeat (refine mw_step rfl ?_)
  unfold sp_shX at h ⊢
  refine mw_br rfl (fun h1 => ?_) (fun h1 => ?_)
  · repeat (refine mw_step rfl ?_)
    exact mw_r1 rfl trivial (Nat.le_refl _) (Nat.le_refl _) (by rw [if_pos h1]) rfl
  · rw [if_neg h1] at h ⊢
    repeat (refine mw_step rfl ?_)
    refine mw_br rfl (fun h2 => ?_) (fun h2 => ?_)
    · repeat (refine mw_step rfl ?_)
      exact mw_r1 rfl trivial (Nat.le_refl _) (Nat.le_refl _) (by rw [if_pos h2]) rfl
    · rw [if_neg h2] at h ⊢
      repeat (refine mw_step rfl ?_)
      refine mw_br rfl (fun h3 => ?_) (fun h3 => ?_)
      · repeat (refine mw_step rfl ?_)
        exact mw_r1 rfl trivial (Nat.le_refl _) (Nat.le_refl _) (by rw [if_pos h3]) rfl
      · rw [if_neg h3] at h ⊢
        repeat (refine mw_step rfl ?_)
        refine mw_br rfl (fun h4 => ?_) (fun h4 => ?_)
        · rw [if_pos h4] at h ⊢
          repeat (refine mw_step rfl ?_)
          refine mw_br rfl (fun h5 => ?_) (fun h5 => ?_)
          · repeat (refine mw_step rfl ?_)
            exact mw_r1 rfl trivial (Nat.le_refl _) (Nat.le_refl _) (by rw [if_pos h5]) rfl
          · rw [if_neg h5] at h ⊢
            repeat (refine mw_step rfl ?_)
            refine mw_call (c_H_reaches a ha i k) rfl rfl (Nat.le_of_ble_eq_true rfl) (Nat.le_refl _) (Nat.le_refl _) ?_
            refine mw_br rfl (fun h6 => ?_) (fun h6 => ?_)
            · rw [if_neg (bI_0.mp h6)] at h ⊢
              repeat (refine mw_step rfl ?_)
              exact mw_r1 rfl trivial (Nat.le_refl _) (Nat.le_refl _) rfl rfl
            · rw [if_pos (bI_of h6)] at h ⊢
              repeat (refine mw_step rfl ?_)
              refine mw_call (c_H_reaches b hb j k) rfl rfl (Nat.le_of_ble_eq_true rfl) (Nat.le_refl _) (Nat.le_refl _) ?_
              refine mw_br rfl (fun h7 => ?_) (fun h7 => ?_)
              · rw [if_neg (bI_0.mp h7)] at h ⊢
                repeat (refine mw_step rfl ?_)
                exact mw_r1 rfl trivial (Nat.le_refl _) (Nat.le_refl _) rfl rfl
              · rw [if_pos (bI_of h7)] at h
                exact absurd rfl h
        · rw [if_neg h4] at h ⊢
          repeat (refine mw_step rfl ?_)
          exact mw_r1 rfl trivial (Nat.le_refl _) (Nat.le_refl _) rfl rfl
theorem c_H_copy (a b i j k : Nat) (ha : a ≤ 5) (hb : b ≤ 5) (hi : i + k ≤ 60) (hj : j + k ≤ 60) (h : sp_shX (xH_sorts x a) (xH_sorts x b) (xH_lens x a) (xH_lens x b) (nI i) (nI j) (nI k) = 1) : MC M_H_copy 4 0 0 [.ref 30, .int (nI a), .int (nI i), .int (nI b), .int (nI j), .int (nI k)] (heapN N sc x m tl) (some (.int (nI k))) (heapN N sc (xH_cells_s x (va_cpy (xH_cells x) (xH_cells x) (a * 60 + i) (b * 60 + j) k)) m tl) := by
  have e1 := nI_clamp (n := a * 60 + i) (by omega)
  have e2 := nI_clamp (n := b * 60 + j) (by omega)
  have e3 := nI_clamp (n := k) (by omega)
  refine mc_of k1_H_copy k2_H_copy (Nat.le_of_ble_eq_true rfl) ?_
  repeat (refine mw_step rfl ?_)
  refine mw_call (c_H_sortOn a ha) rfl rfl (Nat.le_of_ble_eq_true rfl) (Nat.le_refl _) (Nat.le_refl _) ?_
  repeat (refine mw_step rfl ?_)
  refine mw_call (c_H_sortOn b hb) rfl rfl (Nat.le_of_ble_eq_true rfl) (Nat.le_refl _) (Nat.le_refl _) ?_
  repeat (refine mw_step rfl ?_)
  unfold sp_shX at h
  refine mw_br rfl (fun h1 => ?_) (fun h1 => ?_)
  · rw [if_pos h1] at h
    exact absurd h (by decide)
  · rw [if_neg h1] at h
    repeat (refine mw_step rfl ?_)
    refine mw_br rfl (fun h2 => ?_) (fun h2 => ?_)
    · rw [if_pos h2] at h
      exact absurd h (by decide)
    · rw [if_neg h2] at h
      repeat (refine mw_step rfl ?_)
      refine mw_br rfl (fun h3 => ?_) (fun h3 => ?_)
      · rw [if_pos h3] at h
        exact absurd h (by decide)
      · rw [if_neg h3] at h
        repeat (refine mw_step rfl ?_)
        refine mw_br rfl (fun h4 => ?_) (fun h4 => ?_)
        · rw [if_pos h4] at h
          repeat (refine mw_step rfl ?_)
          refine mw_br rfl (fun h5 => ?_) (fun h5 => ?_)
          · rw [if_pos h5] at h
            exact absurd h (by decide)
          · rw [if_neg h5] at h
            repeat (refine mw_step rfl ?_)
            refine mw_call (c_H_reaches a ha (nI i) (nI k)) rfl rfl (Nat.le_of_ble_eq_true rfl) (Nat.le_refl _) (Nat.le_refl _) ?_
            refine mw_br rfl (fun h6 => ?_) (fun h6 => ?_)
            · rw [if_neg (bI_0.mp h6)] at h
              exact absurd h (by decide)
            · rw [if_pos (bI_of h6)] at h
              repeat (refine mw_step rfl ?_)
              refine mw_call (c_H_reaches b hb (nI j) (nI k)) rfl rfl (Nat.le_of_ble_eq_true rfl) (Nat.le_refl _) (Nat.le_refl _) ?_
              refine mw_br rfl (fun h7 => ?_) (fun h7 => ?_)
              · rw [if_neg (bI_0.mp h7)] at h
                exact absurd h (by decide)
              · repeat (refine mw_step rfl ?_)
                rw [show nI a * 60 + nI i = nI (a * 60 + i) from n_m60 a i, show nI b * 60 + nI j = nI (b * 60 + j) from n_m60 b j]
                refine mw_cpyl (i0 := 34) (i1 := 34) (sp := nI (a * 60 + i)) (dp := nI (b * 60 + j)) (n := nI k) rfl (by decide) rfl rfl (by decide) (by decide) (nI_pos (by omega)) (nI_pos (by omega)) (nI_pos (by omega)) (by rw [e1, e3]; omega) (by rw [e2, e3]; omega) ?_
                rw [e1, e2, e3]
                repeat (refine mw_step rfl ?_)
                exact mw_r1 rfl trivial (Nat.le_refl _) (Nat.le_refl _) rfl rfl
        · rw [if_neg h4] at h
          exact absurd h (by decide)
theorem c_C_shift_bad (d e i j k : Int32) (h : ¬ ((0 ≤ d ∧ d ≤ nI 5) ∧ (0 ≤ e ∧ e ≤ nI 5))) : MC M_C_shift 5 0 0 [.ref 5, .int d, .int i, .int e, .int j, .int k] (heapN N sc x m tl) (some (.int (-1))) (heapN N sc x m tl) := by
  refine mc_of k1_C_shift k2_C_shift (Nat.le_of_ble_eq_true rfl) ?_
  repeat (refine mw_step rfl ?_)
  refine mw_call (c_isShelf _ _) rfl rfl (Nat.le_of_ble_eq_true rfl) (Nat.le_refl _) (Nat.le_refl _) ?_
  refine mw_br rfl (fun h1 => ?_) (fun h1 => ?_)
  · repeat (refine mw_step rfl ?_)
    exact mw_r1 rfl trivial (Nat.le_refl _) (Nat.le_refl _) rfl rfl
  · repeat (refine mw_step rfl ?_)
    refine mw_call (c_isShelf _ _) rfl rfl (Nat.le_of_ble_eq_true rfl) (Nat.le_refl _) (Nat.le_refl _) ?_
    refine mw_br rfl (fun h2 => ?_) (fun h2 => ?_)
    · repeat (refine mw_step rfl ?_)
      exact mw_r1 rfl trivial (Nat.le_refl _) (Nat.le_refl _) rfl rfl
    · exact absurd ⟨bI_of h1, bI_of h2⟩ h
theorem c_C_shift {a b : Nat} (ha : a ≤ 5) (hb : b ≤ 5) {i j k r : Int32} {h' : MH} (hC : MC M_H_copy 4 0 0 [.ref 30, .int (nI a), .int i, .int (nI b), .int j, .int k] (heapN N sc x m tl) (some (.int r)) h') : MC M_C_shift 5 0 0 [.ref 5, .int (nI a), .int i, .int (nI b), .int j, .int k] (heapN N sc x m tl) (some (.int r)) h' := by
  refine mc_of k1_C_shift k2_C_shift (Nat.le_of_ble_eq_true rfl) ?_
  repeat (refine mw_step rfl ?_)
  refine mw_call (c_isShelf _ _) rfl rfl (Nat.le_of_ble_eq_true rfl) (Nat.le_refl _) (Nat.le_refl _) ?_
  refine mw_brF rfl (bI_ne (rng_in ha (by decide))) ?_
  repeat (refine mw_step rfl ?_)
  refine mw_call (c_isShelf _ _) rfl rfl (Nat.le_of_ble_eq_true rfl) (Nat.le_refl _) (Nat.le_refl _) ?_
  refine mw_brF rfl (bI_ne (rng_in hb (by decide))) ?_
  repeat (refine mw_step rfl ?_)
  refine mw_call (hC) rfl rfl (Nat.le_of_ble_eq_true rfl) (Nat.le_refl _) (Nat.le_refl _) ?_
  exact mw_r1 rfl trivial (Nat.le_refl _) (Nat.le_refl _) rfl rfl
end SG
