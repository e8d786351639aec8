/-! shelves, on both sides -/
theorem n_m60 (a b : Nat) : nI a * nI 60 + nI b = nI (a * 60 + b) := by rw [pk_mul, nI_add]
theorem n_60m (a b : Nat) : nI 60 * nI a + nI b = nI (60 * a + b) := by rw [pk_mul, nI_add]
/-- a stretch of a row filled -/
def sp_fill (f : Nat → Int64) (a b : Nat) (v : Int64) : Nat → Int64 := fun j => if a ≤ j ∧ j < b then v else f j
theorem sp_fill_0 (f : Nat → Int64) (a : Nat) (v : Int64) : sp_fill f a a v = f := by
  funext j
  unfold sp_fill
  rw [if_neg (by omega)]
theorem sp_fill_up (f : Nat → Int64) (a b : Nat) (v : Int64) (h : a ≤ b) : vp_updL (sp_fill f a b v) b v = sp_fill f a (b + 1) v := by
  funext j
  unfold vp_updL sp_fill
  by_cases h1 : j = b
  · subst h1
    rw [if_pos rfl, if_pos (by omega)]
  · rw [if_neg h1]
    by_cases h2 : a ≤ j ∧ j < b
    · rw [if_pos h2, if_pos (by omega)]
    · rw [if_neg h2, if_neg (by omega)]
def sp_refX (s len i : Int32) : Int32 := if s = -2 then -11 else if s = -1 then -12 else if 0 ≤ i ∧ i ≤ len - 1 then 0 else -13
def sp_refO (s len i : Int32) : Int32 := if s < 0 then -11 else if s < 50 then -12 else if i < 0 then -13 else if i < len then 0 else -13
def sp_low (s : Int32) (v : Int64) : Int64 := if s = 0 then v.toInt32.toInt8.toInt32.toInt64 else if s = 1 then v.toInt32.toInt16.toInt32.toInt64 else if s = 2 then v.toInt32.toInt64 else if s = 4 then (if v = 0 then 0 else 1) else v
section SH
variable {N : Nat} {sc : Nat × (Nat → Int32)} {x : XS} {m : OS} {tl : MH} {n : Nat}
theorem c_H_sortOn (a : Nat) (ha : a ≤ 5) : MC M_H_sortOn 2 0 0 [.ref 30, .int (nI a)] (heapN N sc x m tl) (some (.int (xH_sorts x a))) (heapN N sc x m tl) := by
  refine mc_of k1_H_sortOn k2_H_sortOn (Nat.le_of_ble_eq_true rfl) ?_
  repeat (refine mw_step rfl ?_)
  refine mw_call (c_isShelf _ _) rfl rfl (Nat.le_of_ble_eq_true rfl) (Nat.le_refl _) (Nat.le_refl _) ?_
  refine mw_brF rfl (bI_ne (rng_in ha (by decide))) ?_
  repeat (refine mw_step rfl ?_)
  refine mw_ild rfl (rfl) (by omega) (by decide) ?_
  repeat (refine mw_step rfl ?_)
  exact mw_r1 rfl trivial (Nat.le_refl _) (Nat.le_refl _) rfl rfl
theorem c_H_bodyOn (a : Nat) (ha : a ≤ 5) : MC M_H_bodyOn 2 0 0 [.ref 30, .int (nI a)] (heapN N sc x m tl) (some (.int (xH_held x a))) (heapN N sc x m tl) := by
  refine mc_of k1_H_bodyOn k2_H_bodyOn (Nat.le_of_ble_eq_true rfl) ?_
  repeat (refine mw_step rfl ?_)
  refine mw_call (c_isShelf _ _) rfl rfl (Nat.le_of_ble_eq_true rfl) (Nat.le_refl _) (Nat.le_refl _) ?_
  refine mw_brF rfl (bI_ne (rng_in ha (by decide))) ?_
  repeat (refine mw_step rfl ?_)
  refine mw_ild rfl (rfl) (by omega) (by decide) ?_
  repeat (refine mw_step rfl ?_)
  exact mw_r1 rfl trivial (Nat.le_refl _) (Nat.le_refl _) rfl rfl
theorem c_H_lengthOn (a : Nat) (ha : a ≤ 5) : MC M_H_lengthOn 2 0 0 [.ref 30, .int (nI a)] (heapN N sc x m tl) (some (.int (xH_lens x a))) (heapN N sc x m tl) := by
  refine mc_of k1_H_lengthOn k2_H_lengthOn (Nat.le_of_ble_eq_true rfl) ?_
  repeat (refine mw_step rfl ?_)
  refine mw_call (c_isShelf _ _) rfl rfl (Nat.le_of_ble_eq_true rfl) (Nat.le_refl _) (Nat.le_refl _) ?_
  refine mw_brF rfl (bI_ne (rng_in ha (by decide))) ?_
  repeat (refine mw_step rfl ?_)
  refine mw_ild rfl (rfl) (by omega) (by decide) ?_
  repeat (refine mw_step rfl ?_)
  exact mw_r1 rfl trivial (Nat.le_refl _) (Nat.le_refl _) rfl rfl
theorem c_H_hold (a : Nat) (ha : a ≤ 5) (b : Int32) : MC M_H_hold 2 0 0 [.ref 30, .int (nI a), .int b] (heapN N sc x m tl) none (heapN N sc (xH_s x (upd (xH_sorts x) a (if b < 0 then -2 else -1), upd (xH_held x) a b, upd (xH_lens x) a 0, xH_cells x)) m tl) := by
  refine mc_of k1_H_hold k2_H_hold (Nat.le_of_ble_eq_true rfl) ?_
  repeat (refine mw_step rfl ?_)
  refine mw_call (c_isShelf _ _) rfl rfl (Nat.le_of_ble_eq_true rfl) (Nat.le_refl _) (Nat.le_refl _) ?_
  refine mw_brF rfl (bI_ne (rng_in ha (by decide))) ?_
  repeat (refine mw_step rfl ?_)
  refine mw_br rfl (fun h1 => ?_) (fun h1 => ?_)
  · repeat (refine mw_step rfl ?_)
    refine mw_ist rfl (rfl) (by omega) (by decide) ?_
    repeat (refine mw_step rfl ?_)
    refine mw_ist rfl (rfl) (by omega) (by decide) ?_
    repeat (refine mw_step rfl ?_)
    refine mw_ist rfl (rfl) (by omega) (by decide) ?_
    exact mw_r0 rfl (Nat.le_refl _) (Nat.le_refl _) rfl (by rw [if_pos h1]; rfl)
  · repeat (refine mw_step rfl ?_)
    refine mw_ist rfl (rfl) (by omega) (by decide) ?_
    repeat (refine mw_step rfl ?_)
    refine mw_ist rfl (rfl) (by omega) (by decide) ?_
    repeat (refine mw_step rfl ?_)
    refine mw_ist rfl (rfl) (by omega) (by decide) ?_
    exact mw_r0 rfl (Nat.le_refl _) (Nat.le_refl _) rfl (by rw [if_neg h1]; rfl)
theorem c_J_range (h : MH) (l a b : Int32) (h1 : ¬ b < a) (h2 : ¬ a < 0) (h3 : ¬ l < b) : MC M_J_range 0 0 0 [.int l, .int a, .int b] h none h := by
  refine mc_of k1_J_range k2_J_range (Nat.le_of_ble_eq_true rfl) ?_
  repeat (refine mw_step rfl ?_)
  refine mw_brF rfl (h1) ?_
  repeat (refine mw_step rfl ?_)
  refine mw_brF rfl (h2) ?_
  repeat (refine mw_step rfl ?_)
  refine mw_brF rfl (h3) ?_
  exact mw_r0 rfl (Nat.le_refl _) (Nat.le_refl _) rfl rfl
theorem l_J_fillR (v : Int64) (f0 : Nat → Int64) (a b : Nat) (hb : b ≤ 360) {hT : MH} (hT' : hT = heapN N sc (xH_cells_s x (sp_fill f0 a b v)) m tl) : ∀ r i, i + r = b → a ≤ i → MW M_J_fillR 1 0 0 none hT 0 0 10 [(0, .ref 34), (2, .int (nI b)), (3, .long v), (5, .int (nI i))] [] (heapN N sc (xH_cells_s x (sp_fill f0 a i v)) m tl) := by
  intro r
  induction r with
  | zero =>
    intro i hi ha
    rw [show i = b by omega]
    repeat (refine mw_step rfl ?_)
    refine mw_brF rfl (n_nlt (by omega) (by omega)) ?_
    exact mw_r0 rfl (Nat.le_refl _) (Nat.le_refl _) rfl hT'
  | succ r ih =>
    intro i hi ha
    repeat (refine mw_step rfl ?_)
    refine mw_brT rfl (n_lt (by omega) (by omega)) ?_
    repeat (refine mw_step rfl ?_)
    refine mw_lst rfl (rfl) (by omega) (by decide) ?_
    repeat (refine mw_to 10 rfl rfl ?_)
    rw [nI_1]
    refine mw_pick [0, 2, 3, 5] rfl ?_
    have := ih (i + 1) (by omega) (by omega)
    rw [← sp_fill_up _ _ _ _ ha] at this
    exact this
theorem c_J_fillR (a b : Nat) (v : Int64) (hab : a ≤ b) (hb : b ≤ 360) : MC M_J_fillR 1 0 0 [.ref 34, .int (nI a), .int (nI b), .long v] (heapN N sc x m tl) none (heapN N sc (xH_cells_s x (sp_fill (xH_cells x) a b v)) m tl) := by
  refine mc_of k1_J_fillR k2_J_fillR (Nat.le_of_ble_eq_true rfl) ?_
  repeat (refine mw_step rfl ?_)
  refine mw_call (c_J_range _ _ _ _ (n_nlt hab (by omega)) (nI_pos (by omega)) (n_nlt (a := 360) hb (by omega))) rfl rfl (Nat.le_of_ble_eq_true rfl) (Nat.le_refl _) (Nat.le_refl _) ?_
  repeat (refine mw_to 10 rfl rfl ?_)
  refine mw_pick [0, 2, 3, 5] rfl ?_
  have := l_J_fillR (N := N) (sc := sc) (x := x) (m := m) (tl := tl) v (xH_cells x) a b hb rfl (b - a) a (by omega) (Nat.le_refl _)
  rw [sp_fill_0] at this
  exact this
theorem c_H_holdRow (a k : Nat) (s : Int32) (ha : a ≤ 5) (hk : k ≤ 60) : MC M_H_holdRow 2 0 0 [.ref 30, .int (nI a), .int s, .int (nI k)] (heapN N sc x m tl) none (heapN N sc (xH_s x (upd (xH_sorts x) a s, xH_held x, upd (xH_lens x) a (nI k), sp_fill (xH_cells x) (a * 60) ((a + 1) * 60) 0)) m tl) := by
  refine mc_of k1_H_holdRow k2_H_holdRow (Nat.le_of_ble_eq_true rfl) ?_
  repeat (refine mw_step rfl ?_)
  refine mw_call (c_isShelf _ _) rfl rfl (Nat.le_of_ble_eq_true rfl) (Nat.le_refl _) (Nat.le_refl _) ?_
  refine mw_brF rfl (bI_ne (rng_in ha (by decide))) ?_
  repeat (refine mw_step rfl ?_)
  refine mw_call (c_within _ _ _ _) rfl rfl (Nat.le_of_ble_eq_true rfl) (Nat.le_refl _) (Nat.le_refl _) ?_
  refine mw_brF rfl (bI_ne (rng_in (n := 60) hk (by decide))) ?_
  repeat (refine mw_step rfl ?_)
  refine mw_ist rfl (rfl) (by omega) (by decide) ?_
  repeat (refine mw_step rfl ?_)
  refine mw_ist rfl (rfl) (by omega) (by decide) ?_
  repeat (refine mw_step rfl ?_)
  rw [nI_1, show nI a * 60 = nI (a * 60) from pk_mul a 60, show nI (a + 1) * 60 = nI ((a + 1) * 60) from pk_mul (a + 1) 60]
  refine mw_call (c_J_fillR (x := xH_s x (upd (xH_sorts x) a s, xH_held x, upd (xH_lens x) a (nI k), xH_cells x)) (a * 60) ((a + 1) * 60) 0 (by omega) (by omega)) rfl rfl (Nat.le_of_ble_eq_true rfl) (Nat.le_refl _) (Nat.le_refl _) ?_
  exact mw_r0 rfl (Nat.le_refl _) (Nat.le_refl _) rfl rfl
theorem c_H_refusal (a : Nat) (ha : a ≤ 5) (i : Int32) : MC M_H_refusal 3 0 0 [.ref 30, .int (nI a), .int i] (heapN N sc x m tl) (some (.int (sp_refX (xH_sorts x a) (xH_lens x a) i))) (heapN N sc x m tl) := by
  refine mc_of k1_H_refusal k2_H_refusal (Nat.le_of_ble_eq_true rfl) ?_
  repeat (refine mw_step rfl ?_)
  refine mw_call (c_H_sortOn a ha) rfl rfl (Nat.le_of_ble_eq_true rfl) (Nat.le_refl _) (Nat.le_refl _) ?_
  repeat (refine mw_step rfl ?_)
  refine mw_br rfl (fun h1 => ?_) (fun h1 => ?_)
  · repeat (refine mw_step rfl ?_)
    exact mw_r1 rfl trivial (Nat.le_refl _) (Nat.le_refl _) (by rw [sp_refX, if_pos h1]) rfl
  · repeat (refine mw_step rfl ?_)
    refine mw_br rfl (fun h2 => ?_) (fun h2 => ?_)
    · repeat (refine mw_step rfl ?_)
      exact mw_r1 rfl trivial (Nat.le_refl _) (Nat.le_refl _) (by rw [sp_refX, if_neg h1, if_pos h2]) rfl
    · repeat (refine mw_step rfl ?_)
      refine mw_call (c_H_lengthOn a ha) rfl rfl (Nat.le_of_ble_eq_true rfl) (Nat.le_refl _) (Nat.le_refl _) ?_
      repeat (refine mw_step rfl ?_)
      refine mw_call (c_within _ _ _ _) rfl rfl (Nat.le_of_ble_eq_true rfl) (Nat.le_refl _) (Nat.le_refl _) ?_
      refine mw_br rfl (fun h3 => ?_) (fun h3 => ?_)
      · repeat (refine mw_step rfl ?_)
        exact mw_r1 rfl trivial (Nat.le_refl _) (Nat.le_refl _) (by rw [sp_refX, if_neg h1, if_neg h2, if_neg (bI_0.mp h3)]) rfl
      · repeat (refine mw_step rfl ?_)
        exact mw_r1 rfl trivial (Nat.le_refl _) (Nat.le_refl _) (by rw [sp_refX, if_neg h1, if_neg h2, if_pos (bI_of h3)]) rfl
theorem c_H_cell (a i : Nat) (ha : a ≤ 5) (hi : i ≤ 59) : MC M_H_cell 2 0 0 [.ref 30, .int (nI a), .int (nI i)] (heapN N sc x m tl) (some (.long (xH_cells x (a * 60 + i)))) (heapN N sc x m tl) := by
  refine mc_of k1_H_cell k2_H_cell (Nat.le_of_ble_eq_true rfl) ?_
  repeat (refine mw_step rfl ?_)
  refine mw_call (c_isShelf _ _) rfl rfl (Nat.le_of_ble_eq_true rfl) (Nat.le_refl _) (Nat.le_refl _) ?_
  refine mw_brF rfl (bI_ne (rng_in ha (by decide))) ?_
  repeat (refine mw_step rfl ?_)
  refine mw_call (c_within _ _ _ _) rfl rfl (Nat.le_of_ble_eq_true rfl) (Nat.le_refl _) (Nat.le_refl _) ?_
  refine mw_brF rfl (bI_ne (rng_in (n := 59) hi (by decide))) ?_
  repeat (refine mw_step rfl ?_)
  refine mw_lld rfl (n_m60 a i) (by omega) (by decide) ?_
  repeat (refine mw_step rfl ?_)
  exact mw_r1 rfl trivial (Nat.le_refl _) (Nat.le_refl _) rfl rfl
theorem c_H_low (s : Nat) (hs : s ≤ 4) (v : Int64) (h : MH) : MC M_H_lowestBits 0 0 0 [.int (nI s), .long v] h (some (.long (sp_low (nI s) v))) h := by
  refine mc_of k1_H_lowestBits k2_H_lowestBits (Nat.le_of_ble_eq_true rfl) ?_
  repeat (refine mw_step rfl ?_)
  rcases (show s = 0 ∨ s = 1 ∨ s = 2 ∨ s = 3 ∨ s = 4 by omega) with rfl | rfl | rfl | rfl | rfl
  · refine mw_sw (t := 36) rfl ?_
    repeat (refine mw_step rfl ?_)
    exact mw_r1 rfl trivial (Nat.le_refl _) (Nat.le_refl _) rfl rfl
  · refine mw_sw (t := 41) rfl ?_
    repeat (refine mw_step rfl ?_)
    exact mw_r1 rfl trivial (Nat.le_refl _) (Nat.le_refl _) rfl rfl
  · refine mw_sw (t := 46) rfl ?_
    repeat (refine mw_step rfl ?_)
    exact mw_r1 rfl trivial (Nat.le_refl _) (Nat.le_refl _) rfl rfl
  · refine mw_sw (t := 62) rfl ?_
    repeat (refine mw_step rfl ?_)
    exact mw_r1 rfl trivial (Nat.le_refl _) (Nat.le_refl _) rfl rfl
  · refine mw_sw (t := 50) rfl ?_
    repeat (refine mw_step rfl ?_)
    refine mw_br rfl (fun h1 => ?_) (fun h1 => ?_)
    · repeat (refine mw_step rfl ?_)
      rw [lg_eq0] at h1
      exact mw_r1 rfl trivial (Nat.le_refl _) (Nat.le_refl _) (by subst h1; rfl) rfl
    · repeat (refine mw_step rfl ?_)
      rw [lg_eq0] at h1
      exact mw_r1 rfl trivial (Nat.le_refl _) (Nat.le_refl _) (by show some (Value.long (if v = 0 then 0 else 1)) = _; rw [if_neg h1]) rfl
theorem c_H_setCell (a i s : Nat) (ha : a ≤ 5) (hi : i ≤ 59) (hs : s ≤ 4) (hss : xH_sorts x a = nI s) (v : Int64) : MC M_H_setCell 2 0 0 [.ref 30, .int (nI a), .int (nI i), .long v] (heapN N sc x m tl) none (heapN N sc (xH_cells_s x (vp_updL (xH_cells x) (a * 60 + i) (sp_low (nI s) v))) m tl) := by
  refine mc_of k1_H_setCell k2_H_setCell (Nat.le_of_ble_eq_true rfl) ?_
  repeat (refine mw_step rfl ?_)
  refine mw_call (c_isShelf _ _) rfl rfl (Nat.le_of_ble_eq_true rfl) (Nat.le_refl _) (Nat.le_refl _) ?_
  refine mw_brF rfl (bI_ne (rng_in ha (by decide))) ?_
  repeat (refine mw_step rfl ?_)
  refine mw_call (c_within _ _ _ _) rfl rfl (Nat.le_of_ble_eq_true rfl) (Nat.le_refl _) (Nat.le_refl _) ?_
  refine mw_brF rfl (bI_ne (rng_in (n := 59) hi (by decide))) ?_
  repeat (refine mw_step rfl ?_)
  refine mw_ild rfl (rfl) (by omega) (by decide) ?_
  repeat (refine mw_step rfl ?_)
  rw [hss]
  refine mw_call (c_H_low s hs v _) rfl rfl (Nat.le_of_ble_eq_true rfl) (Nat.le_refl _) (Nat.le_refl _) ?_
  refine mw_lst rfl (n_m60 a i) (by omega) (by decide) ?_
  exact mw_r0 rfl (Nat.le_refl _) (Nat.le_refl _) rfl rfl
theorem c_H_reaches (a : Nat) (ha : a ≤ 5) (i k : Int32) : MC M_H_reaches 3 0 0 [.ref 30, .int (nI a), .int i, .int k] (heapN N sc x m tl) (some (.int (bI (¬ i < 0 ∧ ¬ xH_lens x a - k < i)))) (heapN N sc x m tl) := by
  refine mc_of k1_H_reaches k2_H_reaches (Nat.le_of_ble_eq_true rfl) ?_
  repeat (refine mw_step rfl ?_)
  refine mw_br rfl (fun h1 => ?_) (fun h1 => ?_)
  · repeat (refine mw_step rfl ?_)
    exact mw_r1 rfl rfl (Nat.le_refl _) (Nat.le_refl _) (by rw [bI_f]; exact fun z => z.1 h1) rfl
  · repeat (refine mw_step rfl ?_)
    refine mw_call (c_H_lengthOn a ha) rfl rfl (Nat.le_of_ble_eq_true rfl) (Nat.le_refl _) (Nat.le_refl _) ?_
    repeat (refine mw_step rfl ?_)
    refine mw_br rfl (fun h2 => ?_) (fun h2 => ?_)
    · repeat (refine mw_step rfl ?_)
      exact mw_r1 rfl rfl (Nat.le_refl _) (Nat.le_refl _) (by rw [bI_f]; exact fun z => z.2 h2) rfl
    · repeat (refine mw_step rfl ?_)
      exact mw_r1 rfl rfl (Nat.le_refl _) (Nat.le_refl _) (by rw [bI_t ⟨h1, h2⟩]) rfl
/-- the reference's -/
theorem c_O_refusal (a : Nat) (ha : a ≤ 5) (i : Int32) : MC M_O_refusal 2 0 0 [.ref 39, .int (nI a), .int i] (heapN N sc x m tl) (some (.int (sp_refO (zs_shelf m a) (zs_many m a) i))) (heapN N sc x m tl) := by
  refine mc_of k1_O_refusal k2_O_refusal (Nat.le_of_ble_eq_true rfl) ?_
  repeat (refine mw_step rfl ?_)
  refine mw_call (c_O_isShelf _ _) rfl rfl (Nat.le_of_ble_eq_true rfl) (Nat.le_refl _) (Nat.le_refl _) ?_
  refine mw_brF rfl (bI_ne (rng_in ha (by decide))) ?_
  repeat (refine mw_step rfl ?_)
  refine mw_ild rfl (rfl) (by omega) (by decide) ?_
  refine mw_br rfl (fun h1 => ?_) (fun h1 => ?_)
  · repeat (refine mw_step rfl ?_)
    exact mw_r1 rfl trivial (Nat.le_refl _) (Nat.le_refl _) (by rw [sp_refO, if_pos h1]) rfl
  · repeat (refine mw_step rfl ?_)
    refine mw_ild rfl (rfl) (by omega) (by decide) ?_
    repeat (refine mw_step rfl ?_)
    refine mw_br rfl (fun h2 => ?_) (fun h2 => ?_)
    · repeat (refine mw_step rfl ?_)
      exact mw_r1 rfl trivial (Nat.le_refl _) (Nat.le_refl _) (by rw [sp_refO, if_neg h1, if_pos h2]) rfl
    · repeat (refine mw_step rfl ?_)
      refine mw_br rfl (fun h3 => ?_) (fun h3 => ?_)
      · repeat (refine mw_step rfl ?_)
        exact mw_r1 rfl trivial (Nat.le_refl _) (Nat.le_refl _) (by rw [sp_refO, if_neg h1, if_neg h2, if_pos h3]) rfl
      · repeat (refine mw_step rfl ?_)
        refine mw_ild rfl (rfl) (by omega) (by decide) ?_
        refine mw_br rfl (fun h4 => ?_) (fun h4 => ?_)
        · repeat (refine mw_step rfl ?_)
          exact mw_r1 rfl trivial (Nat.le_refl _) (Nat.le_refl _) (by rw [sp_refO, if_neg h1, if_neg h2, if_neg h3, if_pos h4]) rfl
        · repeat (refine mw_step rfl ?_)
          exact mw_r1 rfl trivial (Nat.le_refl _) (Nat.le_refl _) (by rw [sp_refO, if_neg h1, if_neg h2, if_neg h3, if_neg h4]) rfl
theorem c_O_refusal_bad (d i : Int32) (hd : ¬ (0 ≤ d ∧ d ≤ nI 5)) : MC M_O_refusal 2 0 0 [.ref 39, .int d, .int i] (heapN N sc x m tl) (some (.int (-1))) (heapN N sc x m tl) := by
  refine mc_of k1_O_refusal k2_O_refusal (Nat.le_of_ble_eq_true rfl) ?_
  repeat (refine mw_step rfl ?_)
  refine mw_call (c_O_isShelf _ _) rfl rfl (Nat.le_of_ble_eq_true rfl) (Nat.le_refl _) (Nat.le_refl _) ?_
  refine mw_brT rfl (bI_f hd) ?_
  repeat (refine mw_step rfl ?_)
  exact mw_r1 rfl trivial (Nat.le_refl _) (Nat.le_refl _) rfl rfl
theorem c_O_asSort (s : Int32) (v : Int64) (h : MH) : MC M_O_asSort 0 0 0 [.int s, .long v] h (some (.long (sp_low s v))) h := by
  refine mc_of k1_O_asSort k2_O_asSort (Nat.le_of_ble_eq_true rfl) ?_
  repeat (refine mw_step rfl ?_)
  refine mw_br rfl (fun h1 => ?_) (fun h1 => ?_)
  · repeat (refine mw_step rfl ?_)
    exact mw_r1 rfl trivial (Nat.le_refl _) (Nat.le_refl _) (by rw [sp_low, if_pos h1]) rfl
  · repeat (refine mw_step rfl ?_)
    refine mw_br rfl (fun h2 => ?_) (fun h2 => ?_)
    · repeat (refine mw_step rfl ?_)
      exact mw_r1 rfl trivial (Nat.le_refl _) (Nat.le_refl _) (by rw [sp_low, if_neg h1, if_pos h2]) rfl
    · repeat (refine mw_step rfl ?_)
      refine mw_br rfl (fun h3 => ?_) (fun h3 => ?_)
      · repeat (refine mw_step rfl ?_)
        exact mw_r1 rfl trivial (Nat.le_refl _) (Nat.le_refl _) (by rw [sp_low, if_neg h1, if_neg h2, if_pos h3]) rfl
      · repeat (refine mw_step rfl ?_)
        refine mw_br rfl (fun h4 => ?_) (fun h4 => ?_)
        · repeat (refine mw_step rfl ?_)
          refine mw_br rfl (fun h5 => ?_) (fun h5 => ?_)
          · repeat (refine mw_step rfl ?_)
            rw [lg_eq0] at h5
            exact mw_r1 rfl trivial (Nat.le_refl _) (Nat.le_refl _) (by rw [sp_low, if_neg h1, if_neg h2, if_neg h3, if_pos h4, if_pos h5]) rfl
          · repeat (refine mw_step rfl ?_)
            rw [lg_eq0] at h5
            exact mw_r1 rfl trivial (Nat.le_refl _) (Nat.le_refl _) (by rw [sp_low, if_neg h1, if_neg h2, if_neg h3, if_pos h4, if_neg h5]) rfl
        · repeat (refine mw_step rfl ?_)
          exact mw_r1 rfl trivial (Nat.le_refl _) (Nat.le_refl _) (by rw [sp_low, if_neg h1, if_neg h2, if_neg h3, if_neg h4]) rfl
theorem l_O_row {v : Option Value} (a : Nat) (ha : a ≤ 5) (s k : Int32) (f0 : Nat → Int64) {hT : MH} (K : MW M_O_row 2 0 0 v hT 0 0 83 [(0, .ref 39), (1, .int (nI a)), (2, .int s), (3, .int k)] [] (heapN N sc x (zs_items_s m (sp_fill f0 (60 * a) (60 * a + 60) 0)) tl)) : ∀ r i, i + r = 60 * a + 60 → 60 * a ≤ i → MW M_O_row 2 0 0 v hT 0 0 57 [(0, .ref 39), (1, .int (nI a)), (2, .int s), (3, .int k), (4, .int (nI i))] [] (heapN N sc x (zs_items_s m (sp_fill f0 (60 * a) i 0)) tl) := by
  intro r
  induction r with
  | zero =>
    intro i hi h1
    rw [show i = 60 * a + 60 by omega]
    repeat (refine mw_step rfl ?_)
    refine mw_brF rfl (by rw [show (60 : Int32) * nI a + 60 = nI (60 * a + 60) from n_60m a 60]; exact n_nlt (by omega) (by omega)) ?_
    refine mw_pick [0, 1, 2, 3] rfl ?_
    exact K
  | succ r ih =>
    intro i hi h1
    repeat (refine mw_step rfl ?_)
    refine mw_brT rfl (by rw [show (60 : Int32) * nI a + 60 = nI (60 * a + 60) from n_60m a 60]; exact n_lt (by omega) (by omega)) ?_
    repeat (refine mw_step rfl ?_)
    refine mw_lst rfl (rfl) (by omega) (by decide) ?_
    repeat (refine mw_to 57 rfl rfl ?_)
    rw [nI_1]
    refine mw_pick [0, 1, 2, 3, 4] rfl ?_
    have := ih (i + 1) (by omega) (by omega)
    rw [← sp_fill_up _ _ _ _ h1] at this
    exact this
end SH
