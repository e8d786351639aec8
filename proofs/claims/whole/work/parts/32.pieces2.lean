/-! parts, marks, images as they are called -/
theorem tdiv_toInt (y : Int32) (d : Nat) (h0 : 1 < d) (hd : d < 2 ^ 31) : (y / nI d).toInt = y.toInt.tdiv d := by
  rw [Int32.toInt_div_of_ne_right _ _ (fun e => by
    have := congrArg Int32.toInt e
    rw [nI_toInt hd] at this
    have h2 : (-1 : Int32).toInt = -1 := rfl
    omega), nI_toInt hd]
theorem trem_toInt (y : Int32) (d : Nat) (h0 : 1 < d) (hd : d < 2 ^ 31) : (y - y / nI d * nI d).toInt = y.toInt.tmod d := by
  have h1 := tdiv_toInt y d h0 hd
  have b1 := Int32.toInt_lt y
  have b2 := Int32.le_toInt y
  have hm : y.toInt.tdiv d * d + y.toInt.tmod d = y.toInt := Int.tdiv_mul_add_tmod y.toInt d
  have hb : -(d : Int) < y.toInt.tmod d ∧ y.toInt.tmod d < d := tmod_bounds (by omega)
  have hs : 0 ≤ y.toInt → 0 ≤ y.toInt.tmod d := fun z => Int.tmod_nonneg _ z
  have hs2 : y.toInt ≤ 0 → y.toInt.tmod d ≤ 0 := fun z => by
    have e : y.toInt.tmod d = -((-y.toInt).tmod d) := by rw [Int.neg_tmod, Int.neg_neg]
    have := Int.tmod_nonneg (a := -y.toInt) d (by omega)
    omega
  have e1 : (y / nI d * nI d).toInt = y.toInt.tdiv d * d := by
    rw [Int32.toInt_mul, h1, nI_toInt hd]
    have hr : -2 ^ 31 ≤ y.toInt.tdiv d * d ∧ y.toInt.tdiv d * d < 2 ^ 31 := by
      rcases Int.le_total 0 y.toInt with z | z
      · have := hs z
        omega
      · have := hs2 z
        omega
    exact Int.bmod_eq_of_le (by omega) (by omega)
  rw [Int32.toInt_sub, e1]
  rw [show y.toInt - y.toInt.tdiv d * d = y.toInt.tmod d by omega]
  exact Int.bmod_eq_of_le (by omega) (by omega)
/-- below 0 either the quotient or the rest is below 0 -/
theorem dm_neg (y : Int32) (d : Nat) (h0 : 1 < d) (hd : d < 2 ^ 31) (hy : y < 0) : y / nI d < 0 ∨ y - y / nI d * nI d < 0 := by
  rw [Int32.lt_iff_toInt_lt, Int32.toInt_zero] at hy
  rw [Int32.lt_iff_toInt_lt, Int32.lt_iff_toInt_lt, Int32.toInt_zero, tdiv_toInt y d h0 hd, trem_toInt y d h0 hd]
  have hm : (d : Int) * y.toInt.tdiv d + y.toInt.tmod d = y.toInt := Int.mul_tdiv_add_tmod y.toInt d
  rcases Int.lt_or_le (y.toInt.tdiv d) 0 with z | z
  · exact Or.inl z
  · rcases Int.lt_or_le (y.toInt.tmod d) 0 with z2 | z2
    · exact Or.inr z2
    · have := Int.mul_nonneg (Int.natCast_nonneg d) z
      omega
section PK
variable {sc : Nat × (Nat → Int32)} {x : XS} {m : OS} {P : List PieceS}
theorem c_C_part_bad (wp : Int32) (h : ¬ (0 ≤ wp ∧ wp ≤ nI 99)) : MC M_C_part 3 2 1086 [.ref 5, .int wp] (heap sc x m P) (some (.int (-1))) (heap sc x m P) := by
  refine mc_of k1_C_part k2_C_part (Nat.le_of_ble_eq_true rfl) ?_
  unfold heap
  repeat (refine mw_step rfl ?_)
  refine mw_call (c_within _ _ _ _) rfl rfl (Nat.le_of_ble_eq_true rfl) (Nat.le_of_ble_eq_true rfl) (Nat.le_of_ble_eq_true rfl) ?_
  refine mw_brT rfl (bI_f h) ?_
  repeat (refine mw_step rfl ?_)
  exact mw_r1 rfl trivial (Nat.zero_le _) (Nat.zero_le _) rfl rfl
theorem c_C_part_full (wp : Int32) (h : 0 ≤ wp ∧ wp ≤ nI 99) (h8 : P.length = 8) : MC M_C_part 3 2 1086 [.ref 5, .int wp] (heap sc x m P) (some (.int (-3))) (heap sc x m P) := by
  refine mc_of k1_C_part k2_C_part (Nat.le_of_ble_eq_true rfl) ?_
  unfold heap
  repeat (refine mw_step rfl ?_)
  refine mw_call (c_within _ _ _ _) rfl rfl (Nat.le_of_ble_eq_true rfl) (Nat.le_of_ble_eq_true rfl) (Nat.le_of_ble_eq_true rfl) ?_
  refine mw_brF rfl (bI_ne h) ?_
  repeat (refine mw_step rfl ?_)
  refine mw_brF rfl (by rw [h8]; decide) ?_
  repeat (refine mw_step rfl ?_)
  exact mw_r1 rfl trivial (Nat.zero_le _) (Nat.zero_le _) rfl rfl
theorem c_C_part (wp : Int32) (h : 0 ≤ wp ∧ wp ≤ nI 99) (h8 : P.length < 8) : MC M_C_part 3 2 1086 [.ref 5, .int wp] (heap sc x m P) (some (.int (nI P.length))) (heap sc x m (P ++ [p0 (wp / 10) (wp - wp / 10 * 10)])) := by
  refine mc_of k1_C_part k2_C_part (Nat.le_of_ble_eq_true rfl) ?_
  unfold heap
  repeat (refine mw_step rfl ?_)
  refine mw_call (c_within _ _ _ _) rfl rfl (Nat.le_of_ble_eq_true rfl) (Nat.le_of_ble_eq_true rfl) (Nat.le_of_ble_eq_true rfl) ?_
  refine mw_brF rfl (bI_ne h) ?_
  repeat (refine mw_step rfl ?_)
  refine mw_brT rfl (n_lt (b := 8) h8 (by omega)) ?_
  repeat (refine mw_step rfl ?_)
  refine mw_div rfl (by decide) ?_
  repeat (refine mw_step rfl ?_)
  refine mw_div rfl (by decide) ?_
  refine mw_call (c_addPiece (sc := sc) (x := x) (m := m) P h8 (wp / 10) (wp - wp / 10 * 10)) rfl rfl (Nat.le_of_ble_eq_true rfl) (Nat.le_of_ble_eq_true rfl) (Nat.le_of_ble_eq_true rfl) ?_
  unfold heap
  repeat (refine mw_step rfl ?_)
  exact mw_r1 rfl trivial (Nat.le_of_ble_eq_true rfl) (Nat.le_of_ble_eq_true rfl) (by rw [List.length_append, List.length_singleton, nI_pred]) rfl
theorem l_O_adds {N : Nat} {tl : MH} {v : Option Value} {hT : MH} (n : Nat) (hn : n < 8) (hp : zp_parts m = nI n) (w pl : Int32) (f0 : Nat → Int32) (K : MW M_O_adds 0 0 0 v hT 0 0 49 [(0, .ref 39)] [] (heapN N sc x (zp_found_s m (fun q => if 6 * n ≤ q ∧ q < 6 * n + 6 then 0 else f0 q)) tl)) : ∀ r k, k + r = 6 → MW M_O_adds 0 0 0 v hT 0 0 22 [(0, .ref 39), (1, .int w), (2, .int pl), (3, .int (nI k))] [] (heapN N sc x (zp_found_s m (fun q => if 6 * n ≤ q ∧ q < 6 * n + k then 0 else f0 q)) tl) := by
  intro r
  induction r with
  | zero =>
    intro k hk
    rw [show k = 6 by omega]
    repeat (refine mw_step rfl ?_)
    refine mw_brF rfl (by decide) ?_
    refine mw_pick [0] rfl ?_
    exact K
  | succ r ih =>
    intro k hk
    repeat (refine mw_step rfl ?_)
    refine mw_brT rfl (n_lt (b := 6) (by omega) (by omega)) ?_
    repeat (refine mw_step rfl ?_)
    rw [show zp_parts (zp_found_s m (fun q => if 6 * n ≤ q ∧ q < 6 * n + k then 0 else f0 q)) = nI n from hp]
    refine mw_ist rfl (show (6 : Int32) * nI n + nI k = nI (6 * n + k) by rw [show (6 : Int32) = nI 6 from rfl, pk_mul, nI_add]) (by omega) (by decide) ?_
    repeat (refine mw_to 22 rfl rfl ?_)
    rw [nI_1]
    refine mw_pick [0, 1, 2, 3] rfl ?_
    have e : upd (fun q => if 6 * n ≤ q ∧ q < 6 * n + k then 0 else f0 q) (6 * n + k) 0 = fun q => if 6 * n ≤ q ∧ q < 6 * n + (k + 1) then 0 else f0 q := by
      funext q
      unfold upd
      by_cases h1 : q = 6 * n + k
      · rw [if_pos h1, if_pos (by omega)]
      · rw [if_neg h1]
        show (if 6 * n ≤ q ∧ q < 6 * n + k then (0 : Int32) else f0 q) = _
        by_cases h2 : 6 * n ≤ q ∧ q < 6 * n + k
        · rw [if_pos h2, if_pos (by omega)]
        · rw [if_neg h2, if_neg (by omega)]
    have := ih (k + 1) (by omega)
    rw [← e] at this
    exact this
def sp_adds (a : zpS) (n : Nat) (w pl : Int32) : zpS := (nI (n + 1), upd a.2.1 n w, upd a.2.2.1 n pl, fun q => if 6 * n ≤ q ∧ q < 6 * n + 6 then 0 else a.2.2.2 q)
abbrev gP (m : OS) : zpS := m.2.1
theorem c_O_adds {N : Nat} {tl : MH} (n : Nat) (hn : n < 8) (hp : zp_parts m = nI n) (w pl : Int32) : MC M_O_adds 0 0 0 [.ref 39, .int w, .int pl] (heapN N sc x m tl) none (heapN N sc x (zp_s m (sp_adds (gP m) n w pl)) tl) := by
  refine mc_of k1_O_adds k2_O_adds (Nat.le_of_ble_eq_true rfl) ?_
  repeat (refine mw_step rfl ?_)
  refine mw_ist rfl (hp) (by omega) (by decide) ?_
  repeat (refine mw_step rfl ?_)
  refine mw_ist rfl (hp) (by omega) (by decide) ?_
  repeat (refine mw_to 22 rfl rfl ?_)
  refine mw_pick [0, 1, 2, 3] rfl ?_
  have L := l_O_adds (N := N) (sc := sc) (x := x) (tl := tl) (m := zp_s m (zp_parts m, upd (zp_wood m) n w, upd (zp_place m) n pl, zp_found m)) (v := none) (hT := heapN N sc x (zp_s m (sp_adds (gP m) n w pl)) tl) n hn hp w pl (zp_found m) (by
    repeat (refine mw_step rfl ?_)
    exact mw_r0 rfl (Nat.le_refl _) (Nat.le_refl _) rfl (by rw [sp_adds, ← nI_1, ← hp]; rfl)) 6 0 (by omega)
  rw [show (fun q => if 6 * n ≤ q ∧ q < 6 * n + 0 then 0 else zp_found m q) = zp_found m from funext fun q => if_neg (by omega)] at L
  exact L
theorem c_O_part_bad {N : Nat} {tl : MH} (wp : Int32) (h : ¬ (0 ≤ wp ∧ wp ≤ nI 99)) : MC M_O_part 1 0 0 [.ref 39, .int wp] (heapN N sc x m tl) (some (.int (-1))) (heapN N sc x m tl) := by
  refine mc_of k1_O_part k2_O_part (Nat.le_of_ble_eq_true rfl) ?_
  repeat (refine mw_step rfl ?_)
  refine mw_call (c_withinO32 _ wp 0 (nI 99)) rfl rfl (Nat.le_of_ble_eq_true rfl) (Nat.le_refl _) (Nat.le_refl _) ?_
  refine mw_brT rfl (bI_f h) ?_
  repeat (refine mw_step rfl ?_)
  exact mw_r1 rfl trivial (Nat.le_refl _) (Nat.le_refl _) rfl rfl
theorem c_O_part_full {N : Nat} {tl : MH} (wp : Int32) (h : 0 ≤ wp ∧ wp ≤ nI 99) (hp : zp_parts m = nI 8) : MC M_O_part 1 0 0 [.ref 39, .int wp] (heapN N sc x m tl) (some (.int (-3))) (heapN N sc x m tl) := by
  refine mc_of k1_O_part k2_O_part (Nat.le_of_ble_eq_true rfl) ?_
  repeat (refine mw_step rfl ?_)
  refine mw_call (c_withinO32 _ wp 0 (nI 99)) rfl rfl (Nat.le_of_ble_eq_true rfl) (Nat.le_refl _) (Nat.le_refl _) ?_
  refine mw_brF rfl (bI_ne h) ?_
  repeat (refine mw_step rfl ?_)
  refine mw_brT rfl (by rw [hp]; rfl) ?_
  repeat (refine mw_step rfl ?_)
  exact mw_r1 rfl trivial (Nat.le_refl _) (Nat.le_refl _) rfl rfl
theorem c_O_part {N : Nat} {tl : MH} (wp : Int32) (h : 0 ≤ wp ∧ wp ≤ nI 99) (n : Nat) (hn : n < 8) (hp : zp_parts m = nI n) : MC M_O_part 1 0 0 [.ref 39, .int wp] (heapN N sc x m tl) (some (.int (nI n))) (heapN N sc x (zp_s m (sp_adds (gP m) n (wp / 10) (wp - wp / 10 * 10))) tl) := by
  refine mc_of k1_O_part k2_O_part (Nat.le_of_ble_eq_true rfl) ?_
  repeat (refine mw_step rfl ?_)
  refine mw_call (c_withinO32 _ wp 0 (nI 99)) rfl rfl (Nat.le_of_ble_eq_true rfl) (Nat.le_refl _) (Nat.le_refl _) ?_
  refine mw_brF rfl (bI_ne h) ?_
  repeat (refine mw_step rfl ?_)
  refine mw_brF rfl (by rw [hp]; intro e; have := (nI_eq (by omega) (b := 8) (by omega)).mp e; omega) ?_
  repeat (refine mw_step rfl ?_)
  refine mw_div rfl (by decide) ?_
  repeat (refine mw_step rfl ?_)
  refine mw_div rfl (by decide) ?_
  refine mw_call (c_O_adds n hn hp _ _) rfl rfl (Nat.le_of_ble_eq_true rfl) (Nat.le_refl _) (Nat.le_refl _) ?_
  repeat (refine mw_step rfl ?_)
  exact mw_r1 rfl trivial (Nat.le_refl _) (Nat.le_refl _) (by rw [show zp_parts (zp_s m (sp_adds (gP m) n (wp / 10) (wp - wp / 10 * 10))) = nI (n + 1) from rfl, nI_pred]) rfl
end PK
