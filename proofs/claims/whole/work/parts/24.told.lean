/-! small tests; what is told, on both sides -/
theorem bI_congr {p q : Prop} [Decidable p] [Decidable q] (h : p ↔ q) : bI p = bI q := by
  by_cases z : p
  · rw [bI_t z, bI_t (h.mp z)]
  · rw [bI_f z, bI_f (fun y => z (h.mpr y))]
theorem rng {x : Int32} {n : Nat} (hn : n < 2 ^ 31) (h : 0 ≤ x ∧ x ≤ nI n) : ∃ j : Nat, j ≤ n ∧ x = nI j := nI_of2 (nI_toInt hn) (Int32.not_lt.mpr h.1) h.2
theorem rng_in {j n : Nat} (h : j ≤ n) (hn : n < 2 ^ 31) : 0 ≤ nI j ∧ nI j ≤ nI n := ⟨nI_pos' (by omega), nI_le h hn⟩
theorem c_withinO32 (h : MH) (x lo hi : Int32) : MC M_O_within 0 0 0 [.long x.toInt64, .long lo.toInt64, .long hi.toInt64] h (some (.int (bI (lo ≤ x ∧ x ≤ hi)))) h := by
  have := c_withinO h x.toInt64 lo.toInt64 hi.toInt64
  rw [bI_congr (q := lo ≤ x ∧ x ≤ hi) (by rw [fa_wide_le, fa_wide_le])] at this
  exact this
theorem c_isKind (h : MH) (x : Int32) : MC M_C_isKind 1 0 0 [.int x] h (some (.int (bI (0 ≤ x ∧ x ≤ nI 5)))) h := by
  refine mc_of k1_C_isKind k2_C_isKind (Nat.le_of_ble_eq_true rfl) ?_
  repeat (refine mw_step rfl ?_)
  refine mw_call (c_within _ _ _ _) rfl rfl (Nat.le_of_ble_eq_true rfl) (Nat.le_refl _) (Nat.le_refl _) ?_
  exact mw_r1 rfl bI_nar (Nat.le_refl _) (Nat.le_refl _) rfl rfl
theorem c_isMark (h : MH) (x : Int32) : MC M_C_isMark 1 0 0 [.int x] h (some (.int (bI (0 ≤ x ∧ x ≤ nI 5)))) h := by
  refine mc_of k1_C_isMark k2_C_isMark (Nat.le_of_ble_eq_true rfl) ?_
  repeat (refine mw_step rfl ?_)
  refine mw_call (c_within _ _ _ _) rfl rfl (Nat.le_of_ble_eq_true rfl) (Nat.le_refl _) (Nat.le_refl _) ?_
  exact mw_r1 rfl bI_nar (Nat.le_refl _) (Nat.le_refl _) rfl rfl
theorem c_isTime (h : MH) (x : Int32) : MC M_C_isTime 1 0 0 [.int x] h (some (.int (bI (0 ≤ x ∧ x ≤ nI 29)))) h := by
  refine mc_of k1_C_isTime k2_C_isTime (Nat.le_of_ble_eq_true rfl) ?_
  repeat (refine mw_step rfl ?_)
  refine mw_call (c_within _ _ _ _) rfl rfl (Nat.le_of_ble_eq_true rfl) (Nat.le_refl _) (Nat.le_refl _) ?_
  exact mw_r1 rfl bI_nar (Nat.le_refl _) (Nat.le_refl _) rfl rfl
theorem c_isSet (h : MH) (x : Int32) : MC M_C_isSet 1 0 0 [.int x] h (some (.int (bI (0 ≤ x ∧ x ≤ nI 63)))) h := by
  refine mc_of k1_C_isSet k2_C_isSet (Nat.le_of_ble_eq_true rfl) ?_
  repeat (refine mw_step rfl ?_)
  refine mw_call (c_within _ _ _ _) rfl rfl (Nat.le_of_ble_eq_true rfl) (Nat.le_refl _) (Nat.le_refl _) ?_
  exact mw_r1 rfl bI_nar (Nat.le_refl _) (Nat.le_refl _) rfl rfl
theorem c_isShelf (h : MH) (x : Int32) : MC M_C_isShelf 1 0 0 [.int x] h (some (.int (bI (0 ≤ x ∧ x ≤ nI 5)))) h := by
  refine mc_of k1_C_isShelf k2_C_isShelf (Nat.le_of_ble_eq_true rfl) ?_
  repeat (refine mw_step rfl ?_)
  refine mw_call (c_within _ _ _ _) rfl rfl (Nat.le_of_ble_eq_true rfl) (Nat.le_refl _) (Nat.le_refl _) ?_
  exact mw_r1 rfl bI_nar (Nat.le_refl _) (Nat.le_refl _) rfl rfl
theorem c_hasBit (h : MH) (x y : Int32) : MC M_C_hasBit 0 0 0 [.int x, .int y] h (some (.int (bI ((x >>> (y &&& 31)) &&& 1 = 1)))) h := by
  refine mc_of k1_C_hasBit k2_C_hasBit (Nat.le_of_ble_eq_true rfl) ?_
  repeat (refine mw_step rfl ?_)
  refine mw_br rfl (fun h1 => ?_) (fun h1 => ?_)
  · repeat (refine mw_step rfl ?_)
    exact mw_r1 rfl rfl (Nat.le_refl _) (Nat.le_refl _) (by rw [bI_t h1]) rfl
  · repeat (refine mw_step rfl ?_)
    exact mw_r1 rfl rfl (Nat.le_refl _) (Nat.le_refl _) (by rw [bI_f h1]) rfl
theorem c_O_isKind (h : MH) (x : Int32) : MC M_O_isKind 1 0 0 [.int x] h (some (.int (bI (0 ≤ x ∧ x ≤ nI 5)))) h := by
  refine mc_of k1_O_isKind k2_O_isKind (Nat.le_of_ble_eq_true rfl) ?_
  repeat (refine mw_step rfl ?_)
  refine mw_call (c_withinO32 _ x 0 (nI 5)) rfl rfl (Nat.le_of_ble_eq_true rfl) (Nat.le_refl _) (Nat.le_refl _) ?_
  exact mw_r1 rfl bI_nar (Nat.le_refl _) (Nat.le_refl _) rfl rfl
theorem c_O_isMark (h : MH) (x : Int32) : MC M_O_isMark 1 0 0 [.int x] h (some (.int (bI (0 ≤ x ∧ x ≤ nI 5)))) h := by
  refine mc_of k1_O_isMark k2_O_isMark (Nat.le_of_ble_eq_true rfl) ?_
  repeat (refine mw_step rfl ?_)
  refine mw_call (c_withinO32 _ x 0 (nI 5)) rfl rfl (Nat.le_of_ble_eq_true rfl) (Nat.le_refl _) (Nat.le_refl _) ?_
  exact mw_r1 rfl bI_nar (Nat.le_refl _) (Nat.le_refl _) rfl rfl
theorem c_O_isShelf (h : MH) (x : Int32) : MC M_O_isShelf 1 0 0 [.int x] h (some (.int (bI (0 ≤ x ∧ x ≤ nI 5)))) h := by
  refine mc_of k1_O_isShelf k2_O_isShelf (Nat.le_of_ble_eq_true rfl) ?_
  repeat (refine mw_step rfl ?_)
  refine mw_call (c_withinO32 _ x 0 (nI 5)) rfl rfl (Nat.le_of_ble_eq_true rfl) (Nat.le_refl _) (Nat.le_refl _) ?_
  exact mw_r1 rfl bI_nar (Nat.le_refl _) (Nat.le_refl _) rfl rfl
section TO
variable {N : Nat} {sc : Nat × (Nat → Int32)} {x : XS} {m : OS} {tl : MH}
theorem n_ma (a b : Nat) : nI a * nI 6 + nI b = nI (a * 6 + b) := by rw [pk_mul, nI_add]
theorem c_T_get (a b : Nat) (hb : a * 6 + b < 24) : MC M_T_get 0 0 0 [.ref 6, .int (nI a), .int (nI b)] (heapN N sc x m tl) (some (.int (xT_now x (a * 6 + b)))) (heapN N sc x m tl) := by
  refine mc_of k1_T_get k2_T_get (Nat.le_of_ble_eq_true rfl) ?_
  repeat (refine mw_step rfl ?_)
  refine mw_brF rfl (by rw [show nI a * 6 + nI b = nI (a * 6 + b) from n_ma a b]; exact nI_pos (by omega)) ?_
  repeat (refine mw_step rfl ?_)
  refine mw_brT rfl (by rw [show nI a * 6 + nI b = nI (a * 6 + b) from n_ma a b]; exact n_lt (b := 24) (by omega) (by omega)) ?_
  repeat (refine mw_step rfl ?_)
  refine mw_ild rfl (n_ma a b) (by omega) (by decide) ?_
  repeat (refine mw_step rfl ?_)
  exact mw_r1 rfl trivial (Nat.le_refl _) (Nat.le_refl _) rfl rfl
theorem c_T_set (c : Nat) (v : Int32) (hc : c < 24) : MC M_T_set 0 0 0 [.ref 6, .int (nI c), .int v] (heapN N sc x m tl) none (heapN N sc (xT_now_s x (upd (xT_now x) c v)) m tl) := by
  refine mc_of k1_T_set k2_T_set (Nat.le_of_ble_eq_true rfl) ?_
  repeat (refine mw_step rfl ?_)
  refine mw_brF rfl (nI_pos (by omega)) ?_
  repeat (refine mw_step rfl ?_)
  refine mw_brT rfl (n_lt (b := 24) (by omega) (by omega)) ?_
  repeat (refine mw_step rfl ?_)
  refine mw_ist rfl (rfl) (by omega) (by decide) ?_
  exact mw_r0 rfl (Nat.le_refl _) (Nat.le_refl _) rfl rfl
def sp_drop (f : Nat → Int32) : Nat → Int32 := va_cpy f f 1 0 39
theorem c_T_drop : MC M_T_dropOldest 1 0 0 [.ref 6] (heapN N sc x m tl) none (heapN N sc (xT_s x (xT_now x, sp_drop (xT_cells x), sp_drop (xT_before x), sp_drop (xT_after x), nI 39, xT_kept x)) m tl) := by
  refine mc_of k1_T_dropOldest k2_T_dropOldest (Nat.le_of_ble_eq_true rfl) ?_
  repeat (refine mw_step rfl ?_)
  refine mw_cpyi (i0 := 8) (i1 := 8) (sp := 1) (dp := 0) (n := 39) rfl (by decide) rfl rfl (by decide) (by decide) (by decide) (by decide) (by decide) (by decide) (by decide) ?_
  repeat (refine mw_step rfl ?_)
  refine mw_cpyi (i0 := 9) (i1 := 9) (sp := 1) (dp := 0) (n := 39) rfl (by decide) rfl rfl (by decide) (by decide) (by decide) (by decide) (by decide) (by decide) (by decide) ?_
  repeat (refine mw_step rfl ?_)
  refine mw_cpyi (i0 := 10) (i1 := 10) (sp := 1) (dp := 0) (n := 39) rfl (by decide) rfl rfl (by decide) (by decide) (by decide) (by decide) (by decide) (by decide) (by decide) ?_
  repeat (refine mw_step rfl ?_)
  exact mw_r0 rfl (Nat.le_refl _) (Nat.le_refl _) rfl rfl
end TO
