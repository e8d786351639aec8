/-! of, image, back, count -/
def sp_told (now : Nat → Int32) (n what : Int32) : Int32 := if 0 ≤ n ∧ n ≤ nI 5 then (if what = 20 then now n.toNatClampNeg else if what = 21 then now (6 + n.toNatClampNeg) else if what = 30 then now (12 + n.toNatClampNeg) else if what = 31 then now (18 + n.toNatClampNeg) else -1) else -1
def sp_pcv (p : PieceS) (what : Int32) : Int32 := if what = 0 then i_wood p else if what = 1 then i_place p else if 10 ≤ what ∧ what ≤ 15 then sp_found (i_looked p) (i_there p) (what - 10) else -1
theorem n_ti {y : Int32} {k : Int} (z : Int32) (hz : z.toInt = k) (h : ¬ y = z) : ¬ k = y.toInt := fun e => h (Int32.toInt_inj.mp (by rw [hz]; exact e.symm))
section OF
variable {sc : Nat × (Nat → Int32)} {x : XS} {m : OS} {P : List PieceS} {N : Nat} {tl : MH}
theorem c_C_numberTold (n what : Int32) : MC M_C_numberTold 1 0 0 [.ref 5, .int n, .int what] (heapN N sc x m tl) (some (.int (sp_told (xT_now x) n what))) (heapN N sc x m tl) := by
  refine mc_of k1_C_numberTold k2_C_numberTold (Nat.le_of_ble_eq_true rfl) ?_
  repeat (refine mw_step rfl ?_)
  refine mw_call (c_within _ _ _ _) rfl rfl (Nat.le_of_ble_eq_true rfl) (Nat.le_refl _) (Nat.le_refl _) ?_
  refine mw_br rfl (fun h1 => ?_) (fun h1 => ?_)
  · repeat (refine mw_step rfl ?_)
    exact mw_r1 rfl trivial (Nat.le_refl _) (Nat.le_refl _) (by rw [sp_told, if_neg (show ¬ (0 ≤ n ∧ n ≤ nI 5) from bI_0.mp h1)]) rfl
  · have h1 : 0 ≤ n ∧ n ≤ nI 5 := bI_of h1
    obtain ⟨b, hb, rfl⟩ := rng (n := 5) (by decide) h1
    rw [sp_told, if_pos h1, nI_clamp (by omega)]
    repeat (refine mw_step rfl ?_)
    by_cases h2 : what = 20
    · subst h2
      refine mw_sw (t := 56) rfl ?_
      repeat (refine mw_step rfl ?_)
      refine mw_call (c_T_get 0 b (by omega)) rfl rfl (Nat.le_of_ble_eq_true rfl) (Nat.le_refl _) (Nat.le_refl _) ?_
      exact mw_r1 rfl trivial (Nat.le_refl _) (Nat.le_refl _) (by rw [if_pos rfl, show 0 * 6 + b = b by omega]) rfl
    · rw [if_neg h2]
      by_cases h3 : what = 21
      · subst h3
        refine mw_sw (t := 66) rfl ?_
        repeat (refine mw_step rfl ?_)
        refine mw_call (c_T_get 1 b (by omega)) rfl rfl (Nat.le_of_ble_eq_true rfl) (Nat.le_refl _) (Nat.le_refl _) ?_
        exact mw_r1 rfl trivial (Nat.le_refl _) (Nat.le_refl _) (by rw [if_pos rfl, show 1 * 6 + b = 6 + b by omega]) rfl
      · rw [if_neg h3]
        by_cases h4 : what = 30
        · subst h4
          refine mw_sw (t := 76) rfl ?_
          repeat (refine mw_step rfl ?_)
          refine mw_call (c_T_get 2 b (by omega)) rfl rfl (Nat.le_of_ble_eq_true rfl) (Nat.le_refl _) (Nat.le_refl _) ?_
          exact mw_r1 rfl trivial (Nat.le_refl _) (Nat.le_refl _) (by rw [if_pos rfl, show 2 * 6 + b = 12 + b by omega]) rfl
        · rw [if_neg h4]
          by_cases h5 : what = 31
          · subst h5
            refine mw_sw (t := 86) rfl ?_
            repeat (refine mw_step rfl ?_)
            refine mw_call (c_T_get 3 b (by omega)) rfl rfl (Nat.le_of_ble_eq_true rfl) (Nat.le_refl _) (Nat.le_refl _) ?_
            exact mw_r1 rfl trivial (Nat.le_refl _) (Nat.le_refl _) (by rw [if_pos rfl, show 3 * 6 + b = 18 + b by omega]) rfl
          · rw [if_neg h5]
            refine mw_sw (t := 96) ?_ ?_
            · show some ((12 : Int) + Op.lookupswitch.offset [(20, 44), (21, 54), (30, 64), (31, 74)] 84 what.toInt) = some 96
              rw [Op.lookupswitch.offset_cons, if_neg (n_ti (k := 20) 20 rfl h2), Op.lookupswitch.offset_cons, if_neg (n_ti (k := 21) 21 rfl h3), Op.lookupswitch.offset_cons, if_neg (n_ti (k := 30) 30 rfl h4), Op.lookupswitch.offset_cons, if_neg (n_ti (k := 31) 31 rfl h5)]
              rfl
            · repeat (refine mw_step rfl ?_)
              exact mw_r1 rfl trivial (Nat.le_refl _) (Nat.le_refl _) rfl rfl
theorem c_C_of_told (n what : Int32) (h : ¬ what < 20) : MC M_C_of 2 0 0 [.ref 5, .int n, .int what] (heapN N sc x m tl) (some (.int (sp_told (xT_now x) n what))) (heapN N sc x m tl) := by
  refine mc_of k1_C_of k2_C_of (Nat.le_of_ble_eq_true rfl) ?_
  repeat (refine mw_step rfl ?_)
  refine mw_brF rfl (h) ?_
  repeat (refine mw_step rfl ?_)
  refine mw_call (c_C_numberTold n what) rfl rfl (Nat.le_of_ble_eq_true rfl) (Nat.le_refl _) (Nat.le_refl _) ?_
  exact mw_r1 rfl trivial (Nat.le_refl _) (Nat.le_refl _) rfl rfl
theorem c_C_of_null (n what : Int32) (h : what < 20) (hN : N ≤ 8) (hn : ¬ ∃ j, j < N ∧ n = nI j) : MC M_C_of 2 0 0 [.ref 5, .int n, .int what] (heapN N sc x m tl) (some (.int (-1))) (heapN N sc x m tl) := by
  refine mc_of k1_C_of k2_C_of (Nat.le_of_ble_eq_true rfl) ?_
  repeat (refine mw_step rfl ?_)
  refine mw_brT rfl (h) ?_
  repeat (refine mw_step rfl ?_)
  refine mw_call (c_pieceAt_bad n hN hn) rfl rfl (Nat.le_of_ble_eq_true rfl) (Nat.le_refl _) (Nat.le_refl _) ?_
  repeat (refine mw_step rfl ?_)
  exact mw_r1 rfl trivial (Nat.le_refl _) (Nat.le_refl _) rfl rfl
theorem c_C_of_pc (h8 : P.length ≤ 8) (k : Nat) (p : PieceS) (hp : P[k]? = some p) (what : Int32) (h : what < 20) : MC M_C_of 2 0 0 [.ref 5, .int (nI k), .int what] (heap sc x m P) (some (.int (sp_pcv p what))) (heap sc x m P) := by
  have hk : k < P.length := (List.getElem?_eq_some_iff.mp hp).1
  have hi := (heap_get (sc := sc) (x := x) (m := m) hp).1
  refine mc_of k1_C_of k2_C_of (Nat.le_of_ble_eq_true rfl) ?_
  unfold heap at hi ⊢
  repeat (refine mw_step rfl ?_)
  refine mw_brT rfl (h) ?_
  repeat (refine mw_step rfl ?_)
  refine mw_call (c_pieceAt k h8 hk) rfl rfl (Nat.le_of_ble_eq_true rfl) (Nat.le_refl _) (Nat.le_refl _) ?_
  repeat (refine mw_step rfl ?_)
  unfold sp_pcv
  refine mw_br rfl (fun h1 => ?_) (fun h1 => ?_)
  · repeat (refine mw_step rfl ?_)
    refine mw_getf rfl hi (by omega) rfl ?_
    exact mw_r1 rfl trivial (Nat.le_refl _) (Nat.le_refl _) (by rw [if_pos h1]) rfl
  · repeat (refine mw_step rfl ?_)
    rw [if_neg h1]
    refine mw_br rfl (fun h2 => ?_) (fun h2 => ?_)
    · repeat (refine mw_step rfl ?_)
      refine mw_getf rfl hi (by omega) rfl ?_
      exact mw_r1 rfl trivial (Nat.le_refl _) (Nat.le_refl _) (by rw [if_pos h2]) rfl
    · rw [if_neg h2]
      repeat (refine mw_step rfl ?_)
      refine mw_call (c_within _ _ _ _) rfl rfl (Nat.le_of_ble_eq_true rfl) (Nat.le_refl _) (Nat.le_refl _) ?_
      refine mw_br rfl (fun h3 => ?_) (fun h3 => ?_)
      · repeat (refine mw_step rfl ?_)
        exact mw_r1 rfl trivial (Nat.le_refl _) (Nat.le_refl _) (by rw [if_neg (bI_0.mp h3)]) rfl
      · repeat (refine mw_step rfl ?_)
        refine mw_callP (c_I_foundOf hi (by omega) (what - 10)) rfl rfl hi (by omega) rfl (Nat.le_of_ble_eq_true rfl) (Nat.le_refl _) (Nat.le_refl _) ?_
        repeat (refine mw_step rfl ?_)
        exact mw_r1 rfl trivial (Nat.le_refl _) (Nat.le_refl _) (by rw [if_pos (bI_of h3)]) rfl
theorem c_O_of_told (n what : Int32) (h : ¬ what < 20) : MC M_O_of 2 0 0 [.ref 39, .int n, .int what] (heapN N sc x m tl) (some (.int (sp_told (za_may m) n what))) (heapN N sc x m tl) := by
  refine mc_of k1_O_of k2_O_of (Nat.le_of_ble_eq_true rfl) ?_
  repeat (refine mw_step rfl ?_)
  refine mw_call (c_withinO32 _ what 0 1) rfl rfl (Nat.le_of_ble_eq_true rfl) (Nat.le_refl _) (Nat.le_refl _) ?_
  refine mw_brT rfl (bI_f (fun z => h (by have := z.2; rw [Int32.le_iff_toInt_le] at this; rw [Int32.lt_iff_toInt_lt]; exact Int.lt_of_le_of_lt this (by decide)))) ?_
  repeat (refine mw_step rfl ?_)
  refine mw_call (c_withinO32 _ what 10 15) rfl rfl (Nat.le_of_ble_eq_true rfl) (Nat.le_refl _) (Nat.le_refl _) ?_
  refine mw_brT rfl (bI_f (fun z => h (by have := z.2; rw [Int32.le_iff_toInt_le] at this; rw [Int32.lt_iff_toInt_lt]; exact Int.lt_of_le_of_lt this (by decide)))) ?_
  repeat (refine mw_step rfl ?_)
  refine mw_call (c_withinO32 _ what 20 21) rfl rfl (Nat.le_of_ble_eq_true rfl) (Nat.le_refl _) (Nat.le_refl _) ?_
  refine mw_br rfl (fun h1 => ?_) (fun h1 => ?_)
  · repeat (refine mw_step rfl ?_)
    refine mw_call (c_withinO32 _ what 30 31) rfl rfl (Nat.le_of_ble_eq_true rfl) (Nat.le_refl _) (Nat.le_refl _) ?_
    have n1 : ¬ what = 20 := fun e => bI_0.mp h1 (by rw [e]; decide)
    have n2 : ¬ what = 21 := fun e => bI_0.mp h1 (by rw [e]; decide)
    refine mw_br rfl (fun h2 => ?_) (fun h2 => ?_)
    · repeat (refine mw_step rfl ?_)
      have n3 : ¬ what = 30 := fun e => bI_0.mp h2 (by rw [e]; decide)
      have n4 : ¬ what = 31 := fun e => bI_0.mp h2 (by rw [e]; decide)
      exact mw_r1 rfl trivial (Nat.le_refl _) (Nat.le_refl _) (by rw [sp_told, if_neg n1, if_neg n2, if_neg n3, if_neg n4]; split <;> rfl) rfl
    · repeat (refine mw_step rfl ?_)
      refine mw_call (c_O_isMark _ _) rfl rfl (Nat.le_of_ble_eq_true rfl) (Nat.le_refl _) (Nat.le_refl _) ?_
      refine mw_br rfl (fun h3 => ?_) (fun h3 => ?_)
      · repeat (refine mw_step rfl ?_)
        exact mw_r1 rfl trivial (Nat.le_refl _) (Nat.le_refl _) (by rw [sp_told, if_neg (bI_0.mp h3)]) rfl
      · have h3 := bI_of h3
        obtain ⟨b, hb, rfl⟩ := rng (n := 5) (by decide) h3
        rw [sp_told, if_pos h3, if_neg n1, if_neg n2, nI_clamp (by omega)]
        have h2 := bI_of h2
        rcases (show what = 30 ∨ what = 31 by
          rw [Int32.le_iff_toInt_le, Int32.le_iff_toInt_le, show (30 : Int32).toInt = 30 from rfl, show (31 : Int32).toInt = 31 from rfl] at h2
          rw [← Int32.toInt_inj, ← Int32.toInt_inj, show (30 : Int32).toInt = 30 from rfl, show (31 : Int32).toInt = 31 from rfl]
          omega) with rfl | rfl
        · repeat (refine mw_step rfl ?_)
          refine mw_ild rfl (show (12 : Int32) + 6 * (30 - 30) + nI b = nI (12 + b) from nI_add 12 b) (by omega) (by decide) ?_
          repeat (refine mw_step rfl ?_)
          exact mw_r1 rfl trivial (Nat.le_refl _) (Nat.le_refl _) (by rw [if_pos rfl]) rfl
        · repeat (refine mw_step rfl ?_)
          refine mw_ild rfl (show (12 : Int32) + 6 * (31 - 30) + nI b = nI (18 + b) from nI_add 18 b) (by omega) (by decide) ?_
          repeat (refine mw_step rfl ?_)
          exact mw_r1 rfl trivial (Nat.le_refl _) (Nat.le_refl _) (by rw [if_neg (by decide), if_pos rfl]) rfl
  · repeat (refine mw_step rfl ?_)
    refine mw_call (c_O_isKind _ _) rfl rfl (Nat.le_of_ble_eq_true rfl) (Nat.le_refl _) (Nat.le_refl _) ?_
    refine mw_br rfl (fun h3 => ?_) (fun h3 => ?_)
    · repeat (refine mw_step rfl ?_)
      exact mw_r1 rfl trivial (Nat.le_refl _) (Nat.le_refl _) (by rw [sp_told, if_neg (bI_0.mp h3)]) rfl
    · have h3 := bI_of h3
      obtain ⟨b, hb, rfl⟩ := rng (n := 5) (by decide) h3
      rw [sp_told, if_pos h3, nI_clamp (by omega)]
      have h1 := bI_of h1
      rcases (show what = 20 ∨ what = 21 by
        rw [Int32.le_iff_toInt_le, Int32.le_iff_toInt_le, show (20 : Int32).toInt = 20 from rfl, show (21 : Int32).toInt = 21 from rfl] at h1
        rw [← Int32.toInt_inj, ← Int32.toInt_inj, show (20 : Int32).toInt = 20 from rfl, show (21 : Int32).toInt = 21 from rfl]
        omega) with rfl | rfl
      · repeat (refine mw_step rfl ?_)
        refine mw_ild rfl (show (6 : Int32) * (20 - 20) + nI b = nI (0 + b) from nI_add 0 b) (by omega) (by decide) ?_
        repeat (refine mw_step rfl ?_)
        exact mw_r1 rfl trivial (Nat.le_refl _) (Nat.le_refl _) (by rw [if_pos rfl, Nat.zero_add]) rfl
      · repeat (refine mw_step rfl ?_)
        refine mw_ild rfl (show (6 : Int32) * (21 - 20) + nI b = nI (6 + b) from nI_add 6 b) (by omega) (by decide) ?_
        repeat (refine mw_step rfl ?_)
        exact mw_r1 rfl trivial (Nat.le_refl _) (Nat.le_refl _) (by rw [if_neg (by decide), if_pos rfl]) rfl
def sp_pcO (w pl fo : Nat → Int32) (k : Nat) (what : Int32) : Int32 := if what = 0 then w k else if what = 1 then pl k else if 10 ≤ what ∧ what ≤ 15 then fo (6 * k + (what.toNatClampNeg - 10)) else -1
theorem n_01 (what : Int32) : (0 ≤ what ∧ what ≤ 1) ↔ (what = 0 ∨ what = 1) := by
  rw [Int32.le_iff_toInt_le, Int32.le_iff_toInt_le, ← Int32.toInt_inj, ← Int32.toInt_inj, show (0 : Int32).toInt = 0 from rfl, show (1 : Int32).toInt = 1 from rfl]
  omega
theorem c_O_of_null (n what : Int32) (h : what < 20) (hn : ¬ (0 ≤ n ∧ n ≤ zp_parts m - 1)) : MC M_O_of 2 0 0 [.ref 39, .int n, .int what] (heapN N sc x m tl) (some (.int (-1))) (heapN N sc x m tl) := by
  refine mc_of k1_O_of k2_O_of (Nat.le_of_ble_eq_true rfl) ?_
  repeat (refine mw_step rfl ?_)
  refine mw_call (c_withinO32 _ what 0 1) rfl rfl (Nat.le_of_ble_eq_true rfl) (Nat.le_refl _) (Nat.le_refl _) ?_
  refine mw_br rfl (fun h1 => ?_) (fun h1 => ?_)
  · repeat (refine mw_step rfl ?_)
    refine mw_call (c_withinO32 _ what 10 15) rfl rfl (Nat.le_of_ble_eq_true rfl) (Nat.le_refl _) (Nat.le_refl _) ?_
    refine mw_br rfl (fun h2 => ?_) (fun h2 => ?_)
    · repeat (refine mw_step rfl ?_)
      refine mw_call (c_withinO32 _ what 20 21) rfl rfl (Nat.le_of_ble_eq_true rfl) (Nat.le_refl _) (Nat.le_refl _) ?_
      refine mw_brT rfl (bI_f (fun z => m_nlt z.1 h)) ?_
      repeat (refine mw_step rfl ?_)
      refine mw_call (c_withinO32 _ what 30 31) rfl rfl (Nat.le_of_ble_eq_true rfl) (Nat.le_refl _) (Nat.le_refl _) ?_
      refine mw_brT rfl (bI_f (fun z => by have := z.1; rw [Int32.le_iff_toInt_le, show (30 : Int32).toInt = 30 from rfl] at this; rw [Int32.lt_iff_toInt_lt, show (20 : Int32).toInt = 20 from rfl] at h; omega)) ?_
      repeat (refine mw_step rfl ?_)
      exact mw_r1 rfl trivial (Nat.le_refl _) (Nat.le_refl _) rfl rfl
    · repeat (refine mw_step rfl ?_)
      refine mw_call (c_O_isPart _) rfl rfl (Nat.le_of_ble_eq_true rfl) (Nat.le_refl _) (Nat.le_refl _) ?_
      refine mw_brT rfl (bI_f hn) ?_
      repeat (refine mw_step rfl ?_)
      exact mw_r1 rfl trivial (Nat.le_refl _) (Nat.le_refl _) rfl rfl
  · repeat (refine mw_step rfl ?_)
    refine mw_call (c_O_isPart _) rfl rfl (Nat.le_of_ble_eq_true rfl) (Nat.le_refl _) (Nat.le_refl _) ?_
    refine mw_brT rfl (bI_f hn) ?_
    repeat (refine mw_step rfl ?_)
    exact mw_r1 rfl trivial (Nat.le_refl _) (Nat.le_refl _) rfl rfl
theorem c_O_of_pc (k : Nat) (hk : k < 8) (hn : 0 ≤ nI k ∧ nI k ≤ zp_parts m - 1) (what : Int32) (h : what < 20) : MC M_O_of 2 0 0 [.ref 39, .int (nI k), .int what] (heapN N sc x m tl) (some (.int (sp_pcO (zp_wood m) (zp_place m) (zp_found m) k what))) (heapN N sc x m tl) := by
  refine mc_of k1_O_of k2_O_of (Nat.le_of_ble_eq_true rfl) ?_
  repeat (refine mw_step rfl ?_)
  refine mw_call (c_withinO32 _ what 0 1) rfl rfl (Nat.le_of_ble_eq_true rfl) (Nat.le_refl _) (Nat.le_refl _) ?_
  refine mw_br rfl (fun h1 => ?_) (fun h1 => ?_)
  · have h1 := bI_0.mp h1
    rw [n_01] at h1
    have n1 : ¬ what = 0 := fun e => h1 (Or.inl e)
    have n2 : ¬ what = 1 := fun e => h1 (Or.inr e)
    rw [sp_pcO, if_neg n1, if_neg n2]
    repeat (refine mw_step rfl ?_)
    refine mw_call (c_withinO32 _ what 10 15) rfl rfl (Nat.le_of_ble_eq_true rfl) (Nat.le_refl _) (Nat.le_refl _) ?_
    refine mw_br rfl (fun h2 => ?_) (fun h2 => ?_)
    · rw [if_neg (bI_0.mp h2)]
      repeat (refine mw_step rfl ?_)
      refine mw_call (c_withinO32 _ what 20 21) rfl rfl (Nat.le_of_ble_eq_true rfl) (Nat.le_refl _) (Nat.le_refl _) ?_
      refine mw_brT rfl (bI_f (fun z => m_nlt z.1 h)) ?_
      repeat (refine mw_step rfl ?_)
      refine mw_call (c_withinO32 _ what 30 31) rfl rfl (Nat.le_of_ble_eq_true rfl) (Nat.le_refl _) (Nat.le_refl _) ?_
      refine mw_brT rfl (bI_f (fun z => by have := z.1; rw [Int32.le_iff_toInt_le, show (30 : Int32).toInt = 30 from rfl] at this; rw [Int32.lt_iff_toInt_lt, show (20 : Int32).toInt = 20 from rfl] at h; omega)) ?_
      repeat (refine mw_step rfl ?_)
      exact mw_r1 rfl trivial (Nat.le_refl _) (Nat.le_refl _) rfl rfl
    · have h2 := bI_of h2
      rw [if_pos h2]
      obtain ⟨b, hb, rfl⟩ := rng (n := 15) (x := what) (by decide) ⟨by have := h2.1; rw [Int32.le_iff_toInt_le] at this ⊢; exact Int.le_trans (by decide) this, h2.2⟩
      have hb2 : 10 ≤ b := by
        have := h2.1
        rw [Int32.le_iff_toInt_le, nI_toInt (by omega), show (10 : Int32).toInt = 10 from rfl] at this
        omega
      rw [nI_clamp (by omega)]
      repeat (refine mw_step rfl ?_)
      refine mw_call (c_O_isPart _) rfl rfl (Nat.le_of_ble_eq_true rfl) (Nat.le_refl _) (Nat.le_refl _) ?_
      refine mw_brF rfl (bI_ne hn) ?_
      repeat (refine mw_step rfl ?_)
      refine mw_ild rfl (show (6 : Int32) * nI k + nI b - 10 = nI (6 * k + (b - 10)) by rw [show (6 : Int32) = nI 6 from rfl, show (10 : Int32) = nI 10 from rfl, pk_mul, nI_add, pk_sub (by omega), show 6 * k + b - 10 = 6 * k + (b - 10) by omega]) (by omega) (by decide) ?_
      repeat (refine mw_step rfl ?_)
      exact mw_r1 rfl trivial (Nat.le_refl _) (Nat.le_refl _) rfl rfl
  · have h1 := bI_of h1
    rw [n_01] at h1
    repeat (refine mw_step rfl ?_)
    refine mw_call (c_O_isPart _) rfl rfl (Nat.le_of_ble_eq_true rfl) (Nat.le_refl _) (Nat.le_refl _) ?_
    refine mw_brF rfl (bI_ne hn) ?_
    repeat (refine mw_step rfl ?_)
    rw [sp_pcO]
    refine mw_br rfl (fun h2 => ?_) (fun h2 => ?_)
    · repeat (refine mw_step rfl ?_)
      refine mw_ild rfl (rfl) (by omega) (by decide) ?_
      repeat (refine mw_step rfl ?_)
      exact mw_r1 rfl trivial (Nat.le_refl _) (Nat.le_refl _) (by rw [if_pos h2]) rfl
    · repeat (refine mw_step rfl ?_)
      refine mw_ild rfl (rfl) (by omega) (by decide) ?_
      exact mw_r1 rfl trivial (Nat.le_refl _) (Nat.le_refl _) (by rw [if_neg h2, if_pos (h1.resolve_left h2)]) rfl
/-- images -/
def pz : PieceS := (0, 0, 0, 0, 0, fun _ => 0)
def sp_kl (P : List PieceS) (f : Nat → Int32) (g : PieceS → Int32) (t : Nat) : Nat → Int32 := fun j => if j < t then g (P.getD j pz) else f j
theorem sp_kl_0 (P : List PieceS) (f : Nat → Int32) (g : PieceS → Int32) : sp_kl P f g 0 = f := funext fun j => if_neg (by omega)
theorem sp_kl_up (P : List PieceS) (f : Nat → Int32) (g : PieceS → Int32) (t : Nat) (p : PieceS) (hp : P[t]? = some p) : upd (sp_kl P f g t) t (g p) = sp_kl P f g (t + 1) := by
  funext j
  unfold upd sp_kl
  by_cases h : j = t
  · subst h
    rw [if_pos rfl, if_pos (by omega), List.getD_eq_getElem?_getD, hp]
    rfl
  · rw [if_neg h]
    by_cases h2 : j < t
    · rw [if_pos h2, if_pos (by omega)]
    · rw [if_neg h2, if_neg (by omega)]
theorem l_C_image (h8 : P.length ≤ 8) {hT : MH} {v : Option Value} (f1 f2 : Nat → Int32) (K : MW M_C_image 2 0 0 v hT 0 0 64 [(0, .ref 5)] [] (heap sc (xC_kt_s (xC_kl_s x (sp_kl P f1 i_looked P.length)) (sp_kl P f2 i_there P.length)) m P)) : ∀ r t, t + r = P.length → MW M_C_image 2 0 0 v hT 0 0 2 [(0, .ref 5), (1, .int (nI t))] [] (heap sc (xC_kt_s (xC_kl_s x (sp_kl P f1 i_looked t)) (sp_kl P f2 i_there t)) m P) := by
  intro r
  induction r with
  | zero =>
    intro t ht
    rw [show t = P.length by omega]
    unfold heap at K ⊢
    repeat (refine mw_step rfl ?_)
    refine mw_brF rfl (n_nlt (by omega) (by omega)) ?_
    refine mw_pick [0] rfl ?_
    exact K
  | succ r ih =>
    intro t ht
    obtain ⟨p, hp⟩ : ∃ p, P[t]? = some p := ⟨P[t]'(by omega), List.getElem?_eq_getElem (by omega)⟩
    have hi := fun (y : XS) => (heap_get (sc := sc) (x := y) (m := m) hp).1
    have L := ih (t + 1) (by omega)
    rw [← sp_kl_up P f1 i_looked t p hp, ← sp_kl_up P f2 i_there t p hp] at L
    unfold heap at hi L ⊢
    repeat (refine mw_step rfl ?_)
    refine mw_brT rfl (n_lt (by omega) (by omega)) ?_
    repeat (refine mw_step rfl ?_)
    refine mw_brT rfl (n_lt (b := 8) (by omega) (by omega)) ?_
    repeat (refine mw_step rfl ?_)
    refine mw_call (c_pieceAt t h8 (by omega)) rfl rfl (Nat.le_of_ble_eq_true rfl) (Nat.le_refl _) (Nat.le_refl _) ?_
    repeat (refine mw_step rfl ?_)
    refine mw_getf rfl (hi _) (by omega) rfl ?_
    refine mw_ist rfl (rfl) (by omega) (by decide) ?_
    repeat (refine mw_step rfl ?_)
    refine mw_getf rfl (hi (xC_kl_s (xC_kt_s (xC_kl_s x (sp_kl P f1 i_looked t)) (sp_kl P f2 i_there t)) (upd (sp_kl P f1 i_looked t) t (i_looked p)))) (by omega) rfl ?_
    refine mw_ist rfl (rfl) (by omega) (by decide) ?_
    repeat (refine mw_to 2 rfl rfl ?_)
    rw [nI_1]
    refine mw_pick [0, 1] rfl ?_
    exact L
theorem c_C_image (h8 : P.length ≤ 8) : MC M_C_image 2 0 0 [.ref 5] (heap sc x m P) (some (.int (nI P.length))) (heap sc (xC_s x (xC_whens x, sp_kl P (xC_kl x) i_looked P.length, sp_kl P (xC_kt x) i_there P.length, nI P.length, 1)) m P) := by
  refine mc_of k1_C_image k2_C_image (Nat.le_of_ble_eq_true rfl) ?_
  repeat (refine mw_to 2 rfl rfl ?_)
  refine mw_pick [0, 1] rfl ?_
  have L := l_C_image (sc := sc) (x := x) (m := m) h8 (hT := heap sc (xC_s x (xC_whens x, sp_kl P (xC_kl x) i_looked P.length, sp_kl P (xC_kt x) i_there P.length, nI P.length, 1)) m P) (v := some (.int (nI P.length))) (xC_kl x) (xC_kt x) (by
    unfold heap
    repeat (refine mw_step rfl ?_)
    exact mw_r1 rfl trivial (Nat.le_refl _) (Nat.le_refl _) rfl rfl) P.length 0 (by omega)
  rw [sp_kl_0, sp_kl_0] at L
  exact L
end OF
