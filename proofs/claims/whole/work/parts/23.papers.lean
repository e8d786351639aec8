/-! papers, on both sides -/
def sp_house (f t hs : Nat → Int32) (y : Int32) : Nat → Nat → Int32
  | 0, _ => -2
  | k + 1, i => if f i ≤ y ∧ y ≤ t i then hs i else sp_house f t hs y k (i + 1)
section PA
variable {N : Nat} {sc : Nat × (Nat → Int32)} {x : XS} {m : OS} {tl : MH} {n : Nat}
theorem l_P_houseAt (y : Int32) (hn : xP_many x = nI n) (h10 : n ≤ 10) : ∀ k i, i + k = n → MW M_P_houseAt 0 0 0 (some (.int (sp_house (xP_from x) (xP_to x) (xP_houses x) y k i))) (heapN N sc x m tl) 0 0 2 [(0, .ref 23), (1, .int y), (2, .int (nI i))] [] (heapN N sc x m tl) := by
  intro k
  induction k with
  | zero =>
    intro i hi
    repeat (refine mw_step rfl ?_)
    refine mw_brF rfl (by rw [hn]; exact n_nlt (by omega) (by omega)) ?_
    repeat (refine mw_step rfl ?_)
    exact mw_r1 rfl trivial (Nat.le_refl _) (Nat.le_refl _) rfl rfl
  | succ k ih =>
    intro i hi
    repeat (refine mw_step rfl ?_)
    refine mw_brT rfl (by rw [hn]; exact n_lt (by omega) (by omega)) ?_
    repeat (refine mw_step rfl ?_)
    refine mw_brT rfl (n_lt (b := 10) (by omega) (by omega)) ?_
    repeat (refine mw_step rfl ?_)
    refine mw_ild rfl (rfl) (by omega) (by decide) ?_
    repeat (refine mw_step rfl ?_)
    refine mw_br rfl (fun h1 => ?_) (fun h1 => ?_)
    · repeat (refine mw_to 2 rfl rfl ?_)
      rw [nI_1]
      refine mw_pick [0, 1, 2] rfl ?_
      rw [sp_house, if_neg (fun z => m_nlt z.1 h1)]
      exact ih (i + 1) (by omega)
    · repeat (refine mw_step rfl ?_)
      refine mw_ild rfl (rfl) (by omega) (by decide) ?_
      refine mw_br rfl (fun h2 => ?_) (fun h2 => ?_)
      · repeat (refine mw_to 2 rfl rfl ?_)
        rw [nI_1]
        refine mw_pick [0, 1, 2] rfl ?_
        rw [sp_house, if_neg (fun z => m_nlt z.2 h2)]
        exact ih (i + 1) (by omega)
      · repeat (refine mw_step rfl ?_)
        refine mw_ild rfl (rfl) (by omega) (by decide) ?_
        exact mw_r1 rfl trivial (Nat.le_refl _) (Nat.le_refl _) (by rw [sp_house, if_pos ⟨Int32.not_lt.mp h1, Int32.not_lt.mp h2⟩]) rfl
theorem c_P_houseAt (y : Int32) (hn : xP_many x = nI n) (h10 : n ≤ 10) : MC M_P_houseAt 0 0 0 [.ref 23, .int y] (heapN N sc x m tl) (some (.int (sp_house (xP_from x) (xP_to x) (xP_houses x) y n 0))) (heapN N sc x m tl) := by
  refine mc_of k1_P_houseAt k2_P_houseAt (Nat.le_of_ble_eq_true rfl) ?_
  repeat (refine mw_to 2 rfl rfl ?_)
  refine mw_pick [0, 1, 2] rfl ?_
  exact l_P_houseAt y hn h10 n 0 (by omega)
theorem c_P_add (a b c : Int32) (hn : xP_many x = nI n) (h10 : n < 10) : MC M_P_add 0 0 0 [.ref 23, .int a, .int b, .int c] (heapN N sc x m tl) (some (.int (nI n))) (heapN N sc (xP_s x (upd (xP_from x) n a, upd (xP_to x) n b, upd (xP_houses x) n c, nI (n + 1))) m tl) := by
  refine mc_of k1_P_add k2_P_add (Nat.le_of_ble_eq_true rfl) ?_
  repeat (refine mw_step rfl ?_)
  refine mw_brF rfl (by rw [hn]; exact nI_pos (by omega)) ?_
  repeat (refine mw_step rfl ?_)
  refine mw_brT rfl (by rw [hn]; exact n_lt (b := 10) (by omega) (by omega)) ?_
  repeat (refine mw_step rfl ?_)
  refine mw_ist rfl (hn) (by omega) (by decide) ?_
  repeat (refine mw_step rfl ?_)
  refine mw_ist rfl (hn) (by omega) (by decide) ?_
  repeat (refine mw_step rfl ?_)
  refine mw_ist rfl (hn) (by omega) (by decide) ?_
  repeat (refine mw_step rfl ?_)
  exact mw_r1 rfl trivial (Nat.le_refl _) (Nat.le_refl _) (by rw [show (xP_many x + 1 - 1) = nI n by rw [hn, nI_1]; exact nI_pred n] ) ( by rw [← nI_1, ← hn]; rfl)
def sp_cl1 (f t hs : Nat → Int32) (k : Nat) : Nat → Nat → Bool
  | 0, _ => false
  | r + 1, j => if f k ≤ t j ∧ f j ≤ t k ∧ hs k ≠ hs j then true else sp_cl1 f t hs k r (j + 1)
def sp_clash (f t hs : Nat → Int32) : Nat → Nat → Int32
  | 0, _ => -2
  | r + 1, k => if sp_cl1 f t hs k k 0 = true then nI k else sp_clash f t hs r (k + 1)
theorem l_P_clash1 {v : Option Value} (hn : xP_many x = nI n) (h10 : n ≤ 10) (k : Nat) (hk : k < n) : ∀ r j, j + r = k → (sp_cl1 (xP_from x) (xP_to x) (xP_houses x) k r j = true → v = some (.int (nI k))) → (sp_cl1 (xP_from x) (xP_to x) (xP_houses x) k r j = false → MW M_P_firstClash 0 0 0 v (heapN N sc x m tl) 0 0 86 [(0, .ref 23), (1, .int (nI k))] [] (heapN N sc x m tl)) → MW M_P_firstClash 0 0 0 v (heapN N sc x m tl) 0 0 18 [(0, .ref 23), (1, .int (nI k)), (2, .int (nI j))] [] (heapN N sc x m tl) := by
  intro r
  induction r with
  | zero =>
    intro j hj hv K
    repeat (refine mw_step rfl ?_)
    refine mw_brF rfl (n_nlt (by omega) (by omega)) ?_
    refine mw_pick [0, 1] rfl ?_
    exact K rfl
  | succ r ih =>
    intro j hj hv K
    repeat (refine mw_step rfl ?_)
    refine mw_brT rfl (n_lt (by omega) (by omega)) ?_
    repeat (refine mw_step rfl ?_)
    refine mw_ild rfl (rfl) (by omega) (by decide) ?_
    repeat (refine mw_step rfl ?_)
    refine mw_ild rfl (rfl) (by omega) (by decide) ?_
    refine mw_br rfl (fun h1 => ?_) (fun h1 => ?_)
    · repeat (refine mw_step rfl ?_)
      refine mw_brT rfl (rfl) ?_
      repeat (refine mw_to 18 rfl rfl ?_)
      rw [nI_1]
      refine mw_pick [0, 1, 2] rfl ?_
      have e : sp_cl1 (xP_from x) (xP_to x) (xP_houses x) k (r + 1) j = sp_cl1 (xP_from x) (xP_to x) (xP_houses x) k r (j + 1) := by rw [sp_cl1, if_neg (fun z => m_nlt z.1 h1)]
      rw [e] at hv K
      exact ih (j + 1) (by omega) hv K
    · repeat (refine mw_step rfl ?_)
      refine mw_ild rfl (rfl) (by omega) (by decide) ?_
      repeat (refine mw_step rfl ?_)
      refine mw_ild rfl (rfl) (by omega) (by decide) ?_
      refine mw_br rfl (fun h2 => ?_) (fun h2 => ?_)
      · repeat (refine mw_step rfl ?_)
        refine mw_brT rfl (rfl) ?_
        repeat (refine mw_to 18 rfl rfl ?_)
        rw [nI_1]
        refine mw_pick [0, 1, 2] rfl ?_
        have e : sp_cl1 (xP_from x) (xP_to x) (xP_houses x) k (r + 1) j = sp_cl1 (xP_from x) (xP_to x) (xP_houses x) k r (j + 1) := by rw [sp_cl1, if_neg (fun z => m_nlt z.2.1 h2)]
        rw [e] at hv K
        exact ih (j + 1) (by omega) hv K
      · repeat (refine mw_step rfl ?_)
        refine mw_brF rfl (by decide) ?_
        repeat (refine mw_step rfl ?_)
        refine mw_ild rfl (rfl) (by omega) (by decide) ?_
        repeat (refine mw_step rfl ?_)
        refine mw_ild rfl (rfl) (by omega) (by decide) ?_
        refine mw_br rfl (fun h3 => ?_) (fun h3 => ?_)
        · repeat (refine mw_to 18 rfl rfl ?_)
          rw [nI_1]
          refine mw_pick [0, 1, 2] rfl ?_
          have e : sp_cl1 (xP_from x) (xP_to x) (xP_houses x) k (r + 1) j = sp_cl1 (xP_from x) (xP_to x) (xP_houses x) k r (j + 1) := by rw [sp_cl1, if_neg (fun z => z.2.2 h3)]
          rw [e] at hv K
          exact ih (j + 1) (by omega) hv K
        · repeat (refine mw_step rfl ?_)
          exact mw_r1 rfl trivial (Nat.le_refl _) (Nat.le_refl _) (hv (by rw [sp_cl1, if_pos ⟨Int32.not_lt.mp h1, Int32.not_lt.mp h2, h3⟩])) rfl
theorem l_P_clash (hn : xP_many x = nI n) (h10 : n ≤ 10) : ∀ r k, k + r = n → MW M_P_firstClash 0 0 0 (some (.int (sp_clash (xP_from x) (xP_to x) (xP_houses x) r k))) (heapN N sc x m tl) 0 0 2 [(0, .ref 23), (1, .int (nI k))] [] (heapN N sc x m tl) := by
  intro r
  induction r with
  | zero =>
    intro k hk
    repeat (refine mw_step rfl ?_)
    refine mw_brF rfl (by rw [hn]; exact n_nlt (by omega) (by omega)) ?_
    repeat (refine mw_step rfl ?_)
    exact mw_r1 rfl trivial (Nat.le_refl _) (Nat.le_refl _) rfl rfl
  | succ r ih =>
    intro k hk
    repeat (refine mw_step rfl ?_)
    refine mw_brT rfl (by rw [hn]; exact n_lt (by omega) (by omega)) ?_
    repeat (refine mw_step rfl ?_)
    refine mw_brT rfl (n_lt (b := 10) (by omega) (by omega)) ?_
    repeat (refine mw_to 18 rfl rfl ?_)
    refine mw_pick [0, 1, 2] rfl ?_
    refine l_P_clash1 hn h10 k (by omega) k 0 (by omega) (fun e => by rw [sp_clash, if_pos e]) (fun e => ?_)
    repeat (refine mw_to 2 rfl rfl ?_)
    rw [nI_1]
    refine mw_pick [0, 1] rfl ?_
    rw [sp_clash, if_neg (by rw [e]; decide)]
    exact ih (k + 1) (by omega)
theorem c_P_clash (hn : xP_many x = nI n) (h10 : n ≤ 10) : MC M_P_firstClash 0 0 0 [.ref 23] (heapN N sc x m tl) (some (.int (sp_clash (xP_from x) (xP_to x) (xP_houses x) n 0))) (heapN N sc x m tl) := by
  refine mc_of k1_P_firstClash k2_P_firstClash (Nat.le_of_ble_eq_true rfl) ?_
  repeat (refine mw_to 2 rfl rfl ?_)
  refine mw_pick [0, 1] rfl ?_
  exact l_P_clash hn h10 n 0 (by omega)
/-- the class's count of gaps: seen, missing, since -/
def sp_gapsX (hs : Nat → Int32) : Nat → Nat → Int32 → Int32 → Int32 → Int32
  | 0, _, _, b, _ => b
  | r + 1, y, a, b, c => if hs y = -2 then sp_gapsX hs r (y + 1) a b (c + 1) else sp_gapsX hs r (y + 1) (a + 1) (b + (if a = 0 then 0 else c)) 0
theorem l_P_gaps (hn : xP_many x = nI n) (h10 : n ≤ 10) : ∀ r y (a b c : Int32), y + r = 30 → MW M_P_gaps 1 0 0 (some (.int (sp_gapsX (fun y => sp_house (xP_from x) (xP_to x) (xP_houses x) (nI y) n 0) r y a b c))) (heapN N sc x m tl) 0 0 9 [(0, .ref 23), (1, .int a), (2, .int b), (3, .int c), (4, .int (nI y))] [] (heapN N sc x m tl) := by
  intro r
  induction r with
  | zero =>
    intro y a b c hy
    repeat (refine mw_step rfl ?_)
    refine mw_brF rfl (n_nlt (b := 30) (by omega) (by omega)) ?_
    repeat (refine mw_step rfl ?_)
    exact mw_r1 rfl trivial (Nat.le_refl _) (Nat.le_refl _) rfl rfl
  | succ r ih =>
    intro y a b c hy
    repeat (refine mw_step rfl ?_)
    refine mw_brT rfl (n_lt (b := 30) (by omega) (by omega)) ?_
    repeat (refine mw_step rfl ?_)
    refine mw_call (c_P_houseAt (nI y) hn h10) rfl rfl (Nat.le_of_ble_eq_true rfl) (Nat.le_refl _) (Nat.le_refl _) ?_
    repeat (refine mw_step rfl ?_)
    refine mw_br rfl (fun h1 => ?_) (fun h1 => ?_)
    · repeat (refine mw_to 9 rfl rfl ?_)
      rw [nI_1]
      refine mw_pick [0, 1, 2, 3, 4] rfl ?_
      rw [sp_gapsX, if_pos h1]
      exact ih (y + 1) a b (c + 1) (by omega)
    · repeat (refine mw_step rfl ?_)
      refine mw_br rfl (fun h2 => ?_) (fun h2 => ?_)
      · repeat (refine mw_to 9 rfl rfl ?_)
        rw [nI_1]
        refine mw_pick [0, 1, 2, 3, 4] rfl ?_
        rw [sp_gapsX, if_neg h1, if_pos h2]
        exact ih (y + 1) (a + 1) (b + 0) 0 (by omega)
      · repeat (refine mw_to 9 rfl rfl ?_)
        rw [nI_1]
        refine mw_pick [0, 1, 2, 3, 4] rfl ?_
        rw [sp_gapsX, if_neg h1, if_neg h2]
        exact ih (y + 1) (a + 1) (b + c) 0 (by omega)
theorem c_P_gaps (hn : xP_many x = nI n) (h10 : n ≤ 10) : MC M_P_gaps 1 0 0 [.ref 23] (heapN N sc x m tl) (some (.int (sp_gapsX (fun y => sp_house (xP_from x) (xP_to x) (xP_houses x) (nI y) n 0) 30 0 0 0 0))) (heapN N sc x m tl) := by
  refine mc_of k1_P_gaps k2_P_gaps (Nat.le_of_ble_eq_true rfl) ?_
  repeat (refine mw_to 9 rfl rfl ?_)
  refine mw_pick [0, 1, 2, 3, 4] rfl ?_
  exact l_P_gaps hn h10 30 0 0 0 0 (by omega)
theorem fa_wide_le (a b : Int32) : a.toInt64 ≤ b.toInt64 ↔ a ≤ b := by
  rw [Int64.le_iff_toInt_le, Int32.le_iff_toInt_le, Int32.toInt_toInt64, Int32.toInt_toInt64]
/-- the reference's side -/
theorem l_O_houseOf (y : Int32) (hn : zq_papers m = nI n) (h10 : n ≤ 10) : ∀ k i, i + k = n → MW M_O_houseOf 1 0 0 (some (.int (sp_house (zq_from m) (zq_to m) (zq_house m) y k i))) (heapN N sc x m tl) 0 0 2 [(0, .ref 39), (1, .int y), (2, .int (nI i))] [] (heapN N sc x m tl) := by
  intro k
  induction k with
  | zero =>
    intro i hi
    repeat (refine mw_step rfl ?_)
    refine mw_brF rfl (by rw [hn]; exact n_nlt (by omega) (by omega)) ?_
    repeat (refine mw_step rfl ?_)
    exact mw_r1 rfl trivial (Nat.le_refl _) (Nat.le_refl _) rfl rfl
  | succ k ih =>
    intro i hi
    repeat (refine mw_step rfl ?_)
    refine mw_brT rfl (by rw [hn]; exact n_lt (by omega) (by omega)) ?_
    repeat (refine mw_step rfl ?_)
    refine mw_ild rfl (rfl) (by omega) (by decide) ?_
    repeat (refine mw_step rfl ?_)
    refine mw_ild rfl (rfl) (by omega) (by decide) ?_
    repeat (refine mw_step rfl ?_)
    refine mw_call (c_withinO _ _ _ _) rfl rfl (Nat.le_of_ble_eq_true rfl) (Nat.le_refl _) (Nat.le_refl _) ?_
    refine mw_br rfl (fun h1 => ?_) (fun h1 => ?_)
    · repeat (refine mw_to 2 rfl rfl ?_)
      rw [nI_1]
      refine mw_pick [0, 1, 2] rfl ?_
      rw [bI_0, fa_wide_le, fa_wide_le] at h1
      rw [sp_house, if_neg h1]
      exact ih (i + 1) (by omega)
    · repeat (refine mw_step rfl ?_)
      refine mw_ild rfl (rfl) (by omega) (by decide) ?_
      rw [bI_0, fa_wide_le, fa_wide_le] at h1
      exact mw_r1 rfl trivial (Nat.le_refl _) (Nat.le_refl _) (by rw [sp_house, if_pos (Classical.not_not.mp h1)]) rfl
theorem c_O_houseOf (y : Int32) (hn : zq_papers m = nI n) (h10 : n ≤ 10) : MC M_O_houseOf 1 0 0 [.ref 39, .int y] (heapN N sc x m tl) (some (.int (sp_house (zq_from m) (zq_to m) (zq_house m) y n 0))) (heapN N sc x m tl) := by
  refine mc_of k1_O_houseOf k2_O_houseOf (Nat.le_of_ble_eq_true rfl) ?_
  repeat (refine mw_to 2 rfl rfl ?_)
  refine mw_pick [0, 1, 2] rfl ?_
  exact l_O_houseOf y hn h10 n 0 (by omega)
end PA
