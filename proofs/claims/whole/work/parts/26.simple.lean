/-! mend (reference), papers, bodies and traces as they are called -/
theorem irem_of (a b : Nat) (ha : a < 2 ^ 31) (hb : b < 2 ^ 31) (h0 : 0 < b) : nI a - nI a / nI b * nI b = nI (a % b) := pk_rem ha h0 hb
section SI
variable {N : Nat} {sc : Nat × (Nat → Int32)} {x : XS} {m : OS} {tl : MH} {dn n : Nat}
theorem c_O_mend (hd : za_done m = nI dn) (h40 : dn ≤ 40) (a b : Nat) (v : Int32) (ha : a ≤ 3) (hb : b ≤ 5) (hv : k_least a ≤ v ∧ v ≤ k_most a) : MC M_O_mend 2 0 0 [.ref 39, .int (nI b), .int (nI a), .int v] (heapN N sc x m tl) (some (.int (za_may m (a * 6 + b)))) (heapN N sc x (za_s m (zt (sp_bec (tz (gA m)) dn (a * 6 + b) v))) tl) := by
  refine mc_of k1_O_mend k2_O_mend (Nat.le_of_ble_eq_true rfl) ?_
  repeat (refine mw_step rfl ?_)
  rcases (show a = 0 ∨ a = 1 ∨ a = 2 ∨ a = 3 by omega) with rfl | rfl | rfl | rfl
  · refine mw_sw (t := 32) rfl ?_
    repeat (refine mw_step rfl ?_)
    refine mw_call (c_O_isKind _ _) rfl rfl (Nat.le_of_ble_eq_true rfl) (Nat.le_refl _) (Nat.le_refl _) ?_
    refine mw_brF rfl (bI_ne (rng_in hb (by decide))) ?_
    repeat (refine mw_step rfl ?_)
    refine mw_call (c_withinO32 _ v 0 9) rfl rfl (Nat.le_of_ble_eq_true rfl) (Nat.le_refl _) (Nat.le_refl _) ?_
    refine mw_brF rfl (bI_ne hv) ?_
    repeat (refine mw_step rfl ?_)
    refine mw_call (c_O_becomes hd h40 b (by omega) v) rfl rfl (Nat.le_of_ble_eq_true rfl) (Nat.le_refl _) (Nat.le_refl _) ?_
    repeat (refine mw_step rfl ?_)
    exact mw_r1 rfl trivial (Nat.le_refl _) (Nat.le_refl _) (by rw [show 0 * 6 + b = b by omega] ) ( by rw [show 0 * 6 + b = b by omega])
  · refine mw_sw (t := 62) rfl ?_
    repeat (refine mw_step rfl ?_)
    refine mw_call (c_O_isKind _ _) rfl rfl (Nat.le_of_ble_eq_true rfl) (Nat.le_refl _) (Nat.le_refl _) ?_
    refine mw_brF rfl (bI_ne (rng_in hb (by decide))) ?_
    repeat (refine mw_step rfl ?_)
    refine mw_call (c_withinO32 _ v 0 99) rfl rfl (Nat.le_of_ble_eq_true rfl) (Nat.le_refl _) (Nat.le_refl _) ?_
    refine mw_brF rfl (bI_ne hv) ?_
    repeat (refine mw_step rfl ?_)
    rw [show (6 : Int32) + nI b = nI (1 * 6 + b) from nI_add 6 b]
    refine mw_call (c_O_becomes hd h40 (1 * 6 + b) (by omega) v) rfl rfl (Nat.le_of_ble_eq_true rfl) (Nat.le_refl _) (Nat.le_refl _) ?_
    repeat (refine mw_step rfl ?_)
    exact mw_r1 rfl trivial (Nat.le_refl _) (Nat.le_refl _) rfl rfl
  · refine mw_sw (t := 95) rfl ?_
    repeat (refine mw_step rfl ?_)
    refine mw_call (c_O_isMark _ _) rfl rfl (Nat.le_of_ble_eq_true rfl) (Nat.le_refl _) (Nat.le_refl _) ?_
    refine mw_brF rfl (bI_ne (rng_in hb (by decide))) ?_
    repeat (refine mw_step rfl ?_)
    refine mw_call (c_withinO32 _ v 1 9) rfl rfl (Nat.le_of_ble_eq_true rfl) (Nat.le_refl _) (Nat.le_refl _) ?_
    refine mw_brF rfl (bI_ne hv) ?_
    repeat (refine mw_step rfl ?_)
    rw [show (12 : Int32) + nI b = nI (2 * 6 + b) from nI_add 12 b]
    refine mw_call (c_O_becomes hd h40 (2 * 6 + b) (by omega) v) rfl rfl (Nat.le_of_ble_eq_true rfl) (Nat.le_refl _) (Nat.le_refl _) ?_
    repeat (refine mw_step rfl ?_)
    exact mw_r1 rfl trivial (Nat.le_refl _) (Nat.le_refl _) rfl rfl
  · refine mw_sw (t := 128) rfl ?_
    repeat (refine mw_step rfl ?_)
    refine mw_call (c_O_isMark _ _) rfl rfl (Nat.le_of_ble_eq_true rfl) (Nat.le_refl _) (Nat.le_refl _) ?_
    refine mw_brF rfl (bI_ne (rng_in hb (by decide))) ?_
    repeat (refine mw_step rfl ?_)
    refine mw_call (c_withinO32 _ v 0 99) rfl rfl (Nat.le_of_ble_eq_true rfl) (Nat.le_refl _) (Nat.le_refl _) ?_
    refine mw_brF rfl (bI_ne hv) ?_
    repeat (refine mw_step rfl ?_)
    rw [show (18 : Int32) + nI b = nI (3 * 6 + b) from nI_add 18 b]
    refine mw_call (c_O_becomes hd h40 (3 * 6 + b) (by omega) v) rfl rfl (Nat.le_of_ble_eq_true rfl) (Nat.le_refl _) (Nat.le_refl _) ?_
    repeat (refine mw_step rfl ?_)
    exact mw_r1 rfl trivial (Nat.le_refl _) (Nat.le_refl _) rfl rfl
theorem c_O_mend_bad (k what v : Int32) (hok : ¬ sp_mendOk k what v) : MC M_O_mend 2 0 0 [.ref 39, .int k, .int what, .int v] (heapN N sc x m tl) (some (.int (-1))) (heapN N sc x m tl) := by
  refine mc_of k1_O_mend k2_O_mend (Nat.le_of_ble_eq_true rfl) ?_
  repeat (refine mw_step rfl ?_)
  by_cases hw : 0 ≤ what ∧ what ≤ nI 3
  · obtain ⟨a, ha, rfl⟩ := rng (n := 3) (by decide) hw
    have hok : ¬ ((0 ≤ k ∧ k ≤ nI 5) ∧ (k_least a ≤ v ∧ v ≤ k_most a)) := fun z => hok ⟨hw, z.1, by rw [nI_clamp (by omega)]; exact z.2⟩
    rcases (show a = 0 ∨ a = 1 ∨ a = 2 ∨ a = 3 by omega) with rfl | rfl | rfl | rfl
    · refine mw_sw (t := 32) rfl ?_
      repeat (refine mw_step rfl ?_)
      refine mw_call (c_O_isKind _ _) rfl rfl (Nat.le_of_ble_eq_true rfl) (Nat.le_refl _) (Nat.le_refl _) ?_
      refine mw_br rfl (fun h1 => ?_) (fun h1 => ?_)
      · repeat (refine mw_step rfl ?_)
        exact mw_r1 rfl trivial (Nat.le_refl _) (Nat.le_refl _) rfl rfl
      · repeat (refine mw_step rfl ?_)
        refine mw_call (c_withinO32 _ v 0 9) rfl rfl (Nat.le_of_ble_eq_true rfl) (Nat.le_refl _) (Nat.le_refl _) ?_
        refine mw_br rfl (fun h2 => ?_) (fun h2 => ?_)
        · repeat (refine mw_step rfl ?_)
          exact mw_r1 rfl trivial (Nat.le_refl _) (Nat.le_refl _) rfl rfl
        · exact absurd ⟨bI_of h1, bI_of h2⟩ hok
    · refine mw_sw (t := 62) rfl ?_
      repeat (refine mw_step rfl ?_)
      refine mw_call (c_O_isKind _ _) rfl rfl (Nat.le_of_ble_eq_true rfl) (Nat.le_refl _) (Nat.le_refl _) ?_
      refine mw_br rfl (fun h1 => ?_) (fun h1 => ?_)
      · repeat (refine mw_step rfl ?_)
        exact mw_r1 rfl trivial (Nat.le_refl _) (Nat.le_refl _) rfl rfl
      · repeat (refine mw_step rfl ?_)
        refine mw_call (c_withinO32 _ v 0 99) rfl rfl (Nat.le_of_ble_eq_true rfl) (Nat.le_refl _) (Nat.le_refl _) ?_
        refine mw_br rfl (fun h2 => ?_) (fun h2 => ?_)
        · repeat (refine mw_step rfl ?_)
          exact mw_r1 rfl trivial (Nat.le_refl _) (Nat.le_refl _) rfl rfl
        · exact absurd ⟨bI_of h1, bI_of h2⟩ hok
    · refine mw_sw (t := 95) rfl ?_
      repeat (refine mw_step rfl ?_)
      refine mw_call (c_O_isMark _ _) rfl rfl (Nat.le_of_ble_eq_true rfl) (Nat.le_refl _) (Nat.le_refl _) ?_
      refine mw_br rfl (fun h1 => ?_) (fun h1 => ?_)
      · repeat (refine mw_step rfl ?_)
        exact mw_r1 rfl trivial (Nat.le_refl _) (Nat.le_refl _) rfl rfl
      · repeat (refine mw_step rfl ?_)
        refine mw_call (c_withinO32 _ v 1 9) rfl rfl (Nat.le_of_ble_eq_true rfl) (Nat.le_refl _) (Nat.le_refl _) ?_
        refine mw_br rfl (fun h2 => ?_) (fun h2 => ?_)
        · repeat (refine mw_step rfl ?_)
          exact mw_r1 rfl trivial (Nat.le_refl _) (Nat.le_refl _) rfl rfl
        · exact absurd ⟨bI_of h1, bI_of h2⟩ hok
    · refine mw_sw (t := 128) rfl ?_
      repeat (refine mw_step rfl ?_)
      refine mw_call (c_O_isMark _ _) rfl rfl (Nat.le_of_ble_eq_true rfl) (Nat.le_refl _) (Nat.le_refl _) ?_
      refine mw_br rfl (fun h1 => ?_) (fun h1 => ?_)
      · repeat (refine mw_step rfl ?_)
        exact mw_r1 rfl trivial (Nat.le_refl _) (Nat.le_refl _) rfl rfl
      · repeat (refine mw_step rfl ?_)
        refine mw_call (c_withinO32 _ v 0 99) rfl rfl (Nat.le_of_ble_eq_true rfl) (Nat.le_refl _) (Nat.le_refl _) ?_
        refine mw_br rfl (fun h2 => ?_) (fun h2 => ?_)
        · repeat (refine mw_step rfl ?_)
          exact mw_r1 rfl trivial (Nat.le_refl _) (Nat.le_refl _) rfl rfl
        · exact absurd ⟨bI_of h1, bI_of h2⟩ hok
  · refine mw_sw (t := 161) (m_sw_out rfl (m_out (n := 3) (by decide) hw) rfl) ?_
    repeat (refine mw_step rfl ?_)
    exact mw_r1 rfl trivial (Nat.le_refl _) (Nat.le_refl _) rfl rfl
/-- papers as the law calls them -/
def sp_ftOk (ft hs : Int32) : Prop := ¬ ft < 0 ∧ ft / 100 < nI 30 ∧ ft - ft / 100 * 100 < nI 30 ∧ ¬ (ft - ft / 100 * 100 < ft / 100) ∧ (0 ≤ hs ∧ hs ≤ nI 9)
theorem l_O_clash1 {v : Option Value} (hn : zq_papers m = nI n) (h10 : n ≤ 10) (k : Nat) (hk : k < n) : ∀ r j, j + r = k → (sp_cl1 (zq_from m) (zq_to m) (zq_house m) k r j = true → v = some (.int (nI k))) → (sp_cl1 (zq_from m) (zq_to m) (zq_house m) k r j = false → MW M_O_clash 0 0 0 v (heapN N sc x m tl) 0 0 70 [(0, .ref 39), (1, .int (nI k))] [] (heapN N sc x m tl)) → MW M_O_clash 0 0 0 v (heapN N sc x m tl) 0 0 12 [(0, .ref 39), (1, .int (nI k)), (2, .int (nI j))] [] (heapN N sc x m tl) := by
  intro r
  induction r with
  | zero =>
    intro j hj hv K
    repeat (refine mw_step rfl ?_)
    refine mw_brF rfl (n_nlt (by omega) (by omega)) ?_
    refine mw_pick [0, 1] rfl ?_
    exact K rfl
  | succ r ih =>
    intro j hj hv K
    repeat (refine mw_step rfl ?_)
    refine mw_brT rfl (n_lt (by omega) (by omega)) ?_
    repeat (refine mw_step rfl ?_)
    refine mw_ild rfl (rfl) (by omega) (by decide) ?_
    repeat (refine mw_step rfl ?_)
    refine mw_ild rfl (rfl) (by omega) (by decide) ?_
    refine mw_br rfl (fun h1 => ?_) (fun h1 => ?_)
    · repeat (refine mw_to 12 rfl rfl ?_)
      rw [nI_1]
      refine mw_pick [0, 1, 2] rfl ?_
      have e : sp_cl1 (zq_from m) (zq_to m) (zq_house m) k (r + 1) j = sp_cl1 (zq_from m) (zq_to m) (zq_house m) k r (j + 1) := by rw [sp_cl1, if_neg (fun z => z.2.2 h1.symm)]
      rw [e] at hv K
      exact ih (j + 1) (by omega) hv K
    · repeat (refine mw_step rfl ?_)
      refine mw_ild rfl (rfl) (by omega) (by decide) ?_
      repeat (refine mw_step rfl ?_)
      refine mw_ild rfl (rfl) (by omega) (by decide) ?_
      refine mw_br rfl (fun h2 => ?_) (fun h2 => ?_)
      · repeat (refine mw_to 12 rfl rfl ?_)
        rw [nI_1]
        refine mw_pick [0, 1, 2] rfl ?_
        have e : sp_cl1 (zq_from m) (zq_to m) (zq_house m) k (r + 1) j = sp_cl1 (zq_from m) (zq_to m) (zq_house m) k r (j + 1) := by rw [sp_cl1, if_neg (fun z => m_nlt z.2.1 h2)]
        rw [e] at hv K
        exact ih (j + 1) (by omega) hv K
      · repeat (refine mw_step rfl ?_)
        refine mw_ild rfl (rfl) (by omega) (by decide) ?_
        repeat (refine mw_step rfl ?_)
        refine mw_ild rfl (rfl) (by omega) (by decide) ?_
        refine mw_br rfl (fun h3 => ?_) (fun h3 => ?_)
        · repeat (refine mw_to 12 rfl rfl ?_)
          rw [nI_1]
          refine mw_pick [0, 1, 2] rfl ?_
          have e : sp_cl1 (zq_from m) (zq_to m) (zq_house m) k (r + 1) j = sp_cl1 (zq_from m) (zq_to m) (zq_house m) k r (j + 1) := by rw [sp_cl1, if_neg (fun z => m_nlt z.1 h3)]
          rw [e] at hv K
          exact ih (j + 1) (by omega) hv K
        · repeat (refine mw_step rfl ?_)
          exact mw_r1 rfl trivial (Nat.le_refl _) (Nat.le_refl _) (hv (by rw [sp_cl1, if_pos ⟨Int32.not_lt.mp h3, Int32.not_lt.mp h2, fun e => h1 e.symm⟩])) rfl
theorem l_O_clash (hn : zq_papers m = nI n) (h10 : n ≤ 10) : ∀ r k, k + r = n → MW M_O_clash 0 0 0 (some (.int (sp_clash (zq_from m) (zq_to m) (zq_house m) r k))) (heapN N sc x m tl) 0 0 2 [(0, .ref 39), (1, .int (nI k))] [] (heapN N sc x m tl) := by
  intro r
  induction r with
  | zero =>
    intro k hk
    repeat (refine mw_step rfl ?_)
    refine mw_brF rfl (by rw [hn]; exact n_nlt (by omega) (by omega)) ?_
    repeat (refine mw_step rfl ?_)
    exact mw_r1 rfl trivial (Nat.le_refl _) (Nat.le_refl _) rfl rfl
  | succ r ih =>
    intro k hk
    repeat (refine mw_step rfl ?_)
    refine mw_brT rfl (by rw [hn]; exact n_lt (by omega) (by omega)) ?_
    repeat (refine mw_to 12 rfl rfl ?_)
    refine mw_pick [0, 1, 2] rfl ?_
    refine l_O_clash1 hn h10 k (by omega) k 0 (by omega) (fun e => by rw [sp_clash, if_pos e]) (fun e => ?_)
    repeat (refine mw_to 2 rfl rfl ?_)
    rw [nI_1]
    refine mw_pick [0, 1] rfl ?_
    rw [sp_clash, if_neg (by rw [e]; decide)]
    exact ih (k + 1) (by omega)
theorem c_O_clash (hn : zq_papers m = nI n) (h10 : n ≤ 10) : MC M_O_clash 0 0 0 [.ref 39] (heapN N sc x m tl) (some (.int (sp_clash (zq_from m) (zq_to m) (zq_house m) n 0))) (heapN N sc x m tl) := by
  refine mc_of k1_O_clash k2_O_clash (Nat.le_of_ble_eq_true rfl) ?_
  repeat (refine mw_to 2 rfl rfl ?_)
  refine mw_pick [0, 1] rfl ?_
  exact l_O_clash hn h10 n 0 (by omega)
/-- the reference's count of gaps -/
def sp_least (f : Nat → Int32) : Nat → Nat → Int32 → Int32
  | 0, _, a => a
  | r + 1, k, a => sp_least f r (k + 1) (if f k < a then f k else a)
def sp_most (t : Nat → Int32) : Nat → Nat → Int32 → Int32
  | 0, _, b => b
  | r + 1, k, b => sp_most t r (k + 1) (if b < t k then t k else b)
def sp_gapsO (hs : Int32 → Int32) : Nat → Int32 → Int32 → Int32
  | 0, _, c => c
  | r + 1, y, c => sp_gapsO hs r (y + 1) (c + (if hs y < 0 then 1 else 0))
theorem l_O_gaps1 {v : Option Value} (hn : zq_papers m = nI n) (h10 : n ≤ 10) : ∀ r k (a b : Int32), k + r = n → MW M_O_gaps 2 0 0 v (heapN N sc x m tl) 0 0 63 [(0, .ref 39), (1, .int (sp_least (zq_from m) r k a)), (2, .int (sp_most (zq_to m) r k b))] [] (heapN N sc x m tl) → MW M_O_gaps 2 0 0 v (heapN N sc x m tl) 0 0 7 [(0, .ref 39), (1, .int a), (2, .int b), (3, .int (nI k))] [] (heapN N sc x m tl) := by
  intro r
  induction r with
  | zero =>
    intro k a b hk K
    repeat (refine mw_step rfl ?_)
    refine mw_brF rfl (by rw [hn]; exact n_nlt (by omega) (by omega)) ?_
    refine mw_pick [0, 1, 2] rfl ?_
    exact K
  | succ r ih =>
    intro k a b hk K
    repeat (refine mw_step rfl ?_)
    refine mw_brT rfl (by rw [hn]; exact n_lt (by omega) (by omega)) ?_
    repeat (refine mw_step rfl ?_)
    refine mw_ild rfl (rfl) (by omega) (by decide) ?_
    repeat (refine mw_step rfl ?_)
    rw [sp_least, sp_most] at K
    refine mw_br rfl (fun h1 => ?_) (fun h1 => ?_)
    · rw [if_pos h1] at K
      repeat (refine mw_step rfl ?_)
      refine mw_ild rfl (rfl) (by omega) (by decide) ?_
      repeat (refine mw_step rfl ?_)
      refine mw_ild rfl (rfl) (by omega) (by decide) ?_
      repeat (refine mw_step rfl ?_)
      refine mw_br rfl (fun h2 => ?_) (fun h2 => ?_)
      · rw [if_pos h2] at K
        repeat (refine mw_step rfl ?_)
        refine mw_ild rfl (rfl) (by omega) (by decide) ?_
        repeat (refine mw_to 7 rfl rfl ?_)
        rw [nI_1]
        refine mw_pick [0, 1, 2, 3] rfl ?_
        exact ih (k + 1) _ _ (by omega) K
      · rw [if_neg h2] at K
        repeat (refine mw_to 7 rfl rfl ?_)
        rw [nI_1]
        refine mw_pick [0, 1, 2, 3] rfl ?_
        exact ih (k + 1) _ _ (by omega) K
    · rw [if_neg h1] at K
      repeat (refine mw_step rfl ?_)
      refine mw_ild rfl (rfl) (by omega) (by decide) ?_
      repeat (refine mw_step rfl ?_)
      refine mw_br rfl (fun h2 => ?_) (fun h2 => ?_)
      · rw [if_pos h2] at K
        repeat (refine mw_step rfl ?_)
        refine mw_ild rfl (rfl) (by omega) (by decide) ?_
        repeat (refine mw_to 7 rfl rfl ?_)
        rw [nI_1]
        refine mw_pick [0, 1, 2, 3] rfl ?_
        exact ih (k + 1) _ _ (by omega) K
      · rw [if_neg h2] at K
        repeat (refine mw_to 7 rfl rfl ?_)
        rw [nI_1]
        refine mw_pick [0, 1, 2, 3] rfl ?_
        exact ih (k + 1) _ _ (by omega) K
/-- how many turns: from y up to b -/
theorem l_O_gaps2 (hn : zq_papers m = nI n) (h10 : n ≤ 10) (a b : Int32) (hb : b.toInt < 30) : ∀ (r : Nat) (y c : Int32), (0 ≤ y.toInt) → (y.toInt + (r : Int) = b.toInt + 1 ∨ (r = 0 ∧ b.toInt < y.toInt)) → y.toInt ≤ 30 → MW M_O_gaps 2 0 0 (some (.int (sp_gapsO (fun y => sp_house (zq_from m) (zq_to m) (zq_house m) y n 0) r y c))) (heapN N sc x m tl) 0 0 68 [(0, .ref 39), (1, .int a), (2, .int b), (3, .int c), (4, .int y)] [] (heapN N sc x m tl) := by
  intro r
  induction r with
  | zero =>
    intro y c h0 hr hy
    repeat (refine mw_step rfl ?_)
    refine mw_brT rfl (by rw [Int32.lt_iff_toInt_lt]; omega) ?_
    repeat (refine mw_step rfl ?_)
    exact mw_r1 rfl trivial (Nat.le_refl _) (Nat.le_refl _) rfl rfl
  | succ r ih =>
    intro y c h0 hr hy
    have e1 : (y + 1).toInt = y.toInt + 1 := by
      obtain ⟨j, hj⟩ : ∃ j : Nat, y = nI j ∧ j < 2 ^ 31 := by
        obtain ⟨j, h1, h2⟩ := nI_of (x := y) (by rw [Int32.lt_iff_toInt_lt, Int32.toInt_zero]; omega)
        exact ⟨j, h2, h1⟩
      obtain ⟨rfl, h1⟩ := hj
      rw [nI_toInt h1] at hy
      rw [nI_1, nI_toInt (by omega), nI_toInt h1]
      omega
    repeat (refine mw_step rfl ?_)
    refine mw_brF rfl (by rw [Int32.lt_iff_toInt_lt]; omega) ?_
    repeat (refine mw_step rfl ?_)
    refine mw_call (c_O_houseOf y hn h10) rfl rfl (Nat.le_of_ble_eq_true rfl) (Nat.le_refl _) (Nat.le_refl _) ?_
    refine mw_br rfl (fun h1 => ?_) (fun h1 => ?_)
    · repeat (refine mw_to 68 rfl rfl ?_)
      refine mw_pick [0, 1, 2, 3, 4] rfl ?_
      rw [sp_gapsO, if_pos h1]
      exact ih (y + 1) (c + 1) (by omega) (by omega) (by omega)
    · repeat (refine mw_to 68 rfl rfl ?_)
      refine mw_pick [0, 1, 2, 3, 4] rfl ?_
      rw [sp_gapsO, if_neg h1]
      exact ih (y + 1) (c + 0) (by omega) (by omega) (by omega)
theorem c_P_add10 (a b c : Int32) (hn : xP_many x = nI 10) : MC M_P_add 0 0 0 [.ref 23, .int a, .int b, .int c] (heapN N sc x m tl) (some (.int (-3))) (heapN N sc x m tl) := by
  refine mc_of k1_P_add k2_P_add (Nat.le_of_ble_eq_true rfl) ?_
  repeat (refine mw_step rfl ?_)
  refine mw_brF rfl (by rw [hn]; decide) ?_
  repeat (refine mw_step rfl ?_)
  refine mw_brF rfl (by rw [hn]; decide) ?_
  repeat (refine mw_step rfl ?_)
  exact mw_r1 rfl trivial (Nat.le_refl _) (Nat.le_refl _) rfl rfl
theorem c_B_isBodyKind (h : MH) (y : Int32) : MC M_B_isBodyKind 1 0 0 [.int y] h (some (.int (bI (0 ≤ y ∧ y ≤ nI 7)))) h := by
  refine mc_of k1_B_isBodyKind k2_B_isBodyKind (Nat.le_of_ble_eq_true rfl) ?_
  repeat (refine mw_step rfl ?_)
  refine mw_call (c_within _ _ _ _) rfl rfl (Nat.le_of_ble_eq_true rfl) (Nat.le_refl _) (Nat.le_refl _) ?_
  exact mw_r1 rfl bI_nar (Nat.le_refl _) (Nat.le_refl _) rfl rfl
theorem c_B_add (k : Int32) (hn : xB_many x = nI n) (h50 : n < 50) : MC M_B_add 0 0 0 [.ref 27, .int k] (heapN N sc x m tl) (some (.int (nI n))) (heapN N sc (xB_s x (upd (xB_kinds x) n k, nI (n + 1), xB_ran x, xB_runs x)) m tl) := by
  refine mc_of k1_B_add k2_B_add (Nat.le_of_ble_eq_true rfl) ?_
  repeat (refine mw_step rfl ?_)
  refine mw_brF rfl (by rw [hn]; exact nI_pos (by omega)) ?_
  repeat (refine mw_step rfl ?_)
  refine mw_brT rfl (by rw [hn]; exact n_lt (b := 50) (by omega) (by omega)) ?_
  repeat (refine mw_step rfl ?_)
  refine mw_ist rfl (hn) (by omega) (by decide) ?_
  repeat (refine mw_step rfl ?_)
  exact mw_r1 rfl trivial (Nat.le_refl _) (Nat.le_refl _) (by rw [show (xB_many x + 1 - 1) = nI n by rw [hn, nI_1]; exact nI_pred n] ) ( by rw [← nI_1, ← hn]; rfl)
theorem c_B_add50 (k : Int32) (hn : xB_many x = nI 50) : MC M_B_add 0 0 0 [.ref 27, .int k] (heapN N sc x m tl) (some (.int (-3))) (heapN N sc x m tl) := by
  refine mc_of k1_B_add k2_B_add (Nat.le_of_ble_eq_true rfl) ?_
  repeat (refine mw_step rfl ?_)
  refine mw_brF rfl (by rw [hn]; decide) ?_
  repeat (refine mw_step rfl ?_)
  refine mw_brF rfl (by rw [hn]; decide) ?_
  repeat (refine mw_step rfl ?_)
  exact mw_r1 rfl trivial (Nat.le_refl _) (Nat.le_refl _) rfl rfl
theorem c_B_kindOf (k : Nat) (hn : xB_many x = nI n) (h50 : n ≤ 50) (hk : k < n) : MC M_B_kindOf 1 0 0 [.ref 27, .int (nI k)] (heapN N sc x m tl) (some (.int (xB_kinds x k))) (heapN N sc x m tl) := by
  refine mc_of k1_B_kindOf k2_B_kindOf (Nat.le_of_ble_eq_true rfl) ?_
  repeat (refine mw_step rfl ?_)
  refine mw_call (c_within _ _ _ _) rfl rfl (Nat.le_of_ble_eq_true rfl) (Nat.le_refl _) (Nat.le_refl _) ?_
  refine mw_brF rfl (bI_ne (by rw [hn]; obtain ⟨j, rfl⟩ : ∃ j, n = j + 1 := ⟨n - 1, by omega⟩; rw [nI_pred]; exact rng_in (by omega) (by omega))) ?_
  repeat (refine mw_step rfl ?_)
  refine mw_brT rfl (n_lt (b := 50) (by omega) (by omega)) ?_
  repeat (refine mw_step rfl ?_)
  refine mw_ild rfl (rfl) (by omega) (by decide) ?_
  repeat (refine mw_step rfl ?_)
  exact mw_r1 rfl trivial (Nat.le_refl _) (Nat.le_refl _) rfl rfl
theorem n_pred_le {k : Int32} (hn : n ≤ 50) (h : 0 ≤ k ∧ k ≤ nI n - 1) : ∃ j, j < n ∧ k = nI j := by
  cases n with
  | zero =>
    rw [Int32.le_iff_toInt_le, Int32.le_iff_toInt_le] at h
    exact absurd h (by rw [show (nI 0 - 1).toInt = -1 from rfl, Int32.toInt_zero]; omega)
  | succ n =>
    rw [nI_pred] at h
    obtain ⟨j, hj, e⟩ := rng (by omega) h
    exact ⟨j, by omega, e⟩
theorem c_B_kindOf_bad (k : Int32) (hn : xB_many x = nI n) (h50 : n ≤ 50) (hk : ¬ ∃ j, j < n ∧ k = nI j) : MC M_B_kindOf 1 0 0 [.ref 27, .int k] (heapN N sc x m tl) (some (.int (-2))) (heapN N sc x m tl) := by
  refine mc_of k1_B_kindOf k2_B_kindOf (Nat.le_of_ble_eq_true rfl) ?_
  repeat (refine mw_step rfl ?_)
  refine mw_call (c_within _ _ _ _) rfl rfl (Nat.le_of_ble_eq_true rfl) (Nat.le_refl _) (Nat.le_refl _) ?_
  refine mw_brT rfl (bI_f (by rw [hn]; exact fun z => hk (n_pred_le h50 z))) ?_
  repeat (refine mw_step rfl ?_)
  exact mw_r1 rfl trivial (Nat.le_refl _) (Nat.le_refl _) rfl rfl
end SI
