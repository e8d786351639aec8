/-! named, plan: the reference -/
theorem b_has0 : ∀ a, a < 64 → ∀ j, j < 6 → (((nI a >>> (nI j &&& 31)) &&& 1 = 0) ↔ ¬ a.testBit j = true) := by decide +kernel
theorem sub_dec1 : ∀ set, set < 64 → ∀ v, v < 64 → ∀ w, w < v → (v &&& set = v ∧ ((v - 1) &&& set) < w → ¬ w &&& set = w) := by decide +kernel
theorem sub_dec (set : Nat) (hs : set < 64) (v : Nat) (hv : v < 64) (h : v &&& set = v) (_ : ¬ v = 0) (w : Nat) (hw : w < v) (hu : ((v - 1) &&& set) < w) : ¬ w &&& set = w := sub_dec1 set hs v hv w hw ⟨h, hu⟩
theorem b_dec : ∀ v, v < 64 → ¬ v = 0 → nI v - 1 = nI (v - 1) := by decide +kernel
def unl (way : Nat → Nat) : Nat → Nat
  | 0 => 0
  | t + 1 => unl way t ||| (if way t = 0 then 2 ^ t else 0)
theorem unl_lt (way : Nat → Nat) : ∀ t, unl way t < 2 ^ t
  | 0 => by show 0 < 1; omega
  | t + 1 => by
    have ih := unl_lt way t
    have h2 : 2 ^ t < 2 ^ (t + 1) := Nat.pow_lt_pow_right (a := 2) (by omega) (by omega)
    refine Nat.or_lt_two_pow (by omega) ?_
    split
    · exact h2
    · exact Nat.pow_pos (by omega)
theorem unl_tb (way : Nat → Nat) (j : Nat) : ∀ t, (unl way t).testBit j = (decide (j < t) && decide (way j = 0))
  | 0 => by rw [show unl way 0 = 0 from rfl, Nat.zero_testBit, decide_eq_false (by omega), Bool.false_and]
  | t + 1 => by
    rw [unl, Nat.testBit_or, unl_tb way j t]
    by_cases e : j = t
    · subst e
      rw [decide_eq_false (Nat.lt_irrefl j), Bool.false_and, Bool.false_or, decide_eq_true (show j < j + 1 by omega), Bool.true_and]
      by_cases h : way j = 0
      · rw [if_pos h, decide_eq_true h, Nat.testBit_two_pow_self]
      · rw [if_neg h, decide_eq_false h, Nat.zero_testBit]
    · have e2 : (if way t = 0 then 2 ^ t else 0).testBit j = false := by
        split
        · rw [Nat.testBit_two_pow, decide_eq_false (fun z => e z.symm)]
        · rw [Nat.zero_testBit]
      rw [e2, Bool.or_false]
      by_cases h : j < t
      · rw [decide_eq_true h, decide_eq_true (show j < t + 1 by omega)]
      · rw [decide_eq_false h, decide_eq_false (show ¬ j < t + 1 by omega)]
theorem unl_lk {lk th mk : Nat} (hlk : lk < 64) (hmk : mk < 64) : mk &&& unl (wayB lk th) 6 = mk &&& (lk ^^^ 63) := by
  apply Nat.eq_of_testBit_eq
  intro i
  by_cases hi : i < 6
  · rw [b_tb_andn hi, Nat.testBit_and, unl_tb, decide_eq_true hi, Bool.true_and]
    congr 1
    unfold wayB
    cases hz : lk.testBit i with
    | true =>
      rw [if_pos rfl]
      split <;> rfl
    | false =>
      rw [if_neg (by decide)]
      rfl
  · rw [Nat.testBit_and, Nat.testBit_and, tb_ge hmk (by omega), Bool.false_and, Bool.false_and]
theorem unl_63 {lk th : Nat} (hlk : lk < 64) : unl (wayB lk th) 6 = 63 &&& (lk ^^^ 63) := by
  rw [← unl_lk (th := th) hlk (by omega)]
  apply Nat.eq_of_testBit_eq
  intro i
  rw [Nat.testBit_and]
  by_cases hi : i < 6
  · rw [b63 i hi, Bool.true_and]
  · rw [tb_ge (unl_lt _ 6) (by omega), Bool.and_false]
/-- the sum over subsets up to one -/
def sG (f : Nat → Nat) (set v : Nat) : Nat := sN (fun w => if w &&& set = w then f w else 0) (v + 1)
theorem sG_step (f : Nat → Nat) {set v : Nat} (hs : set < 64) (hv : v < 64) (hsub : v &&& set = v) (h0 : ¬ v = 0) : sG f set v = f v + sG f set ((v - 1) &&& set) := by
  have hu : (v - 1) &&& set ≤ v - 1 := Nat.and_le_left
  have e1 : sG f set v = sN (fun w => if w &&& set = w then f w else 0) v + f v := by
    show _ + (if v &&& set = v then f v else 0) = _
    rw [if_pos hsub]
  have e2 : sN (fun w => if w &&& set = w then f w else 0) v = sG f set ((v - 1) &&& set) := by
    have : v = ((v - 1) &&& set) + 1 + (v - ((v - 1) &&& set) - 1) := by omega
    unfold sG
    conv => lhs; rw [this]
    rw [sN_split, sN_0 (n := v - ((v - 1) &&& set) - 1) (fun y hy => if_neg (sub_dec set hs v hv hsub h0 _ (by omega) (by omega))), Nat.add_zero]
  rw [e1, e2, Nat.add_comm]
theorem sG_0 (f : Nat → Nat) (set : Nat) : sG f set 0 = f 0 := by
  show 0 + (if 0 &&& set = 0 then f 0 else 0) = f 0
  rw [if_pos (Nat.zero_and set), Nat.zero_add]
theorem sG_top (f : Nat → Nat) {set : Nat} (hs : set < 64) : sG f set set = sN (fun w => if w &&& set = w then f w else 0) 64 := by
  have : 64 = set + 1 + (63 - set) := by omega
  conv => rhs; rw [this]
  rw [sN_split, sN_0 (n := 63 - set) (fun y _ => if_neg (fun z => by
    have : (set + 1 + y) &&& set ≤ set := Nat.and_le_right
    omega)), Nat.add_zero]
  rfl
section ON
variable {N : Nat} {sc : Nat × (Nat → Int32)} {x : XS} {m : OS} {tl : MH} {T : Nat → Option Tx} {B Mi : Nat → Nat} {n k : Nat} {way : Nat → Nat} {nb : Nat → Nat → Nat}
theorem c_O_unlooked (hf : FW (zp_found m) k way) (hk : k < 8) : MC M_O_unlooked 0 0 0 [.ref 39, .int (nI k)] (heapN N sc x m tl) (some (.int (nI (unl way 6)))) (heapN N sc x m tl) := by
  have L : ∀ r t, t + r = 6 → MW M_O_unlooked 0 0 0 (some (.int (nI (unl way 6)))) (heapN N sc x m tl) 0 0 4 [(0, .ref 39), (1, .int (nI k)), (2, .int (nI (unl way t))), (3, .int (nI t))] [] (heapN N sc x m tl) := by
    intro r
    induction r with
    | zero =>
      intro t ht
      rw [show t = 6 by omega]
      repeat (refine mw_step rfl ?_)
      refine mw_brF rfl (by decide) ?_
      repeat (refine mw_step rfl ?_)
      exact mw_r1 rfl trivial (Nat.le_refl _) (Nat.le_refl _) rfl rfl
    | succ r ih =>
      intro t ht
      have L := ih (t + 1) (by omega)
      have hlt : unl way t < 64 := Nat.lt_of_lt_of_le (unl_lt way t) (Nat.pow_le_pow_right (n := 2) (by omega) (show t ≤ 6 by omega))
      have hwy := hf t (by omega)
      rw [show unl way (t + 1) = unl way t ||| (if way t = 0 then 2 ^ t else 0) from rfl] at L
      repeat (refine mw_step rfl ?_)
      refine mw_brT rfl (n_lt (b := 6) (by omega) (by omega)) ?_
      repeat (refine mw_step rfl ?_)
      refine mw_ild rfl (show (6 : Int32) * nI k + nI t = nI (6 * k + t) by rw [show (6 : Int32) = nI 6 from rfl, pk_mul, nI_add]) (by omega) (by decide) ?_
      rw [show zp_found m (6 * k + t) = nI (way t) from hwy.1]
      by_cases h : way t = 0
      · rw [if_pos h] at L
        refine mw_brT rfl (by rw [h]; rfl) ?_
        repeat (refine mw_to 4 rfl rfl ?_)
        rw [nI_1, b_sh t (by omega), b_or _ hlt _ (p2_lt (by omega))]
        refine mw_pick [0, 1, 2, 3] rfl ?_
        exact L
      · rw [if_neg h, ← b_or _ hlt 0 (by omega)] at L
        refine mw_brF rfl (nI_ne0 (by omega) (by omega)) ?_
        repeat (refine mw_to 4 rfl rfl ?_)
        rw [nI_1]
        refine mw_pick [0, 1, 2, 3] rfl ?_
        exact L
  refine mc_of k1_O_unlooked k2_O_unlooked (Nat.le_of_ble_eq_true rfl) ?_
  repeat (refine mw_to 4 rfl rfl ?_)
  refine mw_pick [0, 1, 2, 3] rfl ?_
  exact L 6 0 (by omega)
theorem l_O_nm0 (p set : Nat) (hs : set < 64) (a3 : Int64) (al0 : Nat) {v : Option Value} {hT : MH} (K : MW M_O_namedBy 1 0 0 v hT 0 0 44 [(0, .ref 39), (1, .int (nI p)), (2, .int (nI set)), (5, .long 0), (7, .long (lN (al0 * 100 ^ cn set 0 6)))] [] (heapN N sc x m tl)) : ∀ r t, t + r = 6 → MW M_O_namedBy 1 0 0 v hT 0 0 9 [(0, .ref 39), (1, .int (nI p)), (2, .int (nI set)), (5, .long 0), (7, .long (lN (al0 * 100 ^ cn set 0 t))), (9, .int (nI t))] [] (heapN N sc x m tl) := by
  intro r
  induction r with
  | zero =>
    intro t ht
    rw [show t = 6 by omega]
    repeat (refine mw_step rfl ?_)
    refine mw_brF rfl (by decide) ?_
    refine mw_pick [0, 1, 2, 5, 7] rfl ?_
    exact K
  | succ r ih =>
    intro t ht
    have L := ih (t + 1) (by omega)
    rw [show cn set 0 (t + 1) = cn set 0 t + (if set.testBit t = true ∧ ¬ (0 : Nat).testBit t = true then 1 else 0) from rfl, Nat.pow_add, ← Nat.mul_assoc, ← lN_mul] at L
    repeat (refine mw_step rfl ?_)
    refine mw_brT rfl (n_lt (b := 6) (by omega) (by omega)) ?_
    repeat (refine mw_step rfl ?_)
    by_cases h : set.testBit t = true
    · rw [if_pos ⟨h, by rw [Nat.zero_testBit]; decide⟩] at L
      refine mw_brT rfl ((b_has _ hs _ (by omega)).mpr h) ?_
      repeat (refine mw_to 9 rfl rfl ?_)
      rw [nI_1]
      refine mw_pick [0, 1, 2, 5, 7, 9] rfl ?_
      exact L
    · rw [if_neg (fun z => h z.1)] at L
      refine mw_brF rfl (fun z => h ((b_has _ hs _ (by omega)).mp z)) ?_
      repeat (refine mw_to 9 rfl rfl ?_)
      rw [nI_1]
      refine mw_pick [0, 1, 2, 5, 7, 9] rfl ?_
      exact L
theorem l_O_nm1 (p set v : Nat) (hp : p < 8) (hs : set < 64) (hv : v < 64) (hf : FW (zp_found m) p way) (s w : Int64) (nm : Nat → Int32) (wg kS : Nat → Int64) (aS : Int64) : ∀ r t wy, t + r = 6 → (∀ j, j < t → wy j = nI (wS way set v j)) → ∃ wy' : Nat → Int32, (∀ j, j < 6 → wy' j = nI (wS way set v j)) ∧ ∀ {u : Option Value} {hT : MH}, MW M_O_namedBy 1 0 0 u hT 0 0 118 [(0, .ref 39), (1, .int (nI p)), (2, .int (nI set)), (5, .long s), (7, .long w), (9, .int (nI v))] [] (heapN N sc x (zw_s m (nm, wy', wg, kS, aS)) tl) → MW M_O_namedBy 1 0 0 u hT 0 0 58 [(0, .ref 39), (1, .int (nI p)), (2, .int (nI set)), (5, .long s), (7, .long w), (9, .int (nI v)), (11, .int (nI t))] [] (heapN N sc x (zw_s m (nm, wy, wg, kS, aS)) tl) := by
  intro r
  induction r with
  | zero =>
    intro t wy ht h
    have e : t = 6 := by omega
    subst e
    refine ⟨wy, h, ?_⟩
    intro u hT K
    repeat (refine mw_step rfl ?_)
    refine mw_brF rfl (by decide) ?_
    refine mw_pick [0, 1, 2, 5, 7, 9] rfl ?_
    exact K
  | succ r ih =>
    intro t wy ht h
    obtain ⟨wy', k1, K⟩ := ih (t + 1) (upd wy t (nI (wS way set v t))) (by omega) (by
      intro j hj
      by_cases e : j = t
      · rw [e, upd_at]
      · rw [upd_ne e]
        exact h j (by omega))
    refine ⟨wy', k1, ?_⟩
    intro u hT K2
    have KK := K K2
    repeat (refine mw_step rfl ?_)
    refine mw_brT rfl (n_lt (b := 6) (by omega) (by omega)) ?_
    repeat (refine mw_step rfl ?_)
    by_cases h1 : set.testBit t = true
    · refine mw_brF rfl (fun z => (b_has0 _ hs _ (by omega)).mp z h1) ?_
      repeat (refine mw_step rfl ?_)
      by_cases h2 : v.testBit t = true
      · rw [show wS way set v t = 1 by unfold wS; rw [if_pos h1, if_pos h2]] at KK
        refine mw_brT rfl ((b_has _ hv _ (by omega)).mpr h2) ?_
        repeat (refine mw_step rfl ?_)
        refine mw_ist rfl (rfl) (by omega) (by decide) ?_
        repeat (refine mw_to 58 rfl rfl ?_)
        rw [nI_1]
        refine mw_pick [0, 1, 2, 5, 7, 9, 11] rfl ?_
        exact KK
      · rw [show wS way set v t = 2 by unfold wS; rw [if_pos h1, if_neg h2]] at KK
        refine mw_brF rfl (fun z => h2 ((b_has _ hv _ (by omega)).mp z)) ?_
        repeat (refine mw_step rfl ?_)
        refine mw_ist rfl (rfl) (by omega) (by decide) ?_
        repeat (refine mw_to 58 rfl rfl ?_)
        rw [nI_1]
        refine mw_pick [0, 1, 2, 5, 7, 9, 11] rfl ?_
        exact KK
    · rw [show wS way set v t = way t by unfold wS; rw [if_neg h1]] at KK
      refine mw_brT rfl ((b_has0 _ hs _ (by omega)).mpr h1) ?_
      repeat (refine mw_step rfl ?_)
      refine mw_ild rfl (show (6 : Int32) * nI p + nI t = nI (6 * p + t) by rw [show (6 : Int32) = nI 6 from rfl, pk_mul, nI_add]) (by omega) (by decide) ?_
      rw [show zp_found (zw_s m (nm, wy, wg, kS, aS)) (6 * p + t) = nI (way t) from (hf t (by omega)).1]
      repeat (refine mw_step rfl ?_)
      refine mw_ist rfl (rfl) (by omega) (by decide) ?_
      repeat (refine mw_to 58 rfl rfl ?_)
      rw [nI_1]
      refine mw_pick [0, 1, 2, 5, 7, 9, 11] rfl ?_
      exact KK
theorem wS_le (hw : ∀ j, j < 6 → way j ≤ 2) (set v j : Nat) (hj : j < 6) : wS way set v j ≤ 2 := by
  unfold wS
  split
  · split <;> omega
  · exact hw j hj
theorem l_O_nm2 (hnb : ∀ j kt, nb j kt ≤ 100) (h9 : ∀ k, B k ≤ 9) (p set : Nat) (hp : p < 8) (hs : set < 64) (w : Int64) : ∀ c v s m, v ≤ c → v < 64 → v &&& set = v → OB m B → LKm m nb → FW (zp_found m) p way → ∃ m', OR m m' ∧ LKm m' nb ∧ ∀ {u : Option Value} {hT : MH}, MW M_O_namedBy 1 0 0 u hT 0 0 159 [(0, .ref 39), (5, .long (lN (s + sG (fun v => mx (ks B nb (wS way set v)) 6) set v))), (7, .long w)] [] (heapN N sc x m' tl) → MW M_O_namedBy 1 0 0 u hT 0 0 55 [(0, .ref 39), (1, .int (nI p)), (2, .int (nI set)), (5, .long (lN s)), (7, .long w), (9, .int (nI v))] [] (heapN N sc x m tl) := by
  have hW : WOK B nb := ⟨h9, hnb⟩
  have step : ∀ v s m, v < 64 → OB m B → LKm m nb → FW (zp_found m) p way → ∃ m', OR m m' ∧ OB m' B ∧ LKm m' nb ∧ FW (zp_found m') p way ∧ ∀ {u : Option Value} {hT : MH}, MW M_O_namedBy 1 0 0 u hT 0 0 136 [(0, .ref 39), (1, .int (nI p)), (2, .int (nI set)), (5, .long (lN (s + mx (ks B nb (wS way set v)) 6))), (7, .long w), (9, .int (nI v))] [] (heapN N sc x m' tl) → MW M_O_namedBy 1 0 0 u hT 0 0 55 [(0, .ref 39), (1, .int (nI p)), (2, .int (nI set)), (5, .long (lN s)), (7, .long w), (9, .int (nI v))] [] (heapN N sc x m tl) := by
    intro v s m hv hB hL hf
    obtain ⟨wy, w1, K1⟩ := l_O_nm1 (N := N) (sc := sc) (x := x) (tl := tl) (m := m) (way := way) p set v hp hs hv hf (lN s) w (zw_numbers m) (zw_weight m) (zw_kindSum m) (zw_allSum m) 6 0 (zw_way m) (by omega) (fun j hj => absurd hj (by omega))
    have hWin : WIN (zw_s m (zw_numbers m, wy, zw_weight m, zw_kindSum m, zw_allSum m)) B nb (wS way set v) := ⟨hB, h9, hnb, hL, fun j hj => ⟨w1 j hj, wS_le (fun j hj => (hf j hj).2) set v j hj⟩⟩
    obtain ⟨wg, kS, g1, g2, D⟩ := c_O_weighs (N := N) (sc := sc) (x := x) (tl := tl) hWin
    refine ⟨zw_s m (zw_numbers m, wy, wg, kS, lN (al B nb (wS way set v))), OR_zw m _, hB, hL, hf, ?_⟩
    intro u hT K
    have E := c_O_mostOf (N := N) (sc := sc) (x := x) (tl := tl) (m := zw_s m (zw_numbers m, wy, wg, kS, lN (al B nb (wS way set v)))) g2 (fun j _ => ks_lt hW j)
    have hle := am_le (ks B nb (wS way set v)) 5
    rw [mx_am, ← lN_add] at K
    repeat (refine mw_to 58 rfl rfl ?_)
    refine mw_pick [0, 1, 2, 5, 7, 9, 11] rfl ?_
    refine K1 ?_
    repeat (refine mw_step rfl ?_)
    refine mw_call (D) rfl rfl (Nat.le_of_ble_eq_true rfl) (Nat.le_refl _) (Nat.le_refl _) ?_
    repeat (refine mw_step rfl ?_)
    refine mw_call (E) rfl rfl (Nat.le_of_ble_eq_true rfl) (Nat.le_refl _) (Nat.le_refl _) ?_
    refine mw_lld rfl (rfl) (by omega) (by decide) ?_
    rw [show zw_kindSum (zw_s m (zw_numbers m, wy, wg, kS, lN (al B nb (wS way set v)))) (am (ks B nb (wS way set v)) 5) = lN (ks B nb (wS way set v) (am (ks B nb (wS way set v)) 5)) from g2 _ (by omega)]
    repeat (refine mw_to 136 rfl rfl ?_)
    refine mw_pick [0, 1, 2, 5, 7, 9] rfl ?_
    exact K
  intro c
  induction c with
  | zero =>
    intro v s m hc hv hsub hB hL hf
    have e : v = 0 := Nat.le_zero.mp hc
    subst e
    obtain ⟨m1, h1, h2, h3, h4, K1⟩ := step 0 s m hv hB hL hf
    refine ⟨m1, h1, h3, ?_⟩
    intro u hT K
    rw [sG_0] at K
    refine K1 ?_
    repeat (refine mw_step rfl ?_)
    refine mw_brT rfl (rfl) ?_
    repeat (refine mw_step rfl ?_)
    refine mw_brT rfl (rfl) ?_
    refine mw_pick [0, 5, 7] rfl ?_
    exact K
  | succ c ih =>
    intro v s m hc hv hsub hB hL hf
    obtain ⟨m1, h1, h2, h3, h4, K1⟩ := step v s m hv hB hL hf
    by_cases h0 : v = 0
    · subst h0
      refine ⟨m1, h1, h3, ?_⟩
      intro u hT K
      rw [sG_0] at K
      refine K1 ?_
      repeat (refine mw_step rfl ?_)
      refine mw_brT rfl (rfl) ?_
      repeat (refine mw_step rfl ?_)
      refine mw_brT rfl (rfl) ?_
      refine mw_pick [0, 5, 7] rfl ?_
      exact K
    · have hu : (v - 1) &&& set ≤ v - 1 := Nat.and_le_left
      obtain ⟨m2, h5, h6, K2⟩ := ih ((v - 1) &&& set) (s + mx (ks B nb (wS way set v)) 6) m1 (by omega) (by omega) (by rw [Nat.and_assoc, Nat.and_self]) h2 h3 h4
      refine ⟨m2, OR_trans h1 h5, h6, ?_⟩
      intro u hT K
      rw [sG_step _ hs hv hsub h0, ← Nat.add_assoc] at K
      have KK := K2 K
      refine K1 ?_
      repeat (refine mw_step rfl ?_)
      refine mw_brF rfl (nI_ne0 (by omega) (by omega)) ?_
      repeat (refine mw_to 50 rfl rfl ?_)
      rw [b_dec v hv h0, b_and (v - 1) (by omega) set hs]
      repeat (refine mw_step rfl ?_)
      refine mw_brF rfl (by decide) ?_
      refine mw_pick [0, 1, 2, 5, 7, 9] rfl ?_
      exact KK
theorem c_O_namedBy (hnb : ∀ j kt, nb j kt ≤ 100) (h9 : ∀ k, B k ≤ 9) (p set : Nat) (hp : p < 8) (hS : SOK way set set) (hB : OB m B) (hL : LKm m nb) (hf : FW (zp_found m) p way) (h0 : ¬ al B nb way = 0) : ∃ m', OR m m' ∧ LKm m' nb ∧ MC M_O_namedBy 1 0 0 [.ref 39, .int (nI p), .int (nI set), .long (lN (al B nb way))] (heapN N sc x m tl) (some (.int (nI (sp_nm B nb way set)))) (heapN N sc x m' tl) := by
  have hW : WOK B nb := ⟨h9, hnb⟩
  obtain ⟨m', h1, h2, K⟩ := l_O_nm2 (N := N) (sc := sc) (x := x) (tl := tl) (way := way) hnb h9 p set hp hS.1 (lN (al B nb way * 100 ^ cn set 0 6)) 63 set 0 m (by have := hS.1; omega) hS.1 (Nat.and_self set) hB hL hf
  refine ⟨m', h1, h2, ?_⟩
  have b1 := alC_le hW hS
  rw [alC_eq hnb hS, Nat.mul_comm] at b1
  have b2 := nmS_le (B := B) hnb hS
  have bp : 0 < al B nb way * 100 ^ cn set 0 6 := Nat.mul_pos (by omega) (Nat.pow_pos (by omega))
  have L := l_O_nm0 (N := N) (sc := sc) (x := x) (tl := tl) (m := m) p set hS.1 0 (al B nb way) (v := some (.int (nI (sp_nm B nb way set)))) (hT := heapN N sc x m' tl) (by
    repeat (refine mw_step rfl ?_)
    refine mw_brF rfl (by decide) ?_
    refine mw_pick [0, 1, 2, 5, 7, 9] rfl ?_
    refine K ?_
    rw [sG_top _ hS.1, Nat.zero_add]
    show MW _ _ _ _ _ _ _ _ _ [(0, .ref 39), (5, .long (lN (nmS B nb way set))), (7, .long (lN (al B nb way * 100 ^ cn set 0 6)))] _ _
    repeat (refine mw_step rfl ?_)
    refine mw_div rfl (fun e => by have := (pk_lEQ (b := 0) (by omega) (by omega)).mp e; omega) ?_
    rw [show (1000 : Int64) = lN 1000 from rfl, lN_mul, pk_lDiv (by omega) bp (by omega), Nat.mul_comm 1000]
    repeat (refine mw_step rfl ?_)
    rw [lN_i]
    exact mw_r1 rfl trivial (Nat.le_refl _) (Nat.le_refl _) rfl rfl) 6 0 (by omega)
  rw [show al B nb way * 100 ^ cn set 0 0 = al B nb way from Nat.mul_one _] at L
  refine mc_of k1_O_namedBy k2_O_namedBy (Nat.le_of_ble_eq_true rfl) ?_
  repeat (refine mw_to 9 rfl rfl ?_)
  refine mw_pick [0, 1, 2, 5, 7, 9] rfl ?_
  exact L
end ON
