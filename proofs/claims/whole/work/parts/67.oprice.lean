/-! price, believed, spoils: the reference -/
def LKm (m : OS) (nb : Nat → Nat → Nat) : Prop := ∀ j kt, j < 6 → kt < 180 → zw_numbers m (180 * j + kt) = nI (nb j kt)
section OP
variable {N : Nat} {sc : Nat × (Nat → Int32)} {x : XS} {m : OS} {tl : MH} {T : Nat → Option Tx} {B V : Nat → Nat} {n k : Nat} {way : Nat → Nat} {nb : Nat → Nat → Nat} {nbF : Nat → Nat → Nat → Nat} {wyF : Nat → Nat → Nat}
theorem OV_of {m' : OS} (h : OV m V) (hr : OR m m') : OV m' V := by
  obtain ⟨s, w, o, rfl⟩ := hr
  exact h
theorem l_O_priceOf (hW : WOK B nb) (hV : ∀ k, V k ≤ 99) (hVm : OV m V) (hO : OSM m B nb way) (p : Nat) : ∀ r t, t + r = 6 → MW M_O_priceOf 48 0 0 (some (.int (nI (sp_pr V B nb way)))) (heapN N sc x m tl) 0 0 9 [(0, .ref 39), (1, .int (nI p)), (2, .int (nI (sN (fun k => V k * sp_pct B nb way k) t))), (3, .int (nI t))] [] (heapN N sc x m tl) := by
  intro r
  induction r with
  | zero =>
    intro t ht
    have b2 := sp_prs_le (B := B) (nb := nb) (way := way) hV 6 (by omega)
    rw [show t = 6 by omega]
    repeat (refine mw_step rfl ?_)
    refine mw_brF rfl (by decide) ?_
    repeat (refine mw_step rfl ?_)
    refine mw_div rfl (by decide) ?_
    rw [show nI (sN (fun k => V k * sp_pct B nb way k) 6) / 100 = nI (sp_pr V B nb way) from pk_div (d := 100) (by omega) (by omega) (by omega)]
    exact mw_r1 rfl trivial (Nat.le_refl _) (Nat.le_refl _) rfl rfl
  | succ r ih =>
    intro t ht
    have L := ih (t + 1) (by omega)
    rw [sN, ← nI_add, ← pk_mul] at L
    repeat (refine mw_step rfl ?_)
    refine mw_brT rfl (n_lt (b := 6) (by omega) (by omega)) ?_
    repeat (refine mw_step rfl ?_)
    refine mw_ild rfl (show (6 : Int32) + nI t = nI (6 + t) by rw [show (6 : Int32) = nI 6 from rfl, nI_add]) (by omega) (by decide) ?_
    rw [show za_may m (6 + t) = nI (V t) from hVm t (by omega)]
    repeat (refine mw_step rfl ?_)
    refine mw_call (c_O_percentNow hO hW t (by omega)) rfl rfl (Nat.le_of_ble_eq_true rfl) (Nat.le_refl _) (Nat.le_refl _) ?_
    repeat (refine mw_to 9 rfl rfl ?_)
    rw [nI_1]
    refine mw_pick [0, 1, 2, 3] rfl ?_
    exact L
theorem c_O_priceOf (hI : OI T B n m) (hF : OF2 T n m nbF wyF) (hV : ∀ k, V k ≤ 99) (hVm : OV m V) (k : Nat) (hk : k < n) : ∃ m', OR m m' ∧ MC M_O_priceOf 48 0 0 [.ref 39, .int (nI k)] (heapN N sc x m tl) (some (.int (nI (sp_pr V B (nbF k) (wyF k))))) (heapN N sc x m' tl) := by
  obtain ⟨m', h1, h2, h3, C⟩ := c_oF2 (N := N) (sc := sc) (x := x) (tl := tl) hI hF k hk
  refine ⟨m', h1, ?_⟩
  refine mc_of k1_O_priceOf k2_O_priceOf (Nat.le_of_ble_eq_true rfl) ?_
  repeat (refine mw_step rfl ?_)
  refine mw_call (C) rfl rfl (Nat.le_of_ble_eq_true rfl) (Nat.le_refl _) (Nat.le_refl _) ?_
  repeat (refine mw_to 9 rfl rfl ?_)
  refine mw_pick [0, 1, 2, 3] rfl ?_
  exact l_O_priceOf (OF2_WOK hI hF k hk) hV (OV_of hVm h1) h2 k 6 0 (by omega)
theorem l_O_price (hV : ∀ k, V k ≤ 99) : ∀ r t m, OI T B n m → OF2 T n m nbF wyF → OV m V → t + r = n → ∃ m', OR m m' ∧ MW M_O_price 49 0 0 (some (.int (nI (sN (fun i => sp_pr V B (nbF i) (wyF i)) n)))) (heapN N sc x m' tl) 0 0 9 [(0, .ref 39), (2, .int (nI (sN (fun i => sp_pr V B (nbF i) (wyF i)) t))), (3, .int (nI t))] [] (heapN N sc x m tl) := by
  intro r
  induction r with
  | zero =>
    intro t m hI hF hVm ht
    have h8 := hI.2.2.2.2
    refine ⟨m, OR_refl m, ?_⟩
    rw [show t = n by omega]
    repeat (refine mw_step rfl ?_)
    rw [hI.2.2.2.1]
    refine mw_brF rfl (n_nlt (by omega) (by omega)) ?_
    repeat (refine mw_step rfl ?_)
    exact mw_r1 rfl trivial (Nat.le_refl _) (Nat.le_refl _) rfl rfl
  | succ r ih =>
    intro t m hI hF hVm ht
    have h8 := hI.2.2.2.2
    obtain ⟨m1, h1, C⟩ := c_O_priceOf (N := N) (sc := sc) (x := x) (tl := tl) hI hF hV hVm t (by omega)
    obtain ⟨m2, h2, K⟩ := ih (t + 1) m1 (OI_of hI h1) (OF2_of hF h1) (OV_of hVm h1) (by omega)
    refine ⟨m2, OR_trans h1 h2, ?_⟩
    rw [show sN (fun i => sp_pr V B (nbF i) (wyF i)) (t + 1) = sN (fun i => sp_pr V B (nbF i) (wyF i)) t + sp_pr V B (nbF t) (wyF t) from rfl, ← nI_add] at K
    repeat (refine mw_step rfl ?_)
    rw [hI.2.2.2.1]
    refine mw_brT rfl (n_lt (by omega) (by omega)) ?_
    repeat (refine mw_step rfl ?_)
    refine mw_call (C) rfl rfl (Nat.le_of_ble_eq_true rfl) (Nat.le_refl _) (Nat.le_refl _) ?_
    repeat (refine mw_to 9 rfl rfl ?_)
    rw [nI_1]
    refine mw_pick [0, 2, 3] rfl ?_
    exact K
theorem c_O_price_all (hI : OI T B n m) (hF : OF2 T n m nbF wyF) (hV : ∀ k, V k ≤ 99) (hVm : OV m V) : ∃ m', OR m m' ∧ MC M_O_price 49 0 0 [.ref 39, .int (-1)] (heapN N sc x m tl) (some (.int (nI (sN (fun i => sp_pr V B (nbF i) (wyF i)) n)))) (heapN N sc x m' tl) := by
  obtain ⟨m', h1, K⟩ := l_O_price (N := N) (sc := sc) (x := x) (tl := tl) (T := T) (B := B) (nbF := nbF) (wyF := wyF) hV n 0 m hI hF hVm (by omega)
  refine ⟨m', h1, ?_⟩
  refine mc_of k1_O_price k2_O_price (Nat.le_of_ble_eq_true rfl) ?_
  repeat (refine mw_step rfl ?_)
  refine mw_brT rfl (rfl) ?_
  repeat (refine mw_to 9 rfl rfl ?_)
  refine mw_pick [0, 2, 3] rfl ?_
  exact K
theorem c_O_price_bad (hI : OI T B n m) (k : Int32) (h1 : ¬ k = -1) (h : ¬ ∃ j, j < n ∧ k = nI j) : MC M_O_price 49 0 0 [.ref 39, .int k] (heapN N sc x m tl) (some (.int (-1))) (heapN N sc x m tl) := by
  refine mc_of k1_O_price k2_O_price (Nat.le_of_ble_eq_true rfl) ?_
  repeat (refine mw_step rfl ?_)
  refine mw_brF rfl (h1) ?_
  repeat (refine mw_step rfl ?_)
  refine mw_call (c_O_isPart _) rfl rfl (Nat.le_of_ble_eq_true rfl) (Nat.le_refl _) (Nat.le_refl _) ?_
  refine mw_brT rfl (bI_f (fun z => h (n_predN (by have := hI.2.2.2.2; omega) (by rw [hI.2.2.2.1] at z; exact z)))) ?_
  repeat (refine mw_step rfl ?_)
  exact mw_r1 rfl trivial (Nat.le_refl _) (Nat.le_refl _) rfl rfl
theorem c_O_price (hI : OI T B n m) (hF : OF2 T n m nbF wyF) (hV : ∀ k, V k ≤ 99) (hVm : OV m V) (k : Nat) (hk : k < n) : ∃ m', OR m m' ∧ MC M_O_price 49 0 0 [.ref 39, .int (nI k)] (heapN N sc x m tl) (some (.int (nI (sp_pr V B (nbF k) (wyF k))))) (heapN N sc x m' tl) := by
  obtain ⟨m', h1, C⟩ := c_O_priceOf (N := N) (sc := sc) (x := x) (tl := tl) hI hF hV hVm k hk
  refine ⟨m', h1, ?_⟩
  refine mc_of k1_O_price k2_O_price (Nat.le_of_ble_eq_true rfl) ?_
  repeat (refine mw_step rfl ?_)
  refine mw_brF rfl (n_neq (by have := hI.2.2.2.2; omega) (by decide)) ?_
  repeat (refine mw_step rfl ?_)
  refine mw_call (c_O_isPart _) rfl rfl (Nat.le_of_ble_eq_true rfl) (Nat.le_refl _) (Nat.le_refl _) ?_
  refine mw_brF rfl (bI_ne (isPart_of hI hk)) ?_
  repeat (refine mw_step rfl ?_)
  refine mw_call (C) rfl rfl (Nat.le_of_ble_eq_true rfl) (Nat.le_refl _) (Nat.le_refl _) ?_
  repeat (refine mw_step rfl ?_)
  exact mw_r1 rfl trivial (Nat.le_refl _) (Nat.le_refl _) rfl rfl
/-- believed -/
def wyS (mk : Nat) (wy : Nat → Int32) (t : Nat) : Nat → Int32 := fun j => if j < t then nI (wayB 63 mk j) else wy j
theorem wyS_1 (mk : Nat) (wy : Nat → Int32) (t : Nat) : upd (wyS mk wy t) t (nI (wayB 63 mk t)) = wyS mk wy (t + 1) := by
  funext j
  unfold upd wyS
  by_cases h : j = t
  · rw [if_pos h, if_pos (by omega), h]
  · rw [if_neg h]
    by_cases h2 : j < t
    · rw [if_pos h2, if_pos (by omega)]
    · rw [if_neg h2, if_neg (by omega)]
theorem wyS_0 (mk : Nat) (wy : Nat → Int32) : wyS mk wy 0 = wy := by
  funext j
  exact if_neg (by omega)
theorem b63 : ∀ j, j < 6 → (63 : Nat).testBit j = true := by decide
theorem wayB63 {mk j : Nat} (hj : j < 6) : wayB 63 mk j = if mk.testBit j = true then 1 else 2 := by
  unfold wayB
  rw [if_pos (b63 j hj)]
theorem l_O_bel (mk : Nat) (hmk : mk < 64) (w0 : zwS) {v : Option Value} {hT : MH} (K : MW M_O_believedBy 1 0 0 v hT 0 0 34 [(0, .ref 39)] [] (heapN N sc x (zw_s m (w0.1, wyS mk w0.2.1 6, w0.2.2.1, w0.2.2.2.1, w0.2.2.2.2)) tl)) : ∀ r t, t + r = 6 → MW M_O_believedBy 1 0 0 v hT 0 0 2 [(0, .ref 39), (1, .int (nI mk)), (2, .int (nI t))] [] (heapN N sc x (zw_s m (w0.1, wyS mk w0.2.1 t, w0.2.2.1, w0.2.2.2.1, w0.2.2.2.2)) tl) := by
  intro r
  induction r with
  | zero =>
    intro t ht
    rw [show t = 6 by omega]
    repeat (refine mw_step rfl ?_)
    refine mw_brF rfl (by decide) ?_
    refine mw_pick [0] rfl ?_
    exact K
  | succ r ih =>
    intro t ht
    have L := ih (t + 1) (by omega)
    rw [← wyS_1 mk w0.2.1 t, wayB63 (show t < 6 by omega)] at L
    repeat (refine mw_step rfl ?_)
    refine mw_brT rfl (n_lt (b := 6) (by omega) (by omega)) ?_
    repeat (refine mw_step rfl ?_)
    by_cases h : mk.testBit t = true
    · rw [if_pos h] at L
      refine mw_brT rfl ((b_has _ hmk _ (by omega)).mpr h) ?_
      repeat (refine mw_step rfl ?_)
      refine mw_ist rfl (rfl) (by omega) (by decide) ?_
      repeat (refine mw_to 2 rfl rfl ?_)
      rw [nI_1]
      refine mw_pick [0, 1, 2] rfl ?_
      exact L
    · rw [if_neg h] at L
      refine mw_brF rfl (fun z => h ((b_has _ hmk _ (by omega)).mp z)) ?_
      repeat (refine mw_step rfl ?_)
      refine mw_ist rfl (rfl) (by omega) (by decide) ?_
      repeat (refine mw_to 2 rfl rfl ?_)
      rw [nI_1]
      refine mw_pick [0, 1, 2] rfl ?_
      exact L
theorem c_O_believedBy (hB : OB m B) (h9 : ∀ k, B k ≤ 9) (hnb : ∀ j kt, nb j kt ≤ 100) (hL : LKm m nb) (mk : Nat) (hmk : mk < 64) : ∃ w : zwS, w.1 = zw_numbers m ∧ MC M_O_believedBy 1 0 0 [.ref 39, .int (nI mk)] (heapN N sc x m tl) (some (.int (nI (sp_pct B nb (wayB 63 mk) 0)))) (heapN N sc x (zw_s m w) tl) := by
  have hW : WIN (zw_s m (zw_numbers m, wyS mk (zw_way m) 6, zw_weight m, zw_kindSum m, zw_allSum m)) B nb (wayB 63 mk) := ⟨hB, h9, hnb, hL, fun j hj => ⟨if_pos hj, by rw [wayB63 hj]; split <;> omega⟩⟩
  obtain ⟨wg, kS, g1, g2, D⟩ := c_O_weighs (N := N) (sc := sc) (x := x) (tl := tl) hW
  refine ⟨(zw_numbers m, wyS mk (zw_way m) 6, wg, kS, lN (al B nb (wayB 63 mk))), rfl, ?_⟩
  have L := l_O_bel (N := N) (sc := sc) (x := x) (tl := tl) (m := m) mk hmk (zw_numbers m, zw_way m, zw_weight m, zw_kindSum m, zw_allSum m) (v := some (.int (nI (sp_pct B nb (wayB 63 mk) 0)))) (hT := heapN N sc x (zw_s m (zw_numbers m, wyS mk (zw_way m) 6, wg, kS, lN (al B nb (wayB 63 mk)))) tl) (by
    repeat (refine mw_step rfl ?_)
    refine mw_call (D) rfl rfl (Nat.le_of_ble_eq_true rfl) (Nat.le_refl _) (Nat.le_refl _) ?_
    repeat (refine mw_step rfl ?_)
    refine mw_call (c_O_percentNow (B := B) (nb := nb) (way := wayB 63 mk) (m := zw_s m (zw_numbers m, wyS mk (zw_way m) 6, wg, kS, lN (al B nb (wayB 63 mk)))) ⟨g1, g2, rfl⟩ ⟨h9, hnb⟩ 0 (by omega)) rfl rfl (Nat.le_of_ble_eq_true rfl) (Nat.le_refl _) (Nat.le_refl _) ?_
    exact mw_r1 rfl trivial (Nat.le_refl _) (Nat.le_refl _) rfl rfl) 6 0 (by omega)
  rw [wyS_0] at L
  refine mc_of k1_O_believedBy k2_O_believedBy (Nat.le_of_ble_eq_true rfl) ?_
  repeat (refine mw_to 2 rfl rfl ?_)
  refine mw_pick [0, 1, 2] rfl ?_
  exact L
theorem c_O_believed_bad (hI : OI T B n m) (k mk : Int32) (h : ¬ ((∃ j, j < n ∧ k = nI j) ∧ (0 ≤ mk ∧ mk ≤ nI 63))) : MC M_O_believed 47 0 0 [.ref 39, .int k, .int mk] (heapN N sc x m tl) (some (.int (-1))) (heapN N sc x m tl) := by
  refine mc_of k1_O_believed k2_O_believed (Nat.le_of_ble_eq_true rfl) ?_
  repeat (refine mw_step rfl ?_)
  refine mw_call (c_O_isPart _) rfl rfl (Nat.le_of_ble_eq_true rfl) (Nat.le_refl _) (Nat.le_refl _) ?_
  refine mw_br rfl (fun h1 => ?_) (fun h1 => ?_)
  · repeat (refine mw_step rfl ?_)
    exact mw_r1 rfl trivial (Nat.le_refl _) (Nat.le_refl _) rfl rfl
  · repeat (refine mw_step rfl ?_)
    refine mw_call (c_withinO32 _ mk 0 (nI 63)) rfl rfl (Nat.le_of_ble_eq_true rfl) (Nat.le_refl _) (Nat.le_refl _) ?_
    refine mw_br rfl (fun h2 => ?_) (fun h2 => ?_)
    · repeat (refine mw_step rfl ?_)
      exact mw_r1 rfl trivial (Nat.le_refl _) (Nat.le_refl _) rfl rfl
    · exact absurd ⟨n_predN (by have := hI.2.2.2.2; omega) (by have := bI_of h1; rw [hI.2.2.2.1] at this; exact this), bI_of h2⟩ h
/-- looking at a piece -/
theorem c_oL (hI : OI T B n m) (hk : k < n) : ∃ m', OR m m' ∧ LKm m' (nbO T m k) ∧ (∀ j, j < 6 → zw_way m' j = zp_found m (6 * k + j)) ∧ MC M_O_looksAt 46 0 0 [.ref 39, .int (nI k)] (heapN N sc x m tl) none (heapN N sc x m' tl) := by
  obtain ⟨s, nm, wy, h1, h2, C⟩ := c_O_looksAt (N := N) (sc := sc) (x := x) (tl := tl) hI.1 k (by have := hI.2.2.2.2; omega)
  exact ⟨_, OR_oX m s _, fun j kt hj hkt => NV_at h1 j kt hj hkt, h2, C⟩
theorem OR_zw (m : OS) (w : zwS) : OR m (zw_s m w) := ⟨(zt_base m, zt_at m, zt_ends m, zt_fault m, zt_opened m, zt_names m), w, (zo_trueWhen m, zo_sorted m), rfl⟩
theorem c_O_believed (hI : OI T B n m) (hk : k < n) (mk : Nat) (hmk : mk < 64) : ∃ m', OR m m' ∧ MC M_O_believed 47 0 0 [.ref 39, .int (nI k), .int (nI mk)] (heapN N sc x m tl) (some (.int (nI (sp_pct B (nbO T m k) (wayB 63 mk) 0)))) (heapN N sc x m' tl) := by
  obtain ⟨m1, h1, h2, h3, C⟩ := c_oL (N := N) (sc := sc) (x := x) (tl := tl) hI hk
  have hI1 := OI_of hI h1
  obtain ⟨w, hw, D⟩ := c_O_believedBy (N := N) (sc := sc) (x := x) (tl := tl) hI1.2.1 hI.2.2.1 (fun j kt => nbW_le _ _ _ _ _) h2 mk hmk
  refine ⟨_, OR_trans h1 (OR_zw m1 w), ?_⟩
  refine mc_of k1_O_believed k2_O_believed (Nat.le_of_ble_eq_true rfl) ?_
  repeat (refine mw_step rfl ?_)
  refine mw_call (c_O_isPart _) rfl rfl (Nat.le_of_ble_eq_true rfl) (Nat.le_refl _) (Nat.le_refl _) ?_
  refine mw_brF rfl (bI_ne (isPart_of hI hk)) ?_
  repeat (refine mw_step rfl ?_)
  refine mw_call (c_withinO32 _ (nI mk) 0 (nI 63)) rfl rfl (Nat.le_of_ble_eq_true rfl) (Nat.le_refl _) (Nat.le_refl _) ?_
  refine mw_brF rfl (bI_ne (rng_in (by omega) (by decide))) ?_
  repeat (refine mw_step rfl ?_)
  refine mw_call (C) rfl rfl (Nat.le_of_ble_eq_true rfl) (Nat.le_refl _) (Nat.le_refl _) ?_
  repeat (refine mw_step rfl ?_)
  refine mw_call (D) rfl rfl (Nat.le_of_ble_eq_true rfl) (Nat.le_refl _) (Nat.le_refl _) ?_
  exact mw_r1 rfl trivial (Nat.le_refl _) (Nat.le_refl _) rfl rfl
theorem l_O_spoils (hnb : ∀ j kt, nb j kt ≤ 100) (h9 : ∀ k, B k ≤ 9) (mk : Nat) (hmk : mk < 64) : ∀ r t m, OB m B → LKm m nb → t + r = 6 → ∃ m', OR m m' ∧ MW M_O_spoils 47 0 0 (some (.int (sl (spC mk) (spG B nb mk) 6).1)) (heapN N sc x m' tl) 0 0 36 [(0, .ref 39), (2, .int (nI mk)), (3, .int (sl (spC mk) (spG B nb mk) t).1), (4, .int (nI (sl (spC mk) (spG B nb mk) t).2)), (5, .int (nI t))] [] (heapN N sc x m tl) := by
  intro r
  induction r with
  | zero =>
    intro t m hB hL ht
    refine ⟨m, OR_refl m, ?_⟩
    rw [show t = 6 by omega]
    repeat (refine mw_step rfl ?_)
    refine mw_brF rfl (by decide) ?_
    repeat (refine mw_step rfl ?_)
    exact mw_r1 rfl trivial (Nat.le_refl _) (Nat.le_refl _) rfl rfl
  | succ r ih =>
    intro t m hB hL ht
    have h64 : 2 ^ t < 64 := p2_lt (by omega)
    have hg : ∀ j, spG B nb mk j ≤ 100 := fun j => sp_pct_le (by omega)
    by_cases hb : mk.testBit t = true
    · have hm2 : mk &&& (2 ^ t ^^^ 63) < 64 := b_and_lt hmk
      obtain ⟨w, hw, D⟩ := c_O_believedBy (N := N) (sc := sc) (x := x) (tl := tl) hB h9 hnb hL (mk &&& (2 ^ t ^^^ 63)) hm2
      obtain ⟨m2, h2, K⟩ := ih (t + 1) (zw_s m w) hB (fun j kt hj hkt => by
        show w.1 (180 * j + kt) = _
        rw [hw]
        exact hL j kt hj hkt) (by omega)
      refine ⟨m2, OR_trans (OR_zw m w) h2, ?_⟩
      have b1 := hg t
      have b2 := sl_le (spC mk) (spG B nb mk) hg t (by omega)
      rw [sl_s (spC mk) (spG B nb mk) t, if_pos (show spC mk t from hb)] at K
      repeat (refine mw_step rfl ?_)
      refine mw_brT rfl (n_lt (b := 6) (by omega) (by omega)) ?_
      repeat (refine mw_step rfl ?_)
      refine mw_brT rfl ((b_has _ hmk _ (by omega)).mpr hb) ?_
      repeat (refine mw_step rfl ?_)
      rw [b_sh t (by omega), b_andn mk hmk _ h64]
      refine mw_call (D) rfl rfl (Nat.le_of_ble_eq_true rfl) (Nat.le_refl _) (Nat.le_refl _) ?_
      repeat (refine mw_step rfl ?_)
      refine mw_brF rfl (nI_pos (n := spG B nb mk t) (by omega)) ?_
      repeat (refine mw_step rfl ?_)
      by_cases hn : (sl (spC mk) (spG B nb mk) t).1 = -2
      · rw [if_pos (Or.inl hn)] at K
        refine mw_brT rfl ((sl_neg _ _ t (by omega)).mpr hn) ?_
        repeat (refine mw_to 36 rfl rfl ?_)
        rw [nI_1]
        refine mw_pick [0, 2, 3, 4, 5] rfl ?_
        exact K
      · refine mw_brF rfl (fun z => hn ((sl_neg _ _ t (by omega)).mp z)) ?_
        repeat (refine mw_step rfl ?_)
        by_cases hl : spG B nb mk t < (sl (spC mk) (spG B nb mk) t).2
        · rw [if_pos (Or.inr hl)] at K
          refine mw_brT rfl (n_lt hl (by omega)) ?_
          repeat (refine mw_to 36 rfl rfl ?_)
          rw [nI_1]
          refine mw_pick [0, 2, 3, 4, 5] rfl ?_
          exact K
        · rw [if_neg (fun z => z.elim hn hl)] at K
          refine mw_brF rfl (n_nlt (a := spG B nb mk t) (by omega) (by omega)) ?_
          repeat (refine mw_to 36 rfl rfl ?_)
          rw [nI_1]
          refine mw_pick [0, 2, 3, 4, 5] rfl ?_
          exact K
    · obtain ⟨m2, h2, K⟩ := ih (t + 1) m hB hL (by omega)
      refine ⟨m2, h2, ?_⟩
      rw [sl_s (spC mk) (spG B nb mk) t, if_neg (show ¬ spC mk t from hb)] at K
      repeat (refine mw_step rfl ?_)
      refine mw_brT rfl (n_lt (b := 6) (by omega) (by omega)) ?_
      repeat (refine mw_step rfl ?_)
      refine mw_brF rfl (fun z => hb ((b_has _ hmk _ (by omega)).mp z)) ?_
      repeat (refine mw_step rfl ?_)
      refine mw_brT rfl (m1_neg) ?_
      repeat (refine mw_to 36 rfl rfl ?_)
      rw [nI_1]
      refine mw_pick [0, 2, 3, 4, 5] rfl ?_
      exact K
theorem c_O_spoils_bad (hI : OI T B n m) (k mk : Int32) (h : ¬ ((∃ j, j < n ∧ k = nI j) ∧ (0 ≤ mk ∧ mk ≤ nI 63))) : MC M_O_spoils 47 0 0 [.ref 39, .int k, .int mk] (heapN N sc x m tl) (some (.int (-1))) (heapN N sc x m tl) := by
  refine mc_of k1_O_spoils k2_O_spoils (Nat.le_of_ble_eq_true rfl) ?_
  repeat (refine mw_step rfl ?_)
  refine mw_call (c_O_isPart _) rfl rfl (Nat.le_of_ble_eq_true rfl) (Nat.le_refl _) (Nat.le_refl _) ?_
  refine mw_br rfl (fun h1 => ?_) (fun h1 => ?_)
  · repeat (refine mw_step rfl ?_)
    exact mw_r1 rfl trivial (Nat.le_refl _) (Nat.le_refl _) rfl rfl
  · repeat (refine mw_step rfl ?_)
    refine mw_call (c_withinO32 _ mk 0 (nI 63)) rfl rfl (Nat.le_of_ble_eq_true rfl) (Nat.le_refl _) (Nat.le_refl _) ?_
    refine mw_br rfl (fun h2 => ?_) (fun h2 => ?_)
    · repeat (refine mw_step rfl ?_)
      exact mw_r1 rfl trivial (Nat.le_refl _) (Nat.le_refl _) rfl rfl
    · exact absurd ⟨n_predN (by have := hI.2.2.2.2; omega) (by have := bI_of h1; rw [hI.2.2.2.1] at this; exact this), bI_of h2⟩ h
theorem c_O_spoils (hI : OI T B n m) (hk : k < n) (mk : Nat) (hmk : mk < 64) : ∃ m', OR m m' ∧ MC M_O_spoils 47 0 0 [.ref 39, .int (nI k), .int (nI mk)] (heapN N sc x m tl) (some (.int (sl (spC mk) (spG B (nbO T m k) mk) 6).1)) (heapN N sc x m' tl) := by
  obtain ⟨m1, h1, h2, h3, C⟩ := c_oL (N := N) (sc := sc) (x := x) (tl := tl) hI hk
  have hI1 := OI_of hI h1
  obtain ⟨m2, h4, K⟩ := l_O_spoils (N := N) (sc := sc) (x := x) (tl := tl) (B := B) (nb := nbO T m k) (fun j kt => nbW_le _ _ _ _ _) hI.2.2.1 mk hmk 6 0 m1 hI1.2.1 h2 (by omega)
  refine ⟨m2, OR_trans h1 h4, ?_⟩
  refine mc_of k1_O_spoils k2_O_spoils (Nat.le_of_ble_eq_true rfl) ?_
  repeat (refine mw_step rfl ?_)
  refine mw_call (c_O_isPart _) rfl rfl (Nat.le_of_ble_eq_true rfl) (Nat.le_refl _) (Nat.le_refl _) ?_
  refine mw_brF rfl (bI_ne (isPart_of hI hk)) ?_
  repeat (refine mw_step rfl ?_)
  refine mw_call (c_withinO32 _ (nI mk) 0 (nI 63)) rfl rfl (Nat.le_of_ble_eq_true rfl) (Nat.le_refl _) (Nat.le_refl _) ?_
  refine mw_brF rfl (bI_ne (rng_in (by omega) (by decide))) ?_
  repeat (refine mw_step rfl ?_)
  refine mw_call (C) rfl rfl (Nat.le_of_ble_eq_true rfl) (Nat.le_refl _) (Nat.le_refl _) ?_
  repeat (refine mw_to 36 rfl rfl ?_)
  refine mw_pick [0, 2, 3, 4, 5] rfl ?_
  exact K
end OP
