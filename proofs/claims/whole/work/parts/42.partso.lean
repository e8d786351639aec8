/-! parts from rows: the reference -/
noncomputable def sp_ptsO (f : Nat → Int64) (len i : Nat) : Nat → Nat → Nat → zpS → Nat × Nat × zpS
  | 0, c, n, a => (c, n, a)
  | r + 1, c, n, a => by
    have : Decidable (sp_afr f len n (i + 2 * c)) := Classical.propDecidable _
    exact if sp_afr f len n (i + 2 * c) then sp_ptsO f len i r (c + 1) (n + 1) (sp_adds a n (f (i + 2 * c)).toInt32 (f (i + 2 * c + 1)).toInt32) else (c, n, a)
theorem sp_ptsO_no {f : Nat → Int64} {len i r c n : Nat} {a : zpS} (h : ¬ sp_afr f len n (i + 2 * c)) : sp_ptsO f len i (r + 1) c n a = (c, n, a) := by
  rw [sp_ptsO]
  exact if_neg h
theorem sp_ptsO_yes {f : Nat → Int64} {len i r c n : Nat} {a : zpS} (h : sp_afr f len n (i + 2 * c)) : sp_ptsO f len i (r + 1) c n a = sp_ptsO f len i r (c + 1) (n + 1) (sp_adds a n (f (i + 2 * c)).toInt32 (f (i + 2 * c + 1)).toInt32) := by
  rw [sp_ptsO]
  exact if_pos h
theorem n_sub2 {len c : Nat} (h1 : len ≤ 60) (h2 : c ≤ 8) : (nI len - 2 - 2 * nI c).toInt = (len : Int) - 2 - 2 * c := by
  have e1 : (2 : Int32) * nI c = nI (2 * c) := pk_mul 2 c
  have e2 : (nI len - 2).toInt = (len : Int) - 2 := by
    rw [Int32.toInt_sub, nI_toInt (by omega), show (2 : Int32).toInt = 2 from rfl]
    exact Int.bmod_eq_of_le (by omega) (by omega)
  rw [e1, Int32.toInt_sub, e2, nI_toInt (by omega)]
  rw [Int.bmod_eq_of_le (by omega) (by omega)]
  omega
theorem n_sub2_lt {len c i : Nat} (h1 : len ≤ 60) (h2 : c ≤ 8) (hi : i < 2 ^ 31) : nI len - 2 - 2 * nI c < nI i ↔ ¬ i + 2 * c + 1 < len := by
  rw [Int32.lt_iff_toInt_lt, n_sub2 h1 h2, nI_toInt hi]
  omega
theorem c_within9 (h : MH) (v : Int64) [Decidable (sp_d9 v)] : MC M_O_within 0 0 0 [.long v, .long 0, .long 9] h (some (.int (bI (sp_d9 v)))) h := by
  have := c_withinO h v 0 9
  rw [bI_congr (p := 0 ≤ v ∧ v ≤ 9) (q := sp_d9 v) Iff.rfl] at this
  exact this
section PS
variable {sc : Nat × (Nat → Int32)} {x : XS} {N : Nat} {tl : MH}
theorem l_O_parts (a len i k : Nat) (ha : a ≤ 5) (h60 : len ≤ 60) (hi : i < 2 ^ 31) (hk : k ≤ 8) : ∀ r c n (m : OS), zs_many m a = nI len → zs_shelf m a = 50 → zp_parts m = nI n → c + r = k → n ≤ 8 → (c = 0 ∨ i + 2 * c ≤ 62) → MW M_O_parts 2 0 0 (some (.int (nI (sp_ptsO (fun q => zs_items m (60 * a + q)) len i r c n (gP m)).1))) (heapN N sc x (zp_s m (sp_ptsO (fun q => zs_items m (60 * a + q)) len i r c n (gP m)).2.2) tl) 0 0 69 [(0, .ref 39), (1, .int (nI a)), (2, .int (nI i)), (3, .int (nI k)), (4, .int (nI c)), (5, .int 1)] [] (heapN N sc x m tl) := by
  intro r
  induction r with
  | zero =>
    intro c n m hl hs hp hc h8 hb
    repeat (refine mw_step rfl ?_)
    refine mw_brF rfl (by decide) ?_
    repeat (refine mw_step rfl ?_)
    refine mw_brF rfl (n_nlt (by omega) (by omega)) ?_
    repeat (refine mw_step rfl ?_)
    exact mw_r1 rfl trivial (Nat.le_refl _) (Nat.le_refl _) rfl rfl
  | succ r ih =>
    intro c n m hl hs hp hc h8 hb
    have d1 : Decidable (sp_d9 (zs_items m (60 * a + (i + 2 * c)))) := Classical.propDecidable _
    have d2 : Decidable (sp_d9 (zs_items m (60 * a + (i + 2 * c + 1)))) := Classical.propDecidable _
    repeat (refine mw_step rfl ?_)
    refine mw_brF rfl (by decide) ?_
    repeat (refine mw_step rfl ?_)
    refine mw_brT rfl (n_lt (by omega) (by omega)) ?_
    repeat (refine mw_step rfl ?_)
    refine mw_ild rfl (rfl) (by omega) (by decide) ?_
    repeat (refine mw_step rfl ?_)
    rw [hl]
    refine mw_br rfl (fun h1 => ?_) (fun h1 => ?_)
    · have h1 := (n_sub2_lt h60 (by omega) hi).mp h1
      rw [sp_ptsO_no (show ¬ sp_afr (fun q => zs_items m (60 * a + q)) len n (i + 2 * c) from fun z => h1 z.1)]
      repeat (refine mw_step rfl ?_)
      refine mw_brT rfl (rfl) ?_
      repeat (refine mw_step rfl ?_)
      refine mw_brT rfl (rfl) ?_
      repeat (refine mw_step rfl ?_)
      refine mw_brT rfl (rfl) ?_
      repeat (refine mw_step rfl ?_)
      exact mw_r1 rfl trivial (Nat.le_refl _) (Nat.le_refl _) rfl rfl
    · have h1 : i + 2 * c + 1 < len := Classical.not_not.mp (fun z => h1 ((n_sub2_lt h60 (by omega) hi).mpr z))
      have e1 : (60 : Int32) * nI a + nI i + 2 * nI c = nI (60 * a + (i + 2 * c)) := by rw [show (60 : Int32) = nI 60 from rfl, show (2 : Int32) = nI 2 from rfl, pk_mul, pk_mul, nI_add, nI_add, show 60 * a + i + 2 * c = 60 * a + (i + 2 * c) by omega]
      have e2 : nI (60 * a + (i + 2 * c)) + 1 = nI (60 * a + (i + 2 * c + 1)) := by rw [nI_1]; rfl
      repeat (refine mw_step rfl ?_)
      rw [hp]
      by_cases hn : n < 8
      · refine mw_brT rfl (n_lt (b := 8) hn (by omega)) ?_
        repeat (refine mw_step rfl ?_)
        rw [e1]
        refine mw_brF rfl (by decide) ?_
        repeat (refine mw_step rfl ?_)
        refine mw_lld rfl (rfl) (by omega) (by decide) ?_
        repeat (refine mw_step rfl ?_)
        refine mw_call (c_within9 _ (zs_items m (60 * a + (i + 2 * c)))) rfl rfl (Nat.le_of_ble_eq_true rfl) (Nat.le_refl _) (Nat.le_refl _) ?_
        refine mw_br rfl (fun h2 => ?_) (fun h2 => ?_)
        · have h2 := bI_0.mp h2
          rw [sp_ptsO_no (show ¬ sp_afr (fun q => zs_items m (60 * a + q)) len n (i + 2 * c) from fun z => h2 z.2.2.1)]
          repeat (refine mw_step rfl ?_)
          refine mw_brT rfl (rfl) ?_
          repeat (refine mw_step rfl ?_)
          refine mw_brT rfl (rfl) ?_
          repeat (refine mw_step rfl ?_)
          exact mw_r1 rfl trivial (Nat.le_refl _) (Nat.le_refl _) rfl rfl
        · repeat (refine mw_step rfl ?_)
          refine mw_lld rfl (e2) (by omega) (by decide) ?_
          repeat (refine mw_step rfl ?_)
          refine mw_call (c_within9 _ (zs_items m (60 * a + (i + 2 * c + 1)))) rfl rfl (Nat.le_of_ble_eq_true rfl) (Nat.le_refl _) (Nat.le_refl _) ?_
          refine mw_br rfl (fun h3 => ?_) (fun h3 => ?_)
          · have h3 := bI_0.mp h3
            rw [sp_ptsO_no (show ¬ sp_afr (fun q => zs_items m (60 * a + q)) len n (i + 2 * c) from fun z => h3 z.2.2.2)]
            repeat (refine mw_step rfl ?_)
            refine mw_brT rfl (rfl) ?_
            repeat (refine mw_step rfl ?_)
            refine mw_brT rfl (rfl) ?_
            repeat (refine mw_step rfl ?_)
            exact mw_r1 rfl trivial (Nat.le_refl _) (Nat.le_refl _) rfl rfl
          · have ho : sp_afr (fun q => zs_items m (60 * a + q)) len n (i + 2 * c) := ⟨h1, hn, bI_of h2, bI_of h3⟩
            rw [sp_ptsO_yes ho]
            have L := ih (c + 1) (n + 1) (zp_s m (sp_adds (gP m) n (zs_items m (60 * a + (i + 2 * c))).toInt32 (zs_items m (60 * a + (i + 2 * c + 1))).toInt32)) hl hs rfl (by omega) (by omega) (Or.inr (by omega))
            repeat (refine mw_step rfl ?_)
            refine mw_brF rfl (by decide) ?_
            repeat (refine mw_step rfl ?_)
            refine mw_lld rfl (rfl) (by omega) (by decide) ?_
            repeat (refine mw_step rfl ?_)
            refine mw_lld rfl (e2) (by omega) (by decide) ?_
            repeat (refine mw_step rfl ?_)
            refine mw_call (c_O_adds n hn hp _ _) rfl rfl (Nat.le_of_ble_eq_true rfl) (Nat.le_refl _) (Nat.le_refl _) ?_
            repeat (refine mw_to 69 rfl rfl ?_)
            rw [nI_1]
            refine mw_pick [0, 1, 2, 3, 4, 5] rfl ?_
            exact L
      · rw [sp_ptsO_no (show ¬ sp_afr (fun q => zs_items m (60 * a + q)) len n (i + 2 * c) from fun z => hn z.2.1)]
        refine mw_brF rfl (n_nlt (b := 8) (by omega) (by omega)) ?_
        repeat (refine mw_step rfl ?_)
        refine mw_brT rfl (rfl) ?_
        repeat (refine mw_step rfl ?_)
        refine mw_brT rfl (rfl) ?_
        repeat (refine mw_step rfl ?_)
        refine mw_brT rfl (rfl) ?_
        repeat (refine mw_step rfl ?_)
        exact mw_r1 rfl trivial (Nat.le_refl _) (Nat.le_refl _) rfl rfl
variable {m : OS}
theorem c_O_parts_bad (d i n : Int32) (h : ¬ sp_ptsOk d n) : MC M_O_parts 2 0 0 [.ref 39, .int d, .int i, .int n] (heapN N sc x m tl) (some (.int (-1))) (heapN N sc x m tl) := by
  refine mc_of k1_O_parts k2_O_parts (Nat.le_of_ble_eq_true rfl) ?_
  repeat (refine mw_step rfl ?_)
  refine mw_call (c_O_isShelf _ _) rfl rfl (Nat.le_of_ble_eq_true rfl) (Nat.le_refl _) (Nat.le_refl _) ?_
  refine mw_br rfl (fun h1 => ?_) (fun h1 => ?_)
  · repeat (refine mw_step rfl ?_)
    exact mw_r1 rfl trivial (Nat.le_refl _) (Nat.le_refl _) rfl rfl
  · repeat (refine mw_step rfl ?_)
    refine mw_call (c_withinO32 _ n 1 (nI 8)) rfl rfl (Nat.le_of_ble_eq_true rfl) (Nat.le_refl _) (Nat.le_refl _) ?_
    refine mw_br rfl (fun h2 => ?_) (fun h2 => ?_)
    · repeat (refine mw_step rfl ?_)
      exact mw_r1 rfl trivial (Nat.le_refl _) (Nat.le_refl _) rfl rfl
    · exact absurd ⟨bI_of h1, bI_of h2⟩ h
theorem c_O_parts_o (a : Nat) (i n : Int32) (ha : a ≤ 5) (hn : 1 ≤ n ∧ n ≤ nI 8) (hs : ¬ zs_shelf m a < 0) (hs2 : ¬ zs_shelf m a = 50) : MC M_O_parts 2 0 0 [.ref 39, .int (nI a), .int i, .int n] (heapN N sc x m tl) (some (.int (-12))) (heapN N sc x m tl) := by
  refine mc_of k1_O_parts k2_O_parts (Nat.le_of_ble_eq_true rfl) ?_
  repeat (refine mw_step rfl ?_)
  refine mw_call (c_O_isShelf _ _) rfl rfl (Nat.le_of_ble_eq_true rfl) (Nat.le_refl _) (Nat.le_refl _) ?_
  refine mw_brF rfl (bI_ne (rng_in ha (by decide))) ?_
  repeat (refine mw_step rfl ?_)
  refine mw_call (c_withinO32 _ n 1 (nI 8)) rfl rfl (Nat.le_of_ble_eq_true rfl) (Nat.le_refl _) (Nat.le_refl _) ?_
  refine mw_brF rfl (bI_ne hn) ?_
  repeat (refine mw_step rfl ?_)
  refine mw_ild rfl (rfl) (by omega) (by decide) ?_
  refine mw_brF rfl (hs) ?_
  repeat (refine mw_step rfl ?_)
  refine mw_ild rfl (rfl) (by omega) (by decide) ?_
  repeat (refine mw_step rfl ?_)
  refine mw_brF rfl (hs2) ?_
  repeat (refine mw_step rfl ?_)
  exact mw_r1 rfl trivial (Nat.le_refl _) (Nat.le_refl _) rfl rfl
theorem c_O_parts_0 (a : Nat) (i n : Int32) (ha : a ≤ 5) (hn : 1 ≤ n ∧ n ≤ nI 8) (hs : zs_shelf m a < 0) : MC M_O_parts 2 0 0 [.ref 39, .int (nI a), .int i, .int n] (heapN N sc x m tl) (some (.int 0)) (heapN N sc x m tl) := by
  refine mc_of k1_O_parts k2_O_parts (Nat.le_of_ble_eq_true rfl) ?_
  repeat (refine mw_step rfl ?_)
  refine mw_call (c_O_isShelf _ _) rfl rfl (Nat.le_of_ble_eq_true rfl) (Nat.le_refl _) (Nat.le_refl _) ?_
  refine mw_brF rfl (bI_ne (rng_in ha (by decide))) ?_
  repeat (refine mw_step rfl ?_)
  refine mw_call (c_withinO32 _ n 1 (nI 8)) rfl rfl (Nat.le_of_ble_eq_true rfl) (Nat.le_refl _) (Nat.le_refl _) ?_
  refine mw_brF rfl (bI_ne hn) ?_
  repeat (refine mw_step rfl ?_)
  refine mw_ild rfl (rfl) (by omega) (by decide) ?_
  refine mw_brT rfl (hs) ?_
  repeat (refine mw_step rfl ?_)
  refine mw_ild rfl (rfl) (by omega) (by decide) ?_
  repeat (refine mw_step rfl ?_)
  refine mw_brF rfl (fun e => by rw [e] at hs; exact absurd hs (by decide)) ?_
  repeat (refine mw_step rfl ?_)
  refine mw_brT rfl (rfl) ?_
  repeat (refine mw_step rfl ?_)
  exact mw_r1 rfl trivial (Nat.le_refl _) (Nat.le_refl _) rfl rfl
theorem c_O_parts_neg (a : Nat) (i n : Int32) (ha : a ≤ 5) (hn : 1 ≤ n ∧ n ≤ nI 8) (hs : zs_shelf m a = 50) (hi : i < 0) : MC M_O_parts 2 0 0 [.ref 39, .int (nI a), .int i, .int n] (heapN N sc x m tl) (some (.int 0)) (heapN N sc x m tl) := by
  refine mc_of k1_O_parts k2_O_parts (Nat.le_of_ble_eq_true rfl) ?_
  repeat (refine mw_step rfl ?_)
  refine mw_call (c_O_isShelf _ _) rfl rfl (Nat.le_of_ble_eq_true rfl) (Nat.le_refl _) (Nat.le_refl _) ?_
  refine mw_brF rfl (bI_ne (rng_in ha (by decide))) ?_
  repeat (refine mw_step rfl ?_)
  refine mw_call (c_withinO32 _ n 1 (nI 8)) rfl rfl (Nat.le_of_ble_eq_true rfl) (Nat.le_refl _) (Nat.le_refl _) ?_
  refine mw_brF rfl (bI_ne hn) ?_
  repeat (refine mw_step rfl ?_)
  refine mw_ild rfl (rfl) (by omega) (by decide) ?_
  refine mw_brF rfl (by rw [hs]; decide) ?_
  repeat (refine mw_step rfl ?_)
  refine mw_ild rfl (rfl) (by omega) (by decide) ?_
  repeat (refine mw_step rfl ?_)
  refine mw_brT rfl (hs) ?_
  repeat (refine mw_step rfl ?_)
  refine mw_ild rfl (rfl) (by omega) (by decide) ?_
  repeat (refine mw_step rfl ?_)
  refine mw_brT rfl (hs) ?_
  repeat (refine mw_step rfl ?_)
  refine mw_brT rfl (hi) ?_
  repeat (refine mw_step rfl ?_)
  refine mw_brT rfl (rfl) ?_
  repeat (refine mw_step rfl ?_)
  exact mw_r1 rfl trivial (Nat.le_refl _) (Nat.le_refl _) rfl rfl
theorem c_O_parts (a len i k n : Nat) (ha : a ≤ 5) (hk : 1 ≤ nI k ∧ nI k ≤ nI 8) (hk8 : k ≤ 8) (hs : zs_shelf m a = 50) (hl : zs_many m a = nI len) (h60 : len ≤ 60) (hp : zp_parts m = nI n) (h8 : n ≤ 8) (hi : i < 2 ^ 31) : MC M_O_parts 2 0 0 [.ref 39, .int (nI a), .int (nI i), .int (nI k)] (heapN N sc x m tl) (some (.int (nI (sp_ptsO (fun q => zs_items m (60 * a + q)) len i k 0 n (gP m)).1))) (heapN N sc x (zp_s m (sp_ptsO (fun q => zs_items m (60 * a + q)) len i k 0 n (gP m)).2.2) tl) := by
  refine mc_of k1_O_parts k2_O_parts (Nat.le_of_ble_eq_true rfl) ?_
  repeat (refine mw_step rfl ?_)
  refine mw_call (c_O_isShelf _ _) rfl rfl (Nat.le_of_ble_eq_true rfl) (Nat.le_refl _) (Nat.le_refl _) ?_
  refine mw_brF rfl (bI_ne (rng_in ha (by decide))) ?_
  repeat (refine mw_step rfl ?_)
  refine mw_call (c_withinO32 _ (nI k) 1 (nI 8)) rfl rfl (Nat.le_of_ble_eq_true rfl) (Nat.le_refl _) (Nat.le_refl _) ?_
  refine mw_brF rfl (bI_ne hk) ?_
  repeat (refine mw_step rfl ?_)
  refine mw_ild rfl (rfl) (by omega) (by decide) ?_
  refine mw_brF rfl (by rw [hs]; decide) ?_
  repeat (refine mw_step rfl ?_)
  refine mw_ild rfl (rfl) (by omega) (by decide) ?_
  repeat (refine mw_step rfl ?_)
  refine mw_brT rfl (hs) ?_
  repeat (refine mw_step rfl ?_)
  refine mw_ild rfl (rfl) (by omega) (by decide) ?_
  repeat (refine mw_step rfl ?_)
  refine mw_brT rfl (hs) ?_
  repeat (refine mw_step rfl ?_)
  refine mw_brF rfl (nI_pos hi) ?_
  repeat (refine mw_to 69 rfl rfl ?_)
  refine mw_pick [0, 1, 2, 3, 4, 5] rfl ?_
  exact l_O_parts a len i k ha h60 hi hk8 k 0 n m hl hs hp (by omega) h8 (Or.inl rfl)
end PS
