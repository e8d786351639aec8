/-! percent, likeliest, when, likely: the reference -/
/-- what a call may change in the reference besides -/
def OR (m m' : OS) : Prop := ∃ s w o, m' = zo_s (oX m s w) o
theorem OR_refl (m : OS) : OR m m := ⟨(zt_base m, zt_at m, zt_ends m, zt_fault m, zt_opened m, zt_names m), (zw_numbers m, zw_way m, zw_weight m, zw_kindSum m, zw_allSum m), (zo_trueWhen m, zo_sorted m), rfl⟩
theorem OR_trans {m m' m'' : OS} (h1 : OR m m') (h2 : OR m' m'') : OR m m'' := by
  obtain ⟨s1, w1, o1, rfl⟩ := h1
  obtain ⟨s2, w2, o2, rfl⟩ := h2
  exact ⟨s2, w2, o2, rfl⟩
theorem OR_oX (m : OS) (s : zcS) (w : zwS) : OR m (oX m s w) := ⟨s, w, (zo_trueWhen m, zo_sorted m), rfl⟩
/-- what calls need of the reference -/
def OI (T : Nat → Option Tx) (B : Nat → Nat) (n : Nat) (m : OS) : Prop := OLK m T ∧ OB m B ∧ (∀ k, B k ≤ 9) ∧ zp_parts m = nI n ∧ n ≤ 8
theorem OI_of {T : Nat → Option Tx} {B : Nat → Nat} {n : Nat} {m m' : OS} (h : OI T B n m) (hr : OR m m') : OI T B n m' := by
  obtain ⟨s, w, o, rfl⟩ := hr
  obtain ⟨h1, h2, h3, h4, h5⟩ := h
  exact ⟨OLK_congr rfl rfl h1, h2, h3, h4, h5⟩
section O2
variable {N : Nat} {sc : Nat × (Nat → Int32)} {x : XS} {m : OS} {tl : MH} {T : Nat → Option Tx} {B : Nat → Nat} {n k : Nat} {way : Nat → Nat}
abbrev nbO (T : Nat → Option Tx) (m : OS) (k : Nat) : Nat → Nat → Nat := nbW T (zp_wood m k) (zp_place m k)
theorem c_oF (hI : OI T B n m) (hk : k < n) (hf : FW (zp_found m) k way) : ∃ m', OR m m' ∧ OSM m' B (nbO T m k) way ∧ WIN m' B (nbO T m k) way ∧ MC M_O_weighsPart 47 0 0 [.ref 39, .int (nI k)] (heapN N sc x m tl) none (heapN N sc x m' tl) := by
  obtain ⟨s, w, h1, h2, C⟩ := c_O_weighsPart (N := N) (sc := sc) (x := x) (tl := tl) hI.1 hI.2.1 hI.2.2.1 k (by have := hI.2.2.2.2; omega) hf
  exact ⟨_, OR_oX m s w, h1, h2, C⟩
theorem sp_pk_nn {pk : Int32} (h : sp_pk n pk) (hN : n ≤ 8) : ¬ pk < 0 := sp_pm_nn (N := n) h hN
theorem c_O_isPk (hI : OI T B n m) (pk : Int32) [Decidable (sp_pk n pk)] : MC M_O_isPk 2 0 0 [.ref 39, .int pk] (heapN N sc x m tl) (some (.int (bI (sp_pk n pk)))) (heapN N sc x m tl) := by
  have hp := hI.2.2.2.1
  have hn := hI.2.2.2.2
  refine mc_of k1_O_isPk k2_O_isPk (Nat.le_of_ble_eq_true rfl) ?_
  repeat (refine mw_step rfl ?_)
  refine mw_br rfl (fun h0 => ?_) (fun h0 => ?_)
  · repeat (refine mw_step rfl ?_)
    exact mw_r1 rfl rfl (Nat.le_refl _) (Nat.le_refl _) (by rw [bI_f]; exact fun z => sp_pk_nn z hn h0) rfl
  · repeat (refine mw_step rfl ?_)
    refine mw_div rfl (by decide) ?_
    refine mw_call (c_O_isPart _) rfl rfl (Nat.le_of_ble_eq_true rfl) (Nat.le_refl _) (Nat.le_refl _) ?_
    refine mw_br rfl (fun h1 => ?_) (fun h1 => ?_)
    · repeat (refine mw_step rfl ?_)
      exact mw_r1 rfl rfl (Nat.le_refl _) (Nat.le_refl _) (by rw [bI_f]; rintro ⟨⟨k, hk, e⟩, -⟩; exact bI_0.mp h1 (by rw [e, hp]; exact n_predI hk (by omega))) rfl
    · repeat (refine mw_step rfl ?_)
      refine mw_div rfl (by decide) ?_
      refine mw_call (c_O_isKind _ _) rfl rfl (Nat.le_of_ble_eq_true rfl) (Nat.le_refl _) (Nat.le_refl _) ?_
      refine mw_br rfl (fun h2 => ?_) (fun h2 => ?_)
      · repeat (refine mw_step rfl ?_)
        exact mw_r1 rfl rfl (Nat.le_refl _) (Nat.le_refl _) (by rw [bI_f]; rintro ⟨-, z⟩; exact bI_0.mp h2 z) rfl
      · repeat (refine mw_step rfl ?_)
        exact mw_r1 rfl rfl (Nat.le_refl _) (Nat.le_refl _) (by rw [bI_t ⟨n_predN (by omega) (by have := bI_of h1; rw [hp] at this; exact this), bI_of h2⟩]) rfl
theorem c_O_percent_bad (hI : OI T B n m) (pk : Int32) (h : ¬ sp_pk n pk) : MC M_O_percent 48 0 0 [.ref 39, .int pk] (heapN N sc x m tl) (some (.int (-1))) (heapN N sc x m tl) := by
  have : Decidable (sp_pk n pk) := Classical.propDecidable _
  refine mc_of k1_O_percent k2_O_percent (Nat.le_of_ble_eq_true rfl) ?_
  repeat (refine mw_step rfl ?_)
  refine mw_call (c_O_isPk hI pk) rfl rfl (Nat.le_of_ble_eq_true rfl) (Nat.le_refl _) (Nat.le_refl _) ?_
  refine mw_brT rfl (bI_f h) ?_
  repeat (refine mw_step rfl ?_)
  exact mw_r1 rfl trivial (Nat.le_refl _) (Nat.le_refl _) rfl rfl
theorem pk_of {pk : Int32} {kd : Nat} (hk : k < n) (e1 : pk / 10 = nI k) (e2 : pk - pk / 10 * 10 = nI kd) (hkd : kd < 6) : sp_pk n pk := ⟨⟨k, hk, e1⟩, by rw [e2]; exact rng_in (by omega) (by decide)⟩
theorem c_O_percent (hI : OI T B n m) (hk : k < n) (hf : FW (zp_found m) k way) (pk : Int32) (kd : Nat) (e1 : pk / 10 = nI k) (e2 : pk - pk / 10 * 10 = nI kd) (hkd : kd < 6) : ∃ m', OR m m' ∧ MC M_O_percent 48 0 0 [.ref 39, .int pk] (heapN N sc x m tl) (some (.int (nI (sp_pct B (nbO T m k) way kd)))) (heapN N sc x m' tl) := by
  have : Decidable (sp_pk n pk) := Classical.propDecidable _
  obtain ⟨m', h1, h2, h3, C⟩ := c_oF (N := N) (sc := sc) (x := x) (tl := tl) hI hk hf
  refine ⟨m', h1, ?_⟩
  refine mc_of k1_O_percent k2_O_percent (Nat.le_of_ble_eq_true rfl) ?_
  repeat (refine mw_step rfl ?_)
  refine mw_call (c_O_isPk hI pk) rfl rfl (Nat.le_of_ble_eq_true rfl) (Nat.le_refl _) (Nat.le_refl _) ?_
  refine mw_brF rfl (bI_ne (pk_of hk e1 e2 hkd)) ?_
  repeat (refine mw_step rfl ?_)
  refine mw_div rfl (by decide) ?_
  rw [show pk / 10 = nI k from e1]
  refine mw_call (C) rfl rfl (Nat.le_of_ble_eq_true rfl) (Nat.le_refl _) (Nat.le_refl _) ?_
  repeat (refine mw_step rfl ?_)
  refine mw_div rfl (by decide) ?_
  rw [show pk - pk / 10 * 10 = nI kd from e2]
  refine mw_call (c_O_percentNow h2 (WOK_of hI.2.2.1 _ _) kd hkd) rfl rfl (Nat.le_of_ble_eq_true rfl) (Nat.le_refl _) (Nat.le_refl _) ?_
  exact mw_r1 rfl trivial (Nat.le_refl _) (Nat.le_refl _) rfl rfl
theorem c_O_likeliest_bad (hI : OI T B n m) (k : Int32) (h : ¬ ∃ j, j < n ∧ k = nI j) : MC M_O_likeliest 48 0 0 [.ref 39, .int k] (heapN N sc x m tl) (some (.int (-1))) (heapN N sc x m tl) := by
  refine mc_of k1_O_likeliest k2_O_likeliest (Nat.le_of_ble_eq_true rfl) ?_
  repeat (refine mw_step rfl ?_)
  refine mw_call (c_O_isPart _) rfl rfl (Nat.le_of_ble_eq_true rfl) (Nat.le_refl _) (Nat.le_refl _) ?_
  refine mw_brT rfl (bI_f (fun z => h (n_predN (by have := hI.2.2.2.2; omega) (by rw [hI.2.2.2.1] at z; exact z)))) ?_
  repeat (refine mw_step rfl ?_)
  exact mw_r1 rfl trivial (Nat.le_refl _) (Nat.le_refl _) rfl rfl
theorem isPart_of (hI : OI T B n m) (hk : k < n) : 0 ≤ nI k ∧ nI k ≤ zp_parts m - 1 := by
  rw [hI.2.2.2.1]
  exact n_predI hk (by have := hI.2.2.2.2; omega)
theorem ks_lt {nb : Nat → Nat → Nat} (hW : WOK B nb) (j : Nat) : ks B nb way j < 2 ^ 62 := Nat.lt_of_le_of_lt (ks_le hW j) (by decide)
theorem c_O_likeliest (hI : OI T B n m) (hk : k < n) (hf : FW (zp_found m) k way) : ∃ m', OR m m' ∧ MC M_O_likeliest 48 0 0 [.ref 39, .int (nI k)] (heapN N sc x m tl) (some (.int (sp_ml B (nbO T m k) way))) (heapN N sc x m' tl) := by
  obtain ⟨m', h1, h2, h3, C⟩ := c_oF (N := N) (sc := sc) (x := x) (tl := tl) hI hk hf
  refine ⟨m', h1, ?_⟩
  have hW : WOK B (nbO T m k) := WOK_of hI.2.2.1 _ _
  have b1 := al_le (way := way) hW
  unfold sp_ml
  refine mc_of k1_O_likeliest k2_O_likeliest (Nat.le_of_ble_eq_true rfl) ?_
  repeat (refine mw_step rfl ?_)
  refine mw_call (c_O_isPart _) rfl rfl (Nat.le_of_ble_eq_true rfl) (Nat.le_refl _) (Nat.le_refl _) ?_
  refine mw_brF rfl (bI_ne (isPart_of hI hk)) ?_
  repeat (refine mw_step rfl ?_)
  refine mw_call (C) rfl rfl (Nat.le_of_ble_eq_true rfl) (Nat.le_refl _) (Nat.le_refl _) ?_
  repeat (refine mw_step rfl ?_)
  rw [show zw_allSum m' = lN (al B (nbO T m k) way) from h2.2.2]
  by_cases h0 : al B (nbO T m k) way = 0
  · refine mw_brT rfl (by rw [lg_eq0, h0]; rfl) ?_
    repeat (refine mw_step rfl ?_)
    exact mw_r1 rfl trivial (Nat.le_refl _) (Nat.le_refl _) (by rw [if_pos h0]) rfl
  · refine mw_brF rfl (by rw [lg_eq0]; exact fun e => h0 ((pk_lEQ (b := 0) (by omega) (by omega)).mp e)) ?_
    repeat (refine mw_step rfl ?_)
    refine mw_call (c_O_mostOf h2.2.1 (fun j _ => ks_lt hW j)) rfl rfl (Nat.le_of_ble_eq_true rfl) (Nat.le_refl _) (Nat.le_refl _) ?_
    exact mw_r1 rfl trivial (Nat.le_refl _) (Nat.le_refl _) (by rw [if_neg h0]) rfl
theorem l_O_whenNow {f : Nat → Nat} (kd : Nat) (hkd : kd < 6) (hs : ∀ y, y < 30 → zw_weight m (30 * kd + y) = lN (f y)) (hf : ∀ y, f y < 2 ^ 62) : ∀ r t, t + r = 29 → MW M_O_whenNow 0 0 0 (some (.int (nI (am f 29)))) (heapN N sc x m tl) 0 0 4 [(0, .ref 39), (1, .int (nI kd)), (2, .int (nI (am f t))), (3, .int (nI (t + 1)))] [] (heapN N sc x m tl) := by
  intro r
  induction r with
  | zero =>
    intro t ht
    rw [show t = 29 by omega]
    repeat (refine mw_step rfl ?_)
    refine mw_brF rfl (by decide) ?_
    repeat (refine mw_step rfl ?_)
    exact mw_r1 rfl trivial (Nat.le_refl _) (Nat.le_refl _) rfl rfl
  | succ r ih =>
    intro t ht
    have L := ih (t + 1) (by omega)
    have hl := am_le f t
    have h1 := hf (t + 1)
    have h2 := hf (am f t)
    rw [am_s f t] at L
    repeat (refine mw_step rfl ?_)
    refine mw_brT rfl (n_lt (b := 30) (by omega) (by omega)) ?_
    repeat (refine mw_step rfl ?_)
    refine mw_lld rfl (show (30 : Int32) * nI kd + nI (t + 1) = nI (30 * kd + (t + 1)) by rw [show (30 : Int32) = nI 30 from rfl, pk_mul, nI_add]) (by omega) (by decide) ?_
    rw [hs (t + 1) (by omega)]
    repeat (refine mw_step rfl ?_)
    refine mw_lld rfl (show (30 : Int32) * nI kd + nI (am f t) = nI (30 * kd + am f t) by rw [show (30 : Int32) = nI 30 from rfl, pk_mul, nI_add]) (by omega) (by decide) ?_
    rw [hs (am f t) (by omega)]
    repeat (refine mw_step rfl ?_)
    by_cases h : f (am f t) < f (t + 1)
    · rw [if_pos h] at L
      refine mw_brT rfl (by rw [lg_gt0]; exact (pk_lLT (by omega) (by omega)).mpr h) ?_
      repeat (refine mw_to 4 rfl rfl ?_)
      rw [nI_1]
      refine mw_pick [0, 1, 2, 3] rfl ?_
      exact L
    · rw [if_neg h] at L
      refine mw_brF rfl (by rw [lg_gt0]; exact fun z => h ((pk_lLT (by omega) (by omega)).mp z)) ?_
      repeat (refine mw_to 4 rfl rfl ?_)
      rw [nI_1]
      refine mw_pick [0, 1, 2, 3] rfl ?_
      exact L
theorem c_O_whenNow {f : Nat → Nat} (kd : Nat) (hkd : kd < 6) (hs : ∀ y, y < 30 → zw_weight m (30 * kd + y) = lN (f y)) (hf : ∀ y, f y < 2 ^ 62) : MC M_O_whenNow 0 0 0 [.ref 39, .int (nI kd)] (heapN N sc x m tl) (some (.int (nI (am f 29)))) (heapN N sc x m tl) := by
  refine mc_of k1_O_whenNow k2_O_whenNow (Nat.le_of_ble_eq_true rfl) ?_
  repeat (refine mw_to 4 rfl rfl ?_)
  refine mw_pick [0, 1, 2, 3] rfl ?_
  exact l_O_whenNow kd hkd hs hf 29 0 (by omega)
theorem l_O_when {f : Nat → Nat} (kd : Nat) (hkd : kd < 6) (hs : ∀ y, y < 30 → zw_weight m (30 * kd + y) = lN (f y)) (hf : ∀ y, f y < 2 ^ 62) (what : Int32) {v : Option Value} {hT : MH} (K : MW M_O_when 48 0 0 v hT 0 0 106 [(0, .ref 39), (2, .int what), (3, .int (nI kd)), (4, .int (fr f 30)), (5, .int (lr f 30))] [] (heapN N sc x m tl)) : ∀ r t, t + r = 30 → MW M_O_when 48 0 0 v hT 0 0 58 [(0, .ref 39), (2, .int what), (3, .int (nI kd)), (4, .int (fr f t)), (5, .int (lr f t)), (6, .int (nI t))] [] (heapN N sc x m tl) := by
  intro r
  induction r with
  | zero =>
    intro t ht
    rw [show t = 30 by omega]
    repeat (refine mw_step rfl ?_)
    refine mw_brF rfl (by decide) ?_
    refine mw_pick [0, 2, 3, 4, 5] rfl ?_
    exact K
  | succ r ih =>
    intro t ht
    have L := ih (t + 1) (by omega)
    have h1 := hf t
    rw [show fr f (t + 1) = if 0 < f t then (if fr f t < 0 then nI t else fr f t) else fr f t from rfl, show lr f (t + 1) = if 0 < f t then nI t else lr f t from rfl] at L
    repeat (refine mw_step rfl ?_)
    refine mw_brT rfl (n_lt (b := 30) (by omega) (by omega)) ?_
    repeat (refine mw_step rfl ?_)
    refine mw_lld rfl (show (30 : Int32) * nI kd + nI t = nI (30 * kd + t) by rw [show (30 : Int32) = nI 30 from rfl, pk_mul, nI_add]) (by omega) (by decide) ?_
    rw [hs t (by omega)]
    repeat (refine mw_step rfl ?_)
    by_cases h : 0 < f t
    · rw [if_pos h, if_pos h] at L
      refine mw_brT rfl (by rw [lg_gt0]; exact (pk_lLT (a := 0) (by omega) (by omega)).mpr h) ?_
      repeat (refine mw_step rfl ?_)
      by_cases h3 : fr f t < 0
      · rw [if_pos h3] at L
        refine mw_brT rfl (h3) ?_
        repeat (refine mw_to 58 rfl rfl ?_)
        rw [nI_1]
        refine mw_pick [0, 2, 3, 4, 5, 6] rfl ?_
        exact L
      · rw [if_neg h3] at L
        refine mw_brF rfl (h3) ?_
        repeat (refine mw_to 58 rfl rfl ?_)
        rw [nI_1]
        refine mw_pick [0, 2, 3, 4, 5, 6] rfl ?_
        exact L
    · rw [if_neg h, if_neg h] at L
      refine mw_brF rfl (by rw [lg_gt0]; exact fun z => h ((pk_lLT (a := 0) (by omega) (by omega)).mp z)) ?_
      repeat (refine mw_to 58 rfl rfl ?_)
      rw [nI_1]
      refine mw_pick [0, 2, 3, 4, 5, 6] rfl ?_
      exact L
theorem c_O_when_bad (hI : OI T B n m) (pk what : Int32) (h : ¬ (sp_pk n pk ∧ (0 ≤ what ∧ what ≤ nI 2))) : MC M_O_when 48 0 0 [.ref 39, .int pk, .int what] (heapN N sc x m tl) (some (.int (-1))) (heapN N sc x m tl) := by
  have : Decidable (sp_pk n pk) := Classical.propDecidable _
  refine mc_of k1_O_when k2_O_when (Nat.le_of_ble_eq_true rfl) ?_
  repeat (refine mw_step rfl ?_)
  refine mw_call (c_O_isPk hI pk) rfl rfl (Nat.le_of_ble_eq_true rfl) (Nat.le_refl _) (Nat.le_refl _) ?_
  refine mw_br rfl (fun h1 => ?_) (fun h1 => ?_)
  · repeat (refine mw_step rfl ?_)
    exact mw_r1 rfl trivial (Nat.le_refl _) (Nat.le_refl _) rfl rfl
  · repeat (refine mw_step rfl ?_)
    refine mw_call (c_withinO32 _ what 0 (nI 2)) rfl rfl (Nat.le_of_ble_eq_true rfl) (Nat.le_refl _) (Nat.le_refl _) ?_
    refine mw_br rfl (fun h2 => ?_) (fun h2 => ?_)
    · repeat (refine mw_step rfl ?_)
      exact mw_r1 rfl trivial (Nat.le_refl _) (Nat.le_refl _) rfl rfl
    · exact absurd ⟨bI_of h1, bI_of h2⟩ h
theorem c_O_when (hI : OI T B n m) (hk : k < n) (hf : FW (zp_found m) k way) (pk what : Int32) (kd : Nat) (e1 : pk / 10 = nI k) (e2 : pk - pk / 10 * 10 = nI kd) (hkd : kd < 6) (hw : 0 ≤ what ∧ what ≤ nI 2) : ∃ m', OR m m' ∧ MC M_O_when 48 0 0 [.ref 39, .int pk, .int what] (heapN N sc x m tl) (some (.int (sp_when B (nbO T m k) way kd what))) (heapN N sc x m' tl) := by
  have : Decidable (sp_pk n pk) := Classical.propDecidable _
  obtain ⟨m', h1, h2, h3, C⟩ := c_oF (N := N) (sc := sc) (x := x) (tl := tl) hI hk hf
  refine ⟨m', h1, ?_⟩
  have hW : WOK B (nbO T m k) := WOK_of hI.2.2.1 _ _
  have hwt : ∀ y, wK B (nbO T m k) way kd y < 2 ^ 62 := fun y => Nat.lt_of_le_of_lt (wt_le hW _) (by decide)
  have hs : ∀ y, y < 30 → zw_weight m' (30 * kd + y) = lN (wK B (nbO T m k) way kd y) := fun y hy => h2.1 _ (by omega)
  have b2 := ks_le (way := way) hW kd
  unfold sp_when
  refine mc_of k1_O_when k2_O_when (Nat.le_of_ble_eq_true rfl) ?_
  repeat (refine mw_step rfl ?_)
  refine mw_call (c_O_isPk hI pk) rfl rfl (Nat.le_of_ble_eq_true rfl) (Nat.le_refl _) (Nat.le_refl _) ?_
  refine mw_brF rfl (bI_ne (pk_of hk e1 e2 hkd)) ?_
  repeat (refine mw_step rfl ?_)
  refine mw_call (c_withinO32 _ what 0 (nI 2)) rfl rfl (Nat.le_of_ble_eq_true rfl) (Nat.le_refl _) (Nat.le_refl _) ?_
  refine mw_brF rfl (bI_ne hw) ?_
  repeat (refine mw_step rfl ?_)
  refine mw_div rfl (by decide) ?_
  rw [show pk / 10 = nI k from e1]
  refine mw_call (C) rfl rfl (Nat.le_of_ble_eq_true rfl) (Nat.le_refl _) (Nat.le_refl _) ?_
  repeat (refine mw_step rfl ?_)
  refine mw_div rfl (by decide) ?_
  rw [show pk - pk / 10 * 10 = nI kd from e2]
  repeat (refine mw_step rfl ?_)
  refine mw_lld rfl (rfl) (by omega) (by decide) ?_
  rw [h2.2.1 kd hkd]
  repeat (refine mw_step rfl ?_)
  by_cases h0 : ks B (nbO T m k) way kd = 0
  · refine mw_brT rfl (by rw [lg_eq0, h0]; rfl) ?_
    repeat (refine mw_step rfl ?_)
    exact mw_r1 rfl trivial (Nat.le_refl _) (Nat.le_refl _) (by rw [if_pos h0]) rfl
  · refine mw_brF rfl (by rw [lg_eq0]; exact fun e => h0 ((pk_lEQ (b := 0) (by omega) (by omega)).mp e)) ?_
    rw [if_neg h0]
    repeat (refine mw_to 58 rfl rfl ?_)
    refine mw_pick [0, 2, 3, 4, 5, 6] rfl ?_
    refine l_O_when kd hkd hs hwt what ?_ 30 0 (by omega)
    rcases (n_012 what).mp hw with rfl | rfl | rfl
    · repeat (refine mw_step rfl ?_)
      refine mw_brT rfl (rfl) ?_
      repeat (refine mw_step rfl ?_)
      refine mw_call (c_O_whenNow kd hkd hs hwt) rfl rfl (Nat.le_of_ble_eq_true rfl) (Nat.le_refl _) (Nat.le_refl _) ?_
      repeat (refine mw_step rfl ?_)
      exact mw_r1 rfl trivial (Nat.le_refl _) (Nat.le_refl _) (by rw [if_pos rfl]) rfl
    · repeat (refine mw_step rfl ?_)
      refine mw_brF rfl (by decide) ?_
      repeat (refine mw_step rfl ?_)
      refine mw_brT rfl (rfl) ?_
      repeat (refine mw_step rfl ?_)
      exact mw_r1 rfl trivial (Nat.le_refl _) (Nat.le_refl _) (by rw [if_neg (by decide), if_pos rfl]) rfl
    · repeat (refine mw_step rfl ?_)
      refine mw_brF rfl (by decide) ?_
      repeat (refine mw_step rfl ?_)
      refine mw_brF rfl (by decide) ?_
      repeat (refine mw_step rfl ?_)
      exact mw_r1 rfl trivial (Nat.le_refl _) (Nat.le_refl _) (by rw [if_neg (by decide), if_neg (by decide)]) rfl
theorem c_O_likely_bad (hI : OI T B n m) (pk what : Int32) (h : ¬ (sp_pk n pk ∧ (0 ≤ what ∧ what ≤ nI 1))) : MC M_O_likely 48 0 0 [.ref 39, .int pk, .int what] (heapN N sc x m tl) (some (.long (-9223372036854775808))) (heapN N sc x m tl) := by
  have : Decidable (sp_pk n pk) := Classical.propDecidable _
  refine mc_of k1_O_likely k2_O_likely (Nat.le_of_ble_eq_true rfl) ?_
  repeat (refine mw_step rfl ?_)
  refine mw_call (c_O_isPk hI pk) rfl rfl (Nat.le_of_ble_eq_true rfl) (Nat.le_refl _) (Nat.le_refl _) ?_
  refine mw_br rfl (fun h1 => ?_) (fun h1 => ?_)
  · repeat (refine mw_step rfl ?_)
    exact mw_r1 rfl trivial (Nat.le_refl _) (Nat.le_refl _) rfl rfl
  · repeat (refine mw_step rfl ?_)
    refine mw_call (c_withinO32 _ what 0 (nI 1)) rfl rfl (Nat.le_of_ble_eq_true rfl) (Nat.le_refl _) (Nat.le_refl _) ?_
    refine mw_br rfl (fun h2 => ?_) (fun h2 => ?_)
    · repeat (refine mw_step rfl ?_)
      exact mw_r1 rfl trivial (Nat.le_refl _) (Nat.le_refl _) rfl rfl
    · exact absurd ⟨bI_of h1, bI_of h2⟩ h
theorem c_O_likely (hI : OI T B n m) (hk : k < n) (hf : FW (zp_found m) k way) (pk what : Int32) (kd : Nat) (e1 : pk / 10 = nI k) (e2 : pk - pk / 10 * 10 = nI kd) (hkd : kd < 6) (hw : 0 ≤ what ∧ what ≤ nI 1) : ∃ m', OR m m' ∧ MC M_O_likely 48 0 0 [.ref 39, .int pk, .int what] (heapN N sc x m tl) (some (.long (sp_lik B (nbO T m k) way kd what))) (heapN N sc x m' tl) := by
  have : Decidable (sp_pk n pk) := Classical.propDecidable _
  obtain ⟨m', h1, h2, h3, C⟩ := c_oF (N := N) (sc := sc) (x := x) (tl := tl) hI hk hf
  refine ⟨m', h1, ?_⟩
  have hW : WOK B (nbO T m k) := WOK_of hI.2.2.1 _ _
  have b1 := al_le (way := way) hW
  have b2 := ks_le (way := way) hW kd
  unfold sp_lik
  refine mc_of k1_O_likely k2_O_likely (Nat.le_of_ble_eq_true rfl) ?_
  repeat (refine mw_step rfl ?_)
  refine mw_call (c_O_isPk hI pk) rfl rfl (Nat.le_of_ble_eq_true rfl) (Nat.le_refl _) (Nat.le_refl _) ?_
  refine mw_brF rfl (bI_ne (pk_of hk e1 e2 hkd)) ?_
  repeat (refine mw_step rfl ?_)
  refine mw_call (c_withinO32 _ what 0 (nI 1)) rfl rfl (Nat.le_of_ble_eq_true rfl) (Nat.le_refl _) (Nat.le_refl _) ?_
  refine mw_brF rfl (bI_ne hw) ?_
  repeat (refine mw_step rfl ?_)
  refine mw_div rfl (by decide) ?_
  rw [show pk / 10 = nI k from e1]
  refine mw_call (C) rfl rfl (Nat.le_of_ble_eq_true rfl) (Nat.le_refl _) (Nat.le_refl _) ?_
  repeat (refine mw_step rfl ?_)
  refine mw_div rfl (by decide) ?_
  refine mw_lld rfl (e2) (by omega) (by decide) ?_
  rw [h2.2.1 kd hkd]
  repeat (refine mw_step rfl ?_)
  by_cases h0 : ks B (nbO T m k) way kd = 0
  · refine mw_brT rfl (by rw [lg_eq0, h0]; rfl) ?_
    repeat (refine mw_step rfl ?_)
    exact mw_r1 rfl trivial (Nat.le_refl _) (Nat.le_refl _) (by rw [if_pos h0]) rfl
  · refine mw_brF rfl (by rw [lg_eq0]; exact fun e => h0 ((pk_lEQ (b := 0) (by omega) (by omega)).mp e)) ?_
    rw [if_neg h0]
    repeat (refine mw_step rfl ?_)
    rw [show zw_allSum m' = lN (al B (nbO T m k) way) from h2.2.2]
    refine mw_call (c_O_common _ _ (by omega) (by omega)) rfl rfl (Nat.le_of_ble_eq_true rfl) (Nat.le_refl _) (Nat.le_refl _) ?_
    have hg : 0 < Nat.gcd (ks B (nbO T m k) way kd) (al B (nbO T m k) way) := Nat.gcd_pos_of_pos_left _ (by omega)
    have hg2 : Nat.gcd (ks B (nbO T m k) way kd) (al B (nbO T m k) way) ≤ ks B (nbO T m k) way kd := Nat.gcd_le_left _ (by omega)
    repeat (refine mw_step rfl ?_)
    rcases (n_01 what).mp hw with rfl | rfl
    · refine mw_brT rfl (rfl) ?_
      repeat (refine mw_step rfl ?_)
      refine mw_div rfl (fun e => by have := (pk_lEQ (b := 0) (by omega) (by omega)).mp e; omega) ?_
      rw [pk_lDiv (by omega) (by omega) (by omega)]
      repeat (refine mw_step rfl ?_)
      exact mw_r1 rfl trivial (Nat.le_refl _) (Nat.le_refl _) (by rw [if_pos rfl]) rfl
    · refine mw_brF rfl (by decide) ?_
      repeat (refine mw_step rfl ?_)
      rw [show zw_allSum m' = lN (al B (nbO T m k) way) from h2.2.2]
      refine mw_div rfl (fun e => by have := (pk_lEQ (b := 0) (by omega) (by omega)).mp e; omega) ?_
      rw [pk_lDiv (by omega) (by omega) (by omega)]
      exact mw_r1 rfl trivial (Nat.le_refl _) (Nat.le_refl _) (by rw [if_neg (by decide)]) rfl
end O2
