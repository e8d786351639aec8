/-! odd: the class -/
section ODP
variable (B : Nat → Nat) (nbF : Nat → Nat → Nat → Nat) (wyF : Nat → Nat → Nat)
def oD (i : Nat) : Bool := decide (¬ al B (nbF i) (wyF i) = 0) && decide (am (ks B (nbF i) (wyF i)) 5 = 0)
def oV (i : Nat) : Nat := am (wK B (nbF i) (wyF i) 0) 29
def cE (n s : Nat) : Nat := sN (fun i => if oD B nbF wyF i = true ∧ oV B nbF wyF i = s then 1 else 0) n
def cL (n s : Nat) : Nat := sN (fun i => if oD B nbF wyF i = true ∧ oV B nbF wyF i ≤ s then 1 else 0) n
def cT (n : Nat) : Nat := sN (fun i => if oD B nbF wyF i = true then 1 else 0) n
theorem oV_le (i : Nat) : oV B nbF wyF i ≤ 29 := am_le _ 29
theorem cE_cL (n s : Nat) : sN (cE B nbF wyF n) (s + 1) = cL B nbF wyF n s := by
  have e : sN (fun s => sN (fun i => if oD B nbF wyF i = true ∧ oV B nbF wyF i = s then 1 else 0) n) (s + 1) = sN (fun i => sN (fun s => if oD B nbF wyF i = true ∧ oV B nbF wyF i = s then 1 else 0) (s + 1)) n := sN_comm (fun s i => if oD B nbF wyF i = true ∧ oV B nbF wyF i = s then 1 else 0) n (s + 1)
  show sN (fun s => sN (fun i => if oD B nbF wyF i = true ∧ oV B nbF wyF i = s then 1 else 0) n) (s + 1) = _
  rw [e]
  refine sN_congr (fun i _ => ?_)
  by_cases hd : oD B nbF wyF i = true
  · rw [sN_congr (g := fun q => if q = oV B nbF wyF i then (fun _ => 1) q else 0) (fun q _ => by
      by_cases h : q = oV B nbF wyF i
      · rw [if_pos h, if_pos ⟨hd, h.symm⟩]
      · rw [if_neg h, if_neg (fun z => h z.2.symm)]), sN_one]
    by_cases h : oV B nbF wyF i ≤ s
    · rw [if_pos (by omega), if_pos ⟨hd, h⟩]
    · rw [if_neg (by omega), if_neg (fun z => h z.2)]
  · rw [if_neg (fun z => hd z.1)]
    exact sN_0 (fun q _ => if_neg (fun z => hd z.1))
theorem cT_le (n : Nat) : cT B nbF wyF n ≤ n := by
  have := sN_le (f := fun i => if oD B nbF wyF i = true then 1 else 0) (c := 1) (n := n) (fun k _ => by show (if oD B nbF wyF k = true then 1 else 0) ≤ 1; split <;> omega)
  unfold cT
  omega
theorem cL_le (n s : Nat) : cL B nbF wyF n s ≤ cT B nbF wyF n := by
  unfold cL cT
  induction n with
  | zero => exact Nat.le_refl _
  | succ n ih =>
    refine Nat.add_le_add ih ?_
    dsimp only
    by_cases h : oD B nbF wyF n = true ∧ oV B nbF wyF n ≤ s
    · rw [if_pos h, if_pos h.1]
      omega
    · rw [if_neg h]
      exact Nat.zero_le _
/-- the rank's value -/
def md (A : Nat → Nat) (rk : Nat) : Nat → Nat → Nat
  | 0, _ => 0
  | r + 1, t => if rk < A (t + 1) then t else md A rk r (t + 1)
theorem md_eq {A : Nat → Nat} {rk s : Nat} (h : ∀ t, rk < A (t + 1) ↔ s ≤ t) : ∀ r t, t ≤ s → s < t + r → md A rk r t = s
  | 0, t, h1, h2 => absurd h2 (by omega)
  | r + 1, t, h1, h2 => by
    rw [md]
    by_cases e : s ≤ t
    · rw [if_pos ((h t).mpr e)]
      omega
    · rw [if_neg (fun z => e ((h t).mp z))]
      exact md_eq h r (t + 1) (by omega) (by omega)
theorem md_lt {A : Nat → Nat} {rk : Nat} : ∀ r t, t + r ≤ 30 → md A rk r t < 30
  | 0, _, _ => by show 0 < 30; omega
  | r + 1, t, h => by
    rw [md]
    split
    · omega
    · exact md_lt r (t + 1) (by omega)
def oM (n : Nat) : Nat := md (fun t => sN (cE B nbF wyF n) t) ((cT B nbF wyF n - 1) / 2) 30 0
def oFar (md i : Nat) : Bool := oD B nbF wyF i && (decide (md + 2 < oV B nbF wyF i) || decide (oV B nbF wyF i + 2 < md))
def oBt (md : Nat) : Nat → Nat
  | 0 => 0
  | i + 1 => if oFar B nbF wyF md i = true then oBt md i ||| 2 ^ i else oBt md i
theorem oBt_lt (md : Nat) : ∀ t, oBt B nbF wyF md t < 2 ^ t
  | 0 => by show 0 < 1; omega
  | t + 1 => by
    have ih := oBt_lt md t
    have h2 : 2 ^ t < 2 ^ (t + 1) := Nat.pow_lt_pow_right (a := 2) (by omega) (by omega)
    rw [oBt]
    split
    · exact Nat.or_lt_two_pow (by omega) h2
    · omega
end ODP
theorem b8_or : ∀ a, a < 256 → ∀ i, i < 8 → nI a ||| nI (2 ^ i) = nI (a ||| 2 ^ i) := by decide +kernel
theorem b8_sh : ∀ j, j < 8 → (1 : Int32) <<< (nI j &&& 31) = nI (2 ^ j) := by decide +kernel
theorem b8_or0 : ∀ a, a < 256 → nI a ||| 0 = nI a := by decide +kernel
theorem n_half : ∀ c, c < 9 → (nI c - 1) / 2 = nI ((c - 1) / 2) := by decide +kernel
theorem n_far : ∀ a, a < 30 → ∀ b, b < 30 → (((2 : Int32) < if nI a - nI b < 0 then -(nI a - nI b) else nI a - nI b) ↔ (b + 2 < a ∨ a + 2 < b)) := by decide +kernel
theorem n_farO : ∀ a, a < 30 → ∀ b, b < 30 → (((2 : Int32) < nI a - nI b) ↔ b + 2 < a) ∧ ((nI a - nI b < -2) ↔ a + 2 < b) := by decide +kernel
theorem c_J_abs (h : MH) (a : Int32) : MC M_J_abs 0 0 0 [.int a] h (some (.int (if a < 0 then -a else a))) h := by
  refine mc_of k1_J_abs k2_J_abs (Nat.le_of_ble_eq_true rfl) ?_
  repeat (refine mw_step rfl ?_)
  refine mw_br rfl (fun h1 => ?_) (fun h1 => ?_)
  · repeat (refine mw_step rfl ?_)
    exact mw_r1 rfl trivial (Nat.le_refl _) (Nat.le_refl _) (by rw [if_pos h1]) rfl
  · repeat (refine mw_step rfl ?_)
    exact mw_r1 rfl trivial (Nat.le_refl _) (Nat.le_refl _) (by rw [if_neg h1]) rfl
def oW (B : Nat → Nat) (nbF : Nat → Nat → Nat → Nat) (wyF : Nat → Nat → Nat) (i : Nat) : Int32 := if oD B nbF wyF i = true then nI (oV B nbF wyF i) else -2
section OCX
variable {sc : Nat × (Nat → Int32)} {x : XS} {m : OS} {P : List PieceS} {B : Nat → Nat} {T : Nat → Option Tx} {nbF : Nat → Nat → Nat → Nat} {wyF : Nat → Nat → Nat}
theorem oD_iff (i : Nat) : oD B nbF wyF i = true ↔ (¬ al B (nbF i) (wyF i) = 0 ∧ am (ks B (nbF i) (wyF i)) 5 = 0) := by
  unfold oD
  rw [Bool.and_eq_true, decide_eq_true_iff, decide_eq_true_iff]
theorem c_whenT (hI : CI T B x P) (hF : PF T P nbF wyF) (k : Nat) (hk : k < P.length) : ∃ x' P', CR T x x' P P' ∧ xC_whens x' = xC_whens x ∧ MC M_C_whenTrue 6 0 0 [.ref 5, .ref (2 * k + 67)] (heap sc x m P) (some (.int (oW B nbF wyF k))) (heap sc x' m P') := by
  obtain ⟨c1, lk, th, c2, c3, c4, c5, c6⟩ := hF k P[k] (List.getElem?_eq_getElem hk)
  have hp : P[k]? = some P[k] := List.getElem?_eq_getElem hk
  obtain ⟨stk, q, sm, s1, s2, s3, s4, C⟩ := c_S_weighFound (N := P.length) (sc := sc) (m := m) hI.1 hI.2.1 (WOK_of hI.2.2.1 _ _) hp (hI.2.2.2.2 k _ hp).1 lk th c2 c3 c4 c5
  have hcr := CR_set hI hp s1 s2 stk (sm, xS_ways x, xS_merged x, xS_prod x)
  have hW : WOK B (nbW T (i_wood q) (i_place q)) := WOK_of hI.2.2.1 _ _
  have D := c_S_tg (N := P.length) (sc := sc) (m := m) (x := xS_sums_s (xW_stack_s x stk) sm) hI.2.1 hW (set_get hk q) c2 c3 (s1.2.2.1.trans c4) (s1.2.2.2.trans c5) s3 0 (by omega)
  rw [s1.1, s1.2.1, ← c1, ← c6, gB_ks] at D
  have G := c_S_gk (N := P.length) (sc := sc) (m := m) (tl := pcells 67 (P.set k q)) (x := xS_sums_s (xW_stack_s x stk) sm) (f := ks B (nbW T (i_wood P[k]) (i_place P[k])) (wayB lk th)) s4 (fun j _ => ks_lt (WOK_of hI.2.2.1 _ _) j)
  rw [← c1, ← c6, gB_al] at G
  refine ⟨_, _, hcr, rfl, ?_⟩
  unfold heap
  rw [List.length_set]
  have hle := am_le (ks B (nbF k) (wyF k)) 5
  refine mc_of k1_C_whenTrue k2_C_whenTrue (Nat.le_of_ble_eq_true rfl) ?_
  repeat (refine mw_step rfl ?_)
  refine mw_call (C) rfl rfl (Nat.le_of_ble_eq_true rfl) (Nat.le_refl _) (Nat.le_refl _) ?_
  repeat (refine mw_step rfl ?_)
  refine mw_call (G) rfl rfl (Nat.le_of_ble_eq_true rfl) (Nat.le_refl _) (Nat.le_refl _) ?_
  by_cases hd : oD B nbF wyF k = true
  · obtain ⟨d1, d2⟩ := (oD_iff k).mp hd
    have hk0 : ¬ ks B (nbF k) (wyF k) 0 = 0 := fun z => d1 (am_0.mp (by rw [d2]; exact z))
    rw [if_neg hk0] at D
    refine mw_brT rfl (by rw [if_neg d1, d2]; rfl) ?_
    repeat (refine mw_step rfl ?_)
    refine mw_call (D) rfl rfl (Nat.le_of_ble_eq_true rfl) (Nat.le_refl _) (Nat.le_refl _) ?_
    repeat (refine mw_step rfl ?_)
    exact mw_r1 rfl trivial (Nat.le_refl _) (Nat.le_refl _) (by rw [oW, if_pos hd]; rfl) rfl
  · refine mw_brF rfl (by
      by_cases d1 : al B (nbF k) (wyF k) = 0
      · rw [if_pos d1]; decide
      · rw [if_neg d1]
        intro z
        exact hd ((oD_iff k).mpr ⟨d1, (nI_eq (b := 0) (by omega) (by omega)).mp z⟩)) ?_
    repeat (refine mw_step rfl ?_)
    exact mw_r1 rfl trivial (Nat.le_refl _) (Nat.le_refl _) (by rw [oW, if_neg hd]) rfl
theorem l_C_odd1 (n : Nat) (hn8 : n ≤ 8) : ∀ r t x P, CI T B x P → PF T P nbF wyF → P.length = n → (∀ i, i < t → xC_whens x i = oW B nbF wyF i) → t + r = n → ∃ x' P', CR T x x' P P' ∧ (∀ i, i < n → xC_whens x' i = oW B nbF wyF i) ∧ ∀ {v : Option Value} {hT : MH}, MW M_C_odd 7 0 0 v hT 0 0 59 [(0, .ref 5), (1, .int (nI (cT B nbF wyF n)))] [] (heap sc x' m P') → MW M_C_odd 7 0 0 v hT 0 0 4 [(0, .ref 5), (1, .int (nI (cT B nbF wyF t))), (2, .int (nI t))] [] (heap sc x m P) := by
  intro r
  induction r with
  | zero =>
    intro t x P hI hF hl hw ht
    refine ⟨x, P, CR_refl hI, fun i hi => hw i (by omega), ?_⟩
    intro v hT K
    rw [show t = n by omega]
    unfold heap at K ⊢
    rw [hl] at K ⊢
    repeat (refine mw_step rfl ?_)
    refine mw_brF rfl (n_nlt (by omega) (by omega)) ?_
    refine mw_pick [0, 1] rfl ?_
    exact K
  | succ r ih =>
    intro t x P hI hF hl hw ht
    have h8 := hI.2.2.2.1
    obtain ⟨x1, P1, h1, h1w, C⟩ := c_whenT (sc := sc) (m := m) hI hF t (by omega)
    have hl1 := h1.2.1
    have hcw := CR_x (CI_of hI h1) (xW_stack x1) (xS_sums x1, xS_ways x1, xS_merged x1, xS_prod x1) (upd (xC_whens x1) t (oW B nbF wyF t))
    obtain ⟨x2, P2, h2, h3, K⟩ := ih (t + 1) (xC_whens_s x1 (upd (xC_whens x1) t (oW B nbF wyF t))) P1 (CI_of (CI_of hI h1) hcw) (PF_of (PF_of hF h1) hcw) (by omega) (by
      intro i hi
      show upd (xC_whens x1) t (oW B nbF wyF t) i = _
      by_cases e : i = t
      · rw [e, upd_at]
      · rw [upd_ne e, h1w]
        exact hw i (by omega)) (by omega)
    refine ⟨x2, P2, CR_trans h1 (CR_trans hcw h2), h3, ?_⟩
    intro v hT K2
    have KK := K K2
    rw [show cT B nbF wyF (t + 1) = cT B nbF wyF t + (if oD B nbF wyF t = true then 1 else 0) from rfl, ← nI_add] at KK
    unfold heap at C KK ⊢
    rw [hl1] at KK C
    repeat (refine mw_step rfl ?_)
    refine mw_brT rfl (n_lt (by omega) (by omega)) ?_
    repeat (refine mw_step rfl ?_)
    refine mw_brT rfl (n_lt (b := 8) (by omega) (by omega)) ?_
    repeat (refine mw_step rfl ?_)
    refine mw_call (c_pieceAt t h8 (by omega)) rfl rfl (Nat.le_of_ble_eq_true rfl) (Nat.le_refl _) (Nat.le_refl _) ?_
    refine mw_call (C) rfl rfl (Nat.le_of_ble_eq_true rfl) (Nat.le_refl _) (Nat.le_refl _) ?_
    refine mw_ist rfl (rfl) (by omega) (by decide) ?_
    repeat (refine mw_step rfl ?_)
    refine mw_ild rfl (rfl) (by omega) (by decide) ?_
    rw [upd_at]
    by_cases hd : oD B nbF wyF t = true
    · rw [if_pos hd] at KK
      rw [oW, if_pos hd] at KK ⊢
      refine mw_brF rfl (nI_pos (by have := oV_le B nbF wyF t; omega)) ?_
      repeat (refine mw_to 4 rfl rfl ?_)
      rw [nI_1]
      refine mw_pick [0, 1, 2] rfl ?_
      exact KK
    · rw [if_neg hd] at KK
      rw [oW, if_neg hd] at KK ⊢
      refine mw_brT rfl (by decide) ?_
      repeat (refine mw_to 4 rfl rfl ?_)
      rw [nI_1]
      refine mw_pick [0, 1, 2] rfl ?_
      exact KK
theorem l_C_vr1 {N : Nat} {tl : MH} (n : Nat) (hn8 : n ≤ 8) (hw : ∀ i, i < n → xC_whens x i = oW B nbF wyF i) (rk : Int32) (a tm : Nat) (htm : tm < 30) {v : Option Value} {hT : MH} (K : MW M_C_valueAtRank 0 0 0 v hT 0 0 51 [(0, .ref 36), (1, .int (nI n)), (2, .int rk), (3, .int (nI (a + cE B nbF wyF n tm))), (4, .int (nI tm))] [] (heapN N sc x m tl)) : ∀ r t, t + r = n → MW M_C_valueAtRank 0 0 0 v hT 0 0 15 [(0, .ref 36), (1, .int (nI n)), (2, .int rk), (3, .int (nI (a + cE B nbF wyF t tm))), (4, .int (nI tm)), (5, .int (nI t))] [] (heapN N sc x m tl) := by
  intro r
  induction r with
  | zero =>
    intro t ht
    rw [show t = n by omega]
    repeat (refine mw_step rfl ?_)
    refine mw_brF rfl (n_nlt (by omega) (by omega)) ?_
    refine mw_pick [0, 1, 2, 3, 4] rfl ?_
    exact K
  | succ r ih =>
    intro t ht
    have L := ih (t + 1) (by omega)
    rw [show cE B nbF wyF (t + 1) tm = cE B nbF wyF t tm + (if oD B nbF wyF t = true ∧ oV B nbF wyF t = tm then 1 else 0) from rfl, ← Nat.add_assoc, ← nI_add] at L
    repeat (refine mw_step rfl ?_)
    refine mw_brT rfl (n_lt (by omega) (by omega)) ?_
    repeat (refine mw_step rfl ?_)
    refine mw_brT rfl (n_lt (b := 8) (by omega) (by omega)) ?_
    repeat (refine mw_step rfl ?_)
    refine mw_ild rfl (rfl) (by omega) (by decide) ?_
    rw [hw t (by omega)]
    repeat (refine mw_step rfl ?_)
    have hv := oV_le B nbF wyF t
    by_cases hd : oD B nbF wyF t = true ∧ oV B nbF wyF t = tm
    · rw [if_pos hd] at L
      refine mw_brT rfl (by rw [oW, if_pos hd.1, hd.2]) ?_
      repeat (refine mw_to 15 rfl rfl ?_)
      rw [nI_1]
      refine mw_pick [0, 1, 2, 3, 4, 5] rfl ?_
      exact L
    · rw [if_neg hd] at L
      refine mw_brF rfl (by
        intro z
        unfold oW at z
        by_cases h1 : oD B nbF wyF t = true
        · rw [if_pos h1] at z
          exact hd ⟨h1, (nI_eq (by omega) (by omega)).mp z⟩
        · rw [if_neg h1] at z
          exact absurd z.symm (n_neq (by omega) (by decide))) ?_
      repeat (refine mw_to 15 rfl rfl ?_)
      rw [nI_1]
      refine mw_pick [0, 1, 2, 3, 4, 5] rfl ?_
      exact L
theorem l_C_vr2 {N : Nat} {tl : MH} (n : Nat) (hn8 : n ≤ 8) (hw : ∀ i, i < n → xC_whens x i = oW B nbF wyF i) (rk : Nat) (hrk : rk ≤ 8) : ∀ r t, t + r = 30 → MW M_C_valueAtRank 0 0 0 (some (.int (nI (md (fun t => sN (cE B nbF wyF n) t) rk r t)))) (heapN N sc x m tl) 0 0 5 [(0, .ref 36), (1, .int (nI n)), (2, .int (nI rk)), (3, .int (nI (sN (cE B nbF wyF n) t))), (4, .int (nI t))] [] (heapN N sc x m tl) := by
  intro r
  induction r with
  | zero =>
    intro t ht
    rw [show t = 30 by omega]
    repeat (refine mw_step rfl ?_)
    refine mw_brF rfl (by decide) ?_
    repeat (refine mw_step rfl ?_)
    exact mw_r1 rfl trivial (Nat.le_refl _) (Nat.le_refl _) rfl rfl
  | succ r ih =>
    intro t ht
    have L := ih (t + 1) (by omega)
    have hb : sN (cE B nbF wyF n) (t + 1) ≤ 8 := by
      rw [cE_cL]
      have := cL_le B nbF wyF n t
      have := cT_le B nbF wyF n
      omega
    repeat (refine mw_step rfl ?_)
    refine mw_brT rfl (n_lt (b := 30) (by omega) (by omega)) ?_
    repeat (refine mw_to 15 rfl rfl ?_)
    refine mw_pick [0, 1, 2, 3, 4, 5] rfl ?_
    refine l_C_vr1 n hn8 hw (nI rk) (sN (cE B nbF wyF n) t) t (by omega) ?_ n 0 (by omega)
    rw [show sN (cE B nbF wyF n) t + cE B nbF wyF n t = sN (cE B nbF wyF n) (t + 1) from rfl, md]
    repeat (refine mw_step rfl ?_)
    by_cases h : rk < sN (cE B nbF wyF n) (t + 1)
    · rw [if_pos h]
      refine mw_brT rfl (n_lt h (by omega)) ?_
      repeat (refine mw_step rfl ?_)
      exact mw_r1 rfl trivial (Nat.le_refl _) (Nat.le_refl _) rfl rfl
    · rw [if_neg h]
      refine mw_brF rfl (n_nlt (by omega) (by omega)) ?_
      repeat (refine mw_to 5 rfl rfl ?_)
      rw [nI_1]
      refine mw_pick [0, 1, 2, 3, 4] rfl ?_
      exact L
theorem l_C_odd2 {N : Nat} {tl : MH} (n : Nat) (hn8 : n ≤ 8) (hN : N = n) (hw : ∀ i, i < n → xC_whens x i = oW B nbF wyF i) (mdn : Nat) (hmd : mdn < 30) : ∀ r t, t + r = n → MW M_C_odd 7 0 0 (some (.int (nI (oBt B nbF wyF mdn n)))) (heapN N sc x m tl) 0 0 81 [(0, .ref 5), (2, .int (nI mdn)), (3, .int (nI (oBt B nbF wyF mdn t))), (4, .int (nI t))] [] (heapN N sc x m tl) := by
  subst hN
  intro r
  induction r with
  | zero =>
    intro t ht
    rw [show t = N by omega]
    repeat (refine mw_step rfl ?_)
    refine mw_brF rfl (n_nlt (by omega) (by omega)) ?_
    repeat (refine mw_step rfl ?_)
    exact mw_r1 rfl trivial (Nat.le_refl _) (Nat.le_refl _) rfl rfl
  | succ r ih =>
    intro t ht
    have L := ih (t + 1) (by omega)
    have hlt : oBt B nbF wyF mdn t < 256 := Nat.lt_of_lt_of_le (oBt_lt B nbF wyF mdn t) (Nat.pow_le_pow_right (n := 2) (by omega) (show t ≤ 8 by omega))
    have hv := oV_le B nbF wyF t
    rw [show oBt B nbF wyF mdn (t + 1) = if oFar B nbF wyF mdn t = true then oBt B nbF wyF mdn t ||| 2 ^ t else oBt B nbF wyF mdn t from rfl] at L
    repeat (refine mw_step rfl ?_)
    refine mw_brT rfl (n_lt (by omega) (by omega)) ?_
    repeat (refine mw_step rfl ?_)
    refine mw_brT rfl (n_lt (b := 8) (by omega) (by omega)) ?_
    repeat (refine mw_step rfl ?_)
    refine mw_ild rfl (rfl) (by omega) (by decide) ?_
    rw [hw t (by omega)]
    by_cases hd : oD B nbF wyF t = true
    · have eW : oW B nbF wyF t = nI (oV B nbF wyF t) := if_pos hd
      rw [eW]
      refine mw_brF rfl (nI_pos (by omega)) ?_
      repeat (refine mw_step rfl ?_)
      refine mw_ild rfl (rfl) (by omega) (by decide) ?_
      rw [hw t (by omega), eW]
      repeat (refine mw_step rfl ?_)
      refine mw_call (c_J_abs _ _) rfl rfl (Nat.le_of_ble_eq_true rfl) (Nat.le_refl _) (Nat.le_refl _) ?_
      repeat (refine mw_step rfl ?_)
      have hf := n_far (oV B nbF wyF t) (by omega) mdn hmd
      have he : oFar B nbF wyF mdn t = true ↔ (mdn + 2 < oV B nbF wyF t ∨ oV B nbF wyF t + 2 < mdn) := by
        unfold oFar
        rw [hd, Bool.true_and, Bool.or_eq_true, decide_eq_true_iff, decide_eq_true_iff]
      by_cases hx : oFar B nbF wyF mdn t = true
      · rw [if_pos hx] at L
        refine mw_brT rfl (hf.mpr (he.mp hx)) ?_
        repeat (refine mw_to 81 rfl rfl ?_)
        rw [nI_1, b8_sh t (by omega), b8_or _ hlt t (by omega)]
        refine mw_pick [0, 2, 3, 4] rfl ?_
        exact L
      · rw [if_neg hx] at L
        refine mw_brF rfl (fun z => hx (he.mpr (hf.mp z))) ?_
        repeat (refine mw_to 81 rfl rfl ?_)
        rw [nI_1]
        refine mw_pick [0, 2, 3, 4] rfl ?_
        exact L
    · have hx : ¬ oFar B nbF wyF mdn t = true := by
        unfold oFar
        intro z
        rw [Bool.and_eq_true] at z
        exact hd z.1
      rw [if_neg hx] at L
      rw [oW, if_neg hd]
      refine mw_brT rfl (by decide) ?_
      repeat (refine mw_to 81 rfl rfl ?_)
      rw [nI_1]
      refine mw_pick [0, 2, 3, 4] rfl ?_
      exact L
theorem c_C_odd (hI : CI T B x P) (hF : PF T P nbF wyF) : ∃ x' P', CR T x x' P P' ∧ MC M_C_odd 7 0 0 [.ref 5] (heap sc x m P) (some (.int (nI (oBt B nbF wyF (oM B nbF wyF P.length) P.length)))) (heap sc x' m P') := by
  have h8 := hI.2.2.2.1
  obtain ⟨x', P', h1, h2, K⟩ := l_C_odd1 (sc := sc) (m := m) (T := T) (B := B) (nbF := nbF) (wyF := wyF) P.length h8 P.length 0 x P hI hF rfl (fun i hi => absurd hi (by omega)) (by omega)
  have hl := h1.2.1
  refine ⟨x', P', h1, ?_⟩
  have hct := cT_le B nbF wyF P.length
  have V : MC M_C_valueAtRank 0 0 0 [.ref 36, .int (nI P.length), .int (nI ((cT B nbF wyF P.length - 1) / 2))] (heapN P'.length sc x' m (pcells 67 P')) (some (.int (nI (oM B nbF wyF P.length)))) (heapN P'.length sc x' m (pcells 67 P')) := by
    refine mc_of k1_C_valueAtRank k2_C_valueAtRank (Nat.le_of_ble_eq_true rfl) ?_
    repeat (refine mw_to 5 rfl rfl ?_)
    refine mw_pick [0, 1, 2, 3, 4] rfl ?_
    exact l_C_vr2 P.length h8 h2 _ (by omega) 30 0 (by omega)
  refine mc_of k1_C_odd k2_C_odd (Nat.le_of_ble_eq_true rfl) ?_
  repeat (refine mw_to 4 rfl rfl ?_)
  refine mw_pick [0, 1, 2] rfl ?_
  refine K ?_
  unfold heap
  rw [hl] at V ⊢
  repeat (refine mw_step rfl ?_)
  refine mw_div rfl (by decide) ?_
  rw [show (nI (cT B nbF wyF P.length) - 1) / 2 = nI ((cT B nbF wyF P.length - 1) / 2) from n_half _ (by omega)]
  refine mw_call (V) rfl rfl (Nat.le_of_ble_eq_true rfl) (Nat.le_refl _) (Nat.le_refl _) ?_
  repeat (refine mw_to 81 rfl rfl ?_)
  refine mw_pick [0, 2, 3, 4] rfl ?_
  exact l_C_odd2 P.length h8 rfl h2 _ (md_lt 30 0 (by omega)) P.length 0 (by omega)
end OCX
