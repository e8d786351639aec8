/-! count, taken -/
def us (y k : Int32) : Int32 := (y.toUInt32 >>> (k.toUInt32 &&& Int32.toUInt32 31)).toInt32
def sp_b1 (y : Int32) : Int32 := y - (us y 1 &&& 1431655765)
def sp_b2 (a : Int32) : Int32 := (a &&& 858993459) + (us a 2 &&& 858993459)
def sp_b3 (b : Int32) : Int32 := (b + us b 4) &&& 252645135
def sp_bits (y : Int32) : Int32 := let c := sp_b3 (sp_b2 (sp_b1 y)); let d := c + us c 8; (d + us d 16) &&& 63
theorem c_J_bits (h : MH) (y : Int32) : MC M_J_bits 0 0 0 [.int y] h (some (.int (sp_bits y))) h := by
  refine mc_of k1_J_bits k2_J_bits (Nat.le_of_ble_eq_true rfl) ?_
  repeat (refine mw_step rfl ?_)
  exact mw_r1 rfl trivial (Nat.le_refl _) (Nat.le_refl _) rfl rfl
def sp_cntP (P : List PieceS) : Nat → Int32
  | 0 => 0
  | t + 1 => sp_cntP P t + sp_bits (i_looked (P.getD t pz))
def sp_cntO (f : Nat → Int32) : Nat → Int32
  | 0 => 0
  | t + 1 => sp_cntO f t + (if 0 < f t then 1 else 0)
section CN
variable {sc : Nat × (Nat → Int32)} {x : XS} {m : OS} {P : List PieceS} {N : Nat} {tl : MH}
theorem l_C_looked (h8 : P.length ≤ 8) : ∀ r t, t + r = P.length → MW M_C_marksLookedFor 2 0 0 (some (.int (sp_cntP P P.length))) (heap sc x m P) 0 0 4 [(0, .ref 5), (1, .int (sp_cntP P t)), (2, .int (nI t))] [] (heap sc x m P) := by
  intro r
  induction r with
  | zero =>
    intro t ht
    rw [show t = P.length by omega]
    unfold heap
    repeat (refine mw_step rfl ?_)
    refine mw_brF rfl (n_nlt (by omega) (by omega)) ?_
    repeat (refine mw_step rfl ?_)
    exact mw_r1 rfl trivial (Nat.le_refl _) (Nat.le_refl _) rfl rfl
  | succ r ih =>
    intro t ht
    obtain ⟨p, hp⟩ : ∃ p, P[t]? = some p := ⟨P[t]'(by omega), List.getElem?_eq_getElem (by omega)⟩
    have hg : P.getD t pz = p := by rw [List.getD_eq_getElem?_getD, hp]; rfl
    have hi := (heap_get (sc := sc) (x := x) (m := m) hp).1
    have L := ih (t + 1) (by omega)
    rw [sp_cntP, hg] at L
    unfold heap at hi L ⊢
    repeat (refine mw_step rfl ?_)
    refine mw_brT rfl (n_lt (by omega) (by omega)) ?_
    repeat (refine mw_step rfl ?_)
    refine mw_call (c_pieceAt t h8 (by omega)) rfl rfl (Nat.le_of_ble_eq_true rfl) (Nat.le_refl _) (Nat.le_refl _) ?_
    repeat (refine mw_step rfl ?_)
    refine mw_getf rfl hi (by omega) rfl ?_
    refine mw_call (c_J_bits _ _) rfl rfl (Nat.le_of_ble_eq_true rfl) (Nat.le_refl _) (Nat.le_refl _) ?_
    repeat (refine mw_to 4 rfl rfl ?_)
    rw [nI_1]
    refine mw_pick [0, 1, 2] rfl ?_
    exact L
theorem c_C_looked (h8 : P.length ≤ 8) : MC M_C_marksLookedFor 2 0 0 [.ref 5] (heap sc x m P) (some (.int (sp_cntP P P.length))) (heap sc x m P) := by
  refine mc_of k1_C_marksLookedFor k2_C_marksLookedFor (Nat.le_of_ble_eq_true rfl) ?_
  repeat (refine mw_to 4 rfl rfl ?_)
  refine mw_pick [0, 1, 2] rfl ?_
  exact l_C_looked h8 P.length 0 (by omega)
def sp_cnt (what a0 a1 a2 a3 a4 a5 a6 : Int32) : Int32 := if what = nI 0 then a0 else if what = nI 1 then a1 else if what = nI 2 then a2 else if what = nI 3 then a3 else if what = nI 4 then a4 else if what = nI 5 then a5 else if what = nI 6 then a6 else -1
theorem c_C_count (h8 : P.length ≤ 8) (what : Int32) : MC M_C_count 3 0 0 [.ref 5, .int what] (heap sc x m P) (some (.int (sp_cnt what (nI P.length) (xP_many x) (sp_cntP P P.length) (xR_len x) (xT_done x) (xB_many x) (xB_runs x)))) (heap sc x m P) := by
  refine mc_of k1_C_count k2_C_count (Nat.le_of_ble_eq_true rfl) ?_
  have hl := c_C_looked (sc := sc) (x := x) (m := m) h8
  unfold heap at hl ⊢
  repeat (refine mw_step rfl ?_)
  by_cases hw : 0 ≤ what ∧ what ≤ nI 6
  · obtain ⟨a, ha, rfl⟩ := rng (n := 6) (by decide) hw
    rcases (show a = 0 ∨ a = 1 ∨ a = 2 ∨ a = 3 ∨ a = 4 ∨ a = 5 ∨ a = 6 by omega) with rfl | rfl | rfl | rfl | rfl | rfl | rfl
    · refine mw_sw (t := 44) rfl ?_
      repeat (refine mw_step rfl ?_)
      exact mw_r1 rfl trivial (Nat.le_refl _) (Nat.le_refl _) rfl rfl
    · refine mw_sw (t := 49) rfl ?_
      repeat (refine mw_step rfl ?_)
      exact mw_r1 rfl trivial (Nat.le_refl _) (Nat.le_refl _) rfl rfl
    · refine mw_sw (t := 57) rfl ?_
      repeat (refine mw_step rfl ?_)
      refine mw_call (hl) rfl rfl (Nat.le_of_ble_eq_true rfl) (Nat.le_refl _) (Nat.le_refl _) ?_
      exact mw_r1 rfl trivial (Nat.le_refl _) (Nat.le_refl _) rfl rfl
    · refine mw_sw (t := 62) rfl ?_
      repeat (refine mw_step rfl ?_)
      exact mw_r1 rfl trivial (Nat.le_refl _) (Nat.le_refl _) rfl rfl
    · refine mw_sw (t := 70) rfl ?_
      repeat (refine mw_step rfl ?_)
      exact mw_r1 rfl trivial (Nat.le_refl _) (Nat.le_refl _) rfl rfl
    · refine mw_sw (t := 78) rfl ?_
      repeat (refine mw_step rfl ?_)
      exact mw_r1 rfl trivial (Nat.le_refl _) (Nat.le_refl _) rfl rfl
    · refine mw_sw (t := 86) rfl ?_
      repeat (refine mw_step rfl ?_)
      exact mw_r1 rfl trivial (Nat.le_refl _) (Nat.le_refl _) rfl rfl
  · refine mw_sw (t := 94) (m_sw_out rfl (m_out (n := 6) (by decide) hw) rfl) ?_
    repeat (refine mw_step rfl ?_)
    have hne : ∀ k : Nat, k ≤ 6 → ¬ what = nI k := fun k hk e => hw (by rw [e]; exact rng_in hk (by decide))
    exact mw_r1 rfl trivial (Nat.le_refl _) (Nat.le_refl _) (by rw [sp_cnt, if_neg (hne 0 (by omega)), if_neg (hne 1 (by omega)), if_neg (hne 2 (by omega)), if_neg (hne 3 (by omega)), if_neg (hne 4 (by omega)), if_neg (hne 5 (by omega)), if_neg (hne 6 (by omega))]) rfl
theorem l_O_looked (n : Nat) (hn : n ≤ 8) (hp : zp_parts m = nI n) : ∀ r t, t + r = 6 * n → MW M_O_lookedFor 0 0 0 (some (.int (sp_cntO (zp_found m) (6 * n)))) (heapN N sc x m tl) 0 0 4 [(0, .ref 39), (1, .int (sp_cntO (zp_found m) t)), (2, .int (nI t))] [] (heapN N sc x m tl) := by
  have e : (6 : Int32) * nI n = nI (6 * n) := pk_mul 6 n
  intro r
  induction r with
  | zero =>
    intro t ht
    rw [show t = 6 * n by omega]
    repeat (refine mw_step rfl ?_)
    refine mw_brF rfl (by rw [hp, e]; exact n_nlt (by omega) (by omega)) ?_
    repeat (refine mw_step rfl ?_)
    exact mw_r1 rfl trivial (Nat.le_refl _) (Nat.le_refl _) rfl rfl
  | succ r ih =>
    intro t ht
    have L := ih (t + 1) (by omega)
    rw [sp_cntO] at L
    repeat (refine mw_step rfl ?_)
    refine mw_brT rfl (by rw [hp, e]; exact n_lt (by omega) (by omega)) ?_
    repeat (refine mw_step rfl ?_)
    refine mw_ild rfl (rfl) (by omega) (by decide) ?_
    refine mw_br rfl (fun h1 => ?_) (fun h1 => ?_)
    · rw [if_pos h1] at L
      repeat (refine mw_to 4 rfl rfl ?_)
      rw [nI_1]
      refine mw_pick [0, 1, 2] rfl ?_
      exact L
    · rw [if_neg h1] at L
      repeat (refine mw_to 4 rfl rfl ?_)
      rw [nI_1]
      refine mw_pick [0, 1, 2] rfl ?_
      exact L
theorem c_O_looked (n : Nat) (hn : n ≤ 8) (hp : zp_parts m = nI n) : MC M_O_lookedFor 0 0 0 [.ref 39] (heapN N sc x m tl) (some (.int (sp_cntO (zp_found m) (6 * n)))) (heapN N sc x m tl) := by
  refine mc_of k1_O_lookedFor k2_O_lookedFor (Nat.le_of_ble_eq_true rfl) ?_
  repeat (refine mw_to 4 rfl rfl ?_)
  refine mw_pick [0, 1, 2] rfl ?_
  exact l_O_looked n hn hp (6 * n) 0 (by omega)
theorem c_O_count (n : Nat) (hn : n ≤ 8) (hp : zp_parts m = nI n) (what : Int32) : MC M_O_count 1 0 0 [.ref 39, .int what] (heapN N sc x m tl) (some (.int (sp_cnt what (nI n) (zq_papers m) (sp_cntO (zp_found m) (6 * n)) (zt_tapeMany m) (za_done m) (zb_bodies m) (zb_ran m)))) (heapN N sc x m tl) := by
  refine mc_of k1_O_count k2_O_count (Nat.le_of_ble_eq_true rfl) ?_
  repeat (refine mw_step rfl ?_)
  by_cases hw : 0 ≤ what ∧ what ≤ nI 6
  · obtain ⟨a, ha, rfl⟩ := rng (n := 6) (by decide) hw
    rcases (show a = 0 ∨ a = 1 ∨ a = 2 ∨ a = 3 ∨ a = 4 ∨ a = 5 ∨ a = 6 by omega) with rfl | rfl | rfl | rfl | rfl | rfl | rfl
    · refine mw_sw (t := 44) rfl ?_
      repeat (refine mw_step rfl ?_)
      exact mw_r1 rfl trivial (Nat.le_refl _) (Nat.le_refl _) (by rw [hp]; rfl) rfl
    · refine mw_sw (t := 49) rfl ?_
      repeat (refine mw_step rfl ?_)
      exact mw_r1 rfl trivial (Nat.le_refl _) (Nat.le_refl _) rfl rfl
    · refine mw_sw (t := 54) rfl ?_
      repeat (refine mw_step rfl ?_)
      refine mw_call (c_O_looked n hn hp) rfl rfl (Nat.le_of_ble_eq_true rfl) (Nat.le_refl _) (Nat.le_refl _) ?_
      exact mw_r1 rfl trivial (Nat.le_refl _) (Nat.le_refl _) rfl rfl
    · refine mw_sw (t := 59) rfl ?_
      repeat (refine mw_step rfl ?_)
      exact mw_r1 rfl trivial (Nat.le_refl _) (Nat.le_refl _) rfl rfl
    · refine mw_sw (t := 64) rfl ?_
      repeat (refine mw_step rfl ?_)
      exact mw_r1 rfl trivial (Nat.le_refl _) (Nat.le_refl _) rfl rfl
    · refine mw_sw (t := 69) rfl ?_
      repeat (refine mw_step rfl ?_)
      exact mw_r1 rfl trivial (Nat.le_refl _) (Nat.le_refl _) rfl rfl
    · refine mw_sw (t := 74) rfl ?_
      repeat (refine mw_step rfl ?_)
      exact mw_r1 rfl trivial (Nat.le_refl _) (Nat.le_refl _) rfl rfl
  · refine mw_sw (t := 79) (m_sw_out rfl (m_out (n := 6) (by decide) hw) rfl) ?_
    repeat (refine mw_step rfl ?_)
    have hne : ∀ k : Nat, k ≤ 6 → ¬ what = nI k := fun k hk e => hw (by rw [e]; exact rng_in hk (by decide))
    exact mw_r1 rfl trivial (Nat.le_refl _) (Nat.le_refl _) (by rw [sp_cnt, if_neg (hne 0 (by omega)), if_neg (hne 1 (by omega)), if_neg (hne 2 (by omega)), if_neg (hne 3 (by omega)), if_neg (hne 4 (by omega)), if_neg (hne 5 (by omega)), if_neg (hne 6 (by omega))]) rfl
/-- taken -/
def sp_und (top : Int32) : Nat → Int32 → Bool
  | 0, _ => false
  | r + 1, a => if 0 ≤ a ∧ a ≤ nI 7 then (if a = top then true else sp_und top r (k_above a.toNatClampNeg)) else false
theorem bI_b {b : Bool} (h : b = true) : bI (b = true) = 1 := bI_t h
theorem l_B_isUnder (top : Int32) (k0 : Value) : ∀ r t (a : Int32), t + r = 8 → MW M_B_isUnder 2 0 0 (some (.int (bI (sp_und top r a = true)))) (heapN N sc x m tl) 0 0 4 [(0, k0), (1, .int top), (2, .int a), (3, .int (nI t))] [] (heapN N sc x m tl) := by
  intro r
  induction r with
  | zero =>
    intro t a ht
    repeat (refine mw_step rfl ?_)
    refine mw_brF rfl (n_nlt (b := 8) (by omega) (by omega)) ?_
    repeat (refine mw_step rfl ?_)
    exact mw_r1 rfl rfl (Nat.le_refl _) (Nat.le_refl _) (by rw [bI_f]; exact (show ¬ (false = true) by decide)) rfl
  | succ r ih =>
    intro t a ht
    repeat (refine mw_step rfl ?_)
    refine mw_brT rfl (n_lt (b := 8) (by omega) (by omega)) ?_
    repeat (refine mw_step rfl ?_)
    refine mw_call (c_B_isBodyKind _ _) rfl rfl (Nat.le_of_ble_eq_true rfl) (Nat.le_refl _) (Nat.le_refl _) ?_
    refine mw_br rfl (fun h1 => ?_) (fun h1 => ?_)
    · repeat (refine mw_step rfl ?_)
      exact mw_r1 rfl rfl (Nat.le_refl _) (Nat.le_refl _) (by rw [bI_f]; rw [sp_und, if_neg (bI_0.mp h1)]; decide) rfl
    · have h1 := bI_of h1
      repeat (refine mw_step rfl ?_)
      refine mw_br rfl (fun h2 => ?_) (fun h2 => ?_)
      · repeat (refine mw_step rfl ?_)
        exact mw_r1 rfl rfl (Nat.le_refl _) (Nat.le_refl _) (by rw [bI_t]; rw [sp_und, if_pos h1, if_pos h2]) rfl
      · obtain ⟨b, hb, rfl⟩ := rng (n := 7) (by decide) h1
        have L := ih (t + 1) (k_above b) (by omega)
        rw [show sp_und top (r + 1) (nI b) = sp_und top r (k_above b) by rw [sp_und, if_pos h1, if_neg h2, nI_clamp (by omega)]]
        repeat (refine mw_step rfl ?_)
        refine mw_ild rfl (rfl) (by omega) (by decide) ?_
        repeat (refine mw_to 4 rfl rfl ?_)
        rw [nI_1]
        refine mw_pick [0, 1, 2, 3] rfl ?_
        exact L
theorem c_B_isUnder (k top : Int32) : MC M_B_isUnder 2 0 0 [.int k, .int top] (heapN N sc x m tl) (some (.int (bI (sp_und top 8 k = true)))) (heapN N sc x m tl) := by
  refine mc_of k1_B_isUnder k2_B_isUnder (Nat.le_of_ble_eq_true rfl) ?_
  repeat (refine mw_to 4 rfl rfl ?_)
  refine mw_pick [0, 1, 2, 3] rfl ?_
  exact l_B_isUnder top (.int k) 8 0 k (by omega)
def sp_abv (k : Nat) : Nat := if k = 3 then 2 else if k = 4 then 1 else if k = 5 then 3 else if k = 7 then 4 else 0
theorem c_O_above (h : MH) (k : Nat) (hk : k ≤ 7) : MC M_O_above 0 0 0 [.int (nI k)] h (some (.int (nI (sp_abv k)))) h := by
  refine mc_of k1_O_above k2_O_above (Nat.le_of_ble_eq_true rfl) ?_
  rcases (show k = 0 ∨ k = 1 ∨ k = 2 ∨ k = 3 ∨ k = 4 ∨ k = 5 ∨ k = 6 ∨ k = 7 by omega) with rfl | rfl | rfl | rfl | rfl | rfl | rfl | rfl <;>
  · repeat (first | refine mw_step rfl ?_ | refine mw_brT rfl (by decide) ?_ | refine mw_brF rfl (by decide) ?_)
    exact mw_r1 rfl trivial (Nat.le_refl _) (Nat.le_refl _) rfl rfl
def sp_undO (top : Int32) : Nat → Nat → Bool
  | 0, _ => false
  | r + 1, k => if nI k = top then true else if k = 0 then false else sp_undO top r (sp_abv k)
theorem sp_abv_lt {k : Nat} (h : 0 < k) : sp_abv k < k := by
  unfold sp_abv
  split
  · omega
  · split
    · omega
    · split
      · omega
      · split <;> omega
theorem l_O_taken {v : Option Value} {hT : MH} (d top : Int32) : ∀ r k, k < r → k ≤ 7 → (sp_undO top r k = true → MW M_O_taken 2 0 0 v hT 0 0 75 [(0, .ref 39), (1, .int d), (2, .int top), (3, .int top)] [] (heapN N sc x m tl)) → (sp_undO top r k = false → ¬ top = 0 → MW M_O_taken 2 0 0 v hT 0 0 75 [(0, .ref 39), (1, .int d), (2, .int top), (3, .int 0)] [] (heapN N sc x m tl)) → MW M_O_taken 2 0 0 v hT 0 0 58 [(0, .ref 39), (1, .int d), (2, .int top), (3, .int (nI k))] [] (heapN N sc x m tl) := by
  intro r
  induction r with
  | zero => intro k hk; omega
  | succ r ih =>
    intro k hk h7 K1 K2
    rw [sp_undO] at K1 K2
    repeat (refine mw_step rfl ?_)
    refine mw_br rfl (fun h1 => ?_) (fun h1 => ?_)
    · rw [if_pos h1] at K1
      rw [show nI k = top from h1]
      exact K1 rfl
    · rw [if_neg h1] at K1 K2
      repeat (refine mw_step rfl ?_)
      by_cases h0 : k = 0
      · subst h0
        refine mw_brF rfl (by decide) ?_
        rw [if_pos rfl] at K2
        exact K2 rfl (fun e => h1 e.symm)
      · rw [if_neg h0] at K1 K2
        refine mw_brT rfl (n_lt (a := 0) (by omega) (by omega)) ?_
        repeat (refine mw_step rfl ?_)
        refine mw_call (c_O_above _ k h7) rfl rfl (Nat.le_of_ble_eq_true rfl) (Nat.le_refl _) (Nat.le_refl _) ?_
        repeat (refine mw_to 58 rfl rfl ?_)
        refine mw_pick [0, 1, 2, 3] rfl ?_
        have := sp_abv_lt (k := k) (by omega)
        exact ih (sp_abv k) (by omega) (by omega) K1 K2
end CN
