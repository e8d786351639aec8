/-! weights -/
def sN (f : Nat → Nat) : Nat → Nat
  | 0 => 0
  | n + 1 => sN f n + f n
theorem sN_congr {f g : Nat → Nat} : ∀ {n : Nat}, (∀ k, k < n → f k = g k) → sN f n = sN g n
  | 0, _ => rfl
  | n + 1, h => by rw [sN, sN, sN_congr (fun k hk => h k (by omega)), h n (by omega)]
theorem sN_le {f : Nat → Nat} {c : Nat} : ∀ {n : Nat}, (∀ k, k < n → f k ≤ c) → sN f n ≤ n * c
  | 0, _ => by rw [sN]; omega
  | n + 1, h => by
    have h1 := sN_le (n := n) (fun k hk => h k (by omega))
    have h2 := h n (by omega)
    rw [sN, Nat.succ_mul]
    omega
theorem sN_0 {f : Nat → Nat} : ∀ {n : Nat}, (∀ k, k < n → f k = 0) → sN f n = 0
  | 0, _ => rfl
  | n + 1, h => by rw [sN, sN_0 (fun k hk => h k (by omega)), h n (by omega)]
theorem sN_z {f : Nat → Nat} : ∀ {n : Nat}, sN f n = 0 → ∀ k, k < n → f k = 0
  | 0, _, k, hk => absurd hk (by omega)
  | n + 1, h, k, hk => by
    rw [sN] at h
    by_cases e : k = n
    · subst e; omega
    · exact sN_z (n := n) (by omega) k (by omega)
theorem sN_mem {f : Nat → Nat} : ∀ {n k : Nat}, k < n → f k ≤ sN f n
  | 0, k, h => absurd h (by omega)
  | n + 1, k, h => by
    rw [sN]
    by_cases e : k = n
    · subst e; omega
    · have := sN_mem (f := f) (n := n) (k := k) (by omega)
      omega
theorem sN_mul (c : Nat) (f : Nat → Nat) : ∀ n, sN (fun k => c * f k) n = c * sN f n
  | 0 => rfl
  | n + 1 => by rw [sN, sN, sN_mul c f n, Nat.mul_add]
theorem sN_add (f g : Nat → Nat) : ∀ n, sN (fun k => f k + g k) n = sN f n + sN g n
  | 0 => rfl
  | n + 1 => by rw [sN, sN, sN, sN_add f g n]; omega
def w_fc (w a : Nat) : Nat := if w = 0 then 1 else if w = 1 then a else 100 - a
theorem w_fc_le {w a : Nat} (h : a ≤ 100) : w_fc w a ≤ 100 := by
  unfold w_fc
  split
  · omega
  · split <;> omega
def w_pr (nbk way : Nat → Nat) (b : Nat) : Nat → Nat
  | 0 => b
  | t + 1 => w_pr nbk way b t * w_fc (way t) (nbk t)
theorem w_pr_le {nbk way : Nat → Nat} {b : Nat} (h : ∀ j, nbk j ≤ 100) : ∀ t, w_pr nbk way b t ≤ b * 100 ^ t
  | 0 => by rw [w_pr]; omega
  | t + 1 => by
    rw [w_pr, Nat.pow_succ, ← Nat.mul_assoc]
    exact Nat.mul_le_mul (w_pr_le h t) (w_fc_le (h t))
theorem w_pr_0 {nbk way : Nat → Nat} : ∀ t, w_pr nbk way 0 t = 0
  | 0 => rfl
  | t + 1 => by rw [w_pr, w_pr_0 t, Nat.zero_mul]
theorem w_pr_congr {nbk nbk' way way' : Nat → Nat} {b : Nat} : ∀ {t}, (∀ j, j < t → w_fc (way j) (nbk j) = w_fc (way' j) (nbk' j)) → w_pr nbk way b t = w_pr nbk' way' b t
  | 0, _ => rfl
  | t + 1, h => by rw [w_pr, w_pr, w_pr_congr (fun j hj => h j (by omega)), h t (by omega)]
def wt (B : Nat → Nat) (nb : Nat → Nat → Nat) (way : Nat → Nat) (kt : Nat) : Nat := w_pr (fun j => nb j kt) way (B (kt / 30)) 6
def ks (B : Nat → Nat) (nb : Nat → Nat → Nat) (way : Nat → Nat) (k : Nat) : Nat := sN (fun y => wt B nb way (30 * k + y)) 30
def al (B : Nat → Nat) (nb : Nat → Nat → Nat) (way : Nat → Nat) : Nat := sN (ks B nb way) 6
def wayB (lk th j : Nat) : Nat := if lk.testBit j = true then (if th.testBit j = true then 1 else 2) else 0
/-- what is asked of beliefs and numbers -/
def WOK (B : Nat → Nat) (nb : Nat → Nat → Nat) : Prop := (∀ k, B k ≤ 9) ∧ ∀ j kt, nb j kt ≤ 100
section SP
variable {B : Nat → Nat} {nb : Nat → Nat → Nat} {way : Nat → Nat}
theorem wt_le (h : WOK B nb) (kt : Nat) : wt B nb way kt ≤ 9000000000000 := by
  have := w_pr_le (nbk := fun j => nb j kt) (way := way) (b := B (kt / 30)) (fun j => h.2 j kt) 6
  have h9 := h.1 (kt / 30)
  unfold wt
  omega
theorem ks_le (h : WOK B nb) (k : Nat) : ks B nb way k ≤ 270000000000000 := sN_le (n := 30) (fun y _ => wt_le h _)
theorem al_le (h : WOK B nb) : al B nb way ≤ 1620000000000000 := sN_le (n := 6) (fun k _ => ks_le h k)
theorem ks_al (k : Nat) (hk : k < 6) : ks B nb way k ≤ al B nb way := sN_mem hk
theorem ks_B0 {k : Nat} (h : B k = 0) : ks B nb way k = 0 := sN_0 (fun y hy => by
  unfold wt
  rw [show (30 * k + y) / 30 = k by omega, h, w_pr_0])
theorem wt_congr {way' : Nat → Nat} (h : ∀ j, j < 6 → way j = way' j) (kt : Nat) : wt B nb way kt = wt B nb way' kt := w_pr_congr (fun j hj => by rw [h j hj])
theorem ks_congr {way' : Nat → Nat} (h : ∀ j, j < 6 → way j = way' j) (k : Nat) : ks B nb way k = ks B nb way' k := sN_congr (fun y _ => wt_congr h _)
theorem al_congr {way' : Nat → Nat} (h : ∀ j, j < 6 → way j = way' j) : al B nb way = al B nb way' := sN_congr (fun k _ => ks_congr h k)
end SP
/-- the class's beliefs -/
def BL (x : XS) (B : Nat → Nat) : Prop := ∀ k, k < 6 → xT_now x k = nI (B k)
section SW
variable {sc : Nat × (Nat → Int32)} {x : XS} {m : OS} {P : List PieceS} {N : Nat} {B : Nat → Nat} {T : Nat → Option Tx} {k : Nat} {p : PieceS}
theorem c_T_bel (hB : BL x B) (kd : Nat) (hkd : kd < 6) {tl : MH} : MC M_T_get 0 0 0 [.ref 6, .int 0, .int (nI kd)] (heapN N sc x m tl) (some (.int (nI (B kd)))) (heapN N sc x m tl) := by
  have := c_T_get (N := N) (sc := sc) (x := x) (m := m) (tl := tl) 0 kd (by omega)
  rw [show 0 * 6 + kd = kd by omega, hB kd hkd] at this
  exact this
theorem l_S_weight (hp : P[k]? = some p) (lk th : Nat) (hlk : lk < 64) (hth : th < 64) (hN : KNs T p lk) (kd y : Nat) (hkd : kd < 6) (hy : y < 30) (b : Nat) : ∀ r t, t + r = 6 → MW M_S_weight 1 0 0 (some (.long (lN (w_pr (fun j => nbW T (i_wood p) (i_place p) j (30 * kd + y)) (wayB lk th) b 6)))) (heapN N sc x m (pcells 67 P)) 0 0 15 [(0, .ref 18), (1, .ref (2 * k + 67)), (2, .int (nI kd)), (3, .int (nI y)), (4, .int (nI lk)), (5, .int (nI th)), (6, .long (lN (w_pr (fun j => nbW T (i_wood p) (i_place p) j (30 * kd + y)) (wayB lk th) b t))), (8, .int (nI t))] [] (heapN N sc x m (pcells 67 P)) := by
  have hi := (heapN_gp (N := N) (sc := sc) (x := x) (m := m) hp).1
  have hn := (heapN_gp (N := N) (sc := sc) (x := x) (m := m) hp).2
  intro r
  induction r with
  | zero =>
    intro t ht
    rw [show t = 6 by omega]
    repeat (refine mw_step rfl ?_)
    refine mw_brF rfl (by decide) ?_
    repeat (refine mw_step rfl ?_)
    exact mw_r1 rfl trivial (Nat.le_refl _) (Nat.le_refl _) rfl rfl
  | succ r ih =>
    intro t ht
    have L := ih (t + 1) (by omega)
    have hnb := nbW_le T (i_wood p) (i_place p) t (30 * kd + y)
    rw [show w_pr (fun j => nbW T (i_wood p) (i_place p) j (30 * kd + y)) (wayB lk th) b (t + 1) = w_pr (fun j => nbW T (i_wood p) (i_place p) j (30 * kd + y)) (wayB lk th) b t * w_fc (wayB lk th t) (nbW T (i_wood p) (i_place p) t (30 * kd + y)) from rfl, ← lN_mul] at L
    repeat (refine mw_step rfl ?_)
    refine mw_brT rfl (n_lt (b := 6) (by omega) (by omega)) ?_
    repeat (refine mw_step rfl ?_)
    refine mw_call (c_hasBit _ _ _) rfl rfl (Nat.le_of_ble_eq_true rfl) (Nat.le_refl _) (Nat.le_refl _) ?_
    by_cases h1 : lk.testBit t = true
    · refine mw_brF rfl (bI_ne ((b_has _ hlk _ (by omega)).mpr h1)) ?_
      have ev : i_num p ((t * 6 + kd) * 30 + y) = nI (nbW T (i_wood p) (i_place p) t (30 * kd + y)) := by
        rw [show (t * 6 + kd) * 30 + y = 180 * t + (30 * kd + y) by omega, hN t (30 * kd + y) (by omega) (by omega) h1]
      repeat (refine mw_step rfl ?_)
      refine mw_callP (c_I_numberAt hi (by omega) hn t kd y (by omega)) rfl rfl hi (by omega) rfl (Nat.le_of_ble_eq_true rfl) (Nat.le_refl _) (Nat.le_refl _) ?_
      rw [ev]
      repeat (refine mw_step rfl ?_)
      refine mw_call (c_hasBit _ _ _) rfl rfl (Nat.le_of_ble_eq_true rfl) (Nat.le_refl _) (Nat.le_refl _) ?_
      by_cases h2 : th.testBit t = true
      · refine mw_brF rfl (bI_ne ((b_has _ hth _ (by omega)).mpr h2)) ?_
        rw [wayB, if_pos h1, if_pos h2, w_fc, if_neg (by decide), if_pos rfl, ← nI_l (n := nbW T (i_wood p) (i_place p) t (30 * kd + y)) (by omega)] at L
        repeat (refine mw_to 15 rfl rfl ?_)
        rw [nI_1]
        refine mw_pick [0, 1, 2, 3, 4, 5, 6, 8] rfl ?_
        exact L
      · refine mw_brT rfl (bI_f (fun z => h2 ((b_has _ hth _ (by omega)).mp z))) ?_
        rw [wayB, if_pos h1, if_neg h2, w_fc, if_neg (by decide), if_neg (by decide), ← nI_l (n := 100 - nbW T (i_wood p) (i_place p) t (30 * kd + y)) (by omega), ← pk_sub hnb] at L
        repeat (refine mw_to 15 rfl rfl ?_)
        rw [nI_1]
        refine mw_pick [0, 1, 2, 3, 4, 5, 6, 8] rfl ?_
        exact L
    · refine mw_brT rfl (bI_f (fun z => h1 ((b_has _ hlk _ (by omega)).mp z))) ?_
      rw [wayB, if_neg h1, w_fc, if_pos rfl, lN_mul, Nat.mul_one] at L
      repeat (refine mw_to 15 rfl rfl ?_)
      rw [nI_1]
      refine mw_pick [0, 1, 2, 3, 4, 5, 6, 8] rfl ?_
      exact L
theorem c_S_weight (hB : BL x B) (hp : P[k]? = some p) (lk th : Nat) (hlk : lk < 64) (hth : th < 64) (hN : KNs T p lk) (kd y : Nat) (hkd : kd < 6) (hy : y < 30) (hb9 : B kd ≤ 9) : MC M_S_weight 1 0 0 [.ref 18, .ref (2 * k + 67), .int (nI kd), .int (nI y), .int (nI lk), .int (nI th)] (heapN N sc x m (pcells 67 P)) (some (.long (lN (wt B (nbW T (i_wood p) (i_place p)) (wayB lk th) (30 * kd + y))))) (heapN N sc x m (pcells 67 P)) := by
  have e : wt B (nbW T (i_wood p) (i_place p)) (wayB lk th) (30 * kd + y) = w_pr (fun j => nbW T (i_wood p) (i_place p) j (30 * kd + y)) (wayB lk th) (B kd) 6 := by
    unfold wt
    rw [show (30 * kd + y) / 30 = kd by omega]
  rw [e]
  refine mc_of k1_S_weight k2_S_weight (Nat.le_of_ble_eq_true rfl) ?_
  repeat (refine mw_step rfl ?_)
  refine mw_call (c_T_bel hB kd hkd) rfl rfl (Nat.le_of_ble_eq_true rfl) (Nat.le_refl _) (Nat.le_refl _) ?_
  repeat (refine mw_to 15 rfl rfl ?_)
  rw [nI_l (by omega)]
  refine mw_pick [0, 1, 2, 3, 4, 5, 6, 8] rfl ?_
  exact l_S_weight hp lk th hlk hth hN kd y hkd hy (B kd) 6 0 (by omega)
/-- the inner loop of weigh: times -/
theorem l_S_weigh1 (hB : BL x B) (hW : WOK B (nbW T (i_wood p) (i_place p))) (hp : P[k]? = some p) (lk th : Nat) (hlk : lk < 64) (hth : th < 64) (hN : KNs T p lk) (kd : Nat) (hkd : kd < 6) (a : Int64) {v : Option Value} {hT : MH}
    (K : MW M_S_weigh 4 0 0 v hT 0 0 70 [(0, .ref 18), (1, .ref (2 * k + 67)), (2, .int (nI lk)), (3, .int (nI th)), (4, .long a), (6, .int (nI kd)), (7, .long (lN (ks B (nbW T (i_wood p) (i_place p)) (wayB lk th) kd)))] [] (heapN N sc x m (pcells 67 P))) : ∀ r t, t + r = 30 → MW M_S_weigh 4 0 0 v hT 0 0 28 [(0, .ref 18), (1, .ref (2 * k + 67)), (2, .int (nI lk)), (3, .int (nI th)), (4, .long a), (6, .int (nI kd)), (7, .long (lN (sN (fun y => wt B (nbW T (i_wood p) (i_place p)) (wayB lk th) (30 * kd + y)) t))), (9, .int (nI t))] [] (heapN N sc x m (pcells 67 P)) := by
  intro r
  induction r with
  | zero =>
    intro t ht
    rw [show t = 30 by omega]
    repeat (refine mw_step rfl ?_)
    refine mw_brF rfl (by decide) ?_
    refine mw_pick [0, 1, 2, 3, 4, 6, 7] rfl ?_
    exact K
  | succ r ih =>
    intro t ht
    have L := ih (t + 1) (by omega)
    rw [sN, ← lN_add] at L
    repeat (refine mw_step rfl ?_)
    refine mw_brT rfl (n_lt (b := 30) (by omega) (by omega)) ?_
    repeat (refine mw_step rfl ?_)
    refine mw_call (c_T_bel hB kd hkd) rfl rfl (Nat.le_of_ble_eq_true rfl) (Nat.le_refl _) (Nat.le_refl _) ?_
    by_cases h0 : B kd = 0
    · have hz : ∀ t, sN (fun y => wt B (nbW T (i_wood p) (i_place p)) (wayB lk th) (30 * kd + y)) t = 0 ∨ 30 < t := fun t => by
        by_cases h : t ≤ 30
        · left
          refine sN_0 (fun y hy => ?_)
          unfold wt
          rw [show (30 * kd + y) / 30 = kd by omega, h0, w_pr_0]
        · right
          omega
      have e1 : sN (fun y => wt B (nbW T (i_wood p) (i_place p)) (wayB lk th) (30 * kd + y)) t = 0 := by
        rcases hz t with z | z
        · exact z
        · omega
      rw [ks_B0 h0] at K
      rw [h0, e1]
      refine mw_brT rfl (rfl) ?_
      refine mw_pick [0, 1, 2, 3, 4, 6, 7] rfl ?_
      exact K
    · have h9 := hW.1 kd
      refine mw_brF rfl (nI_ne0 (by omega) (by omega)) ?_
      repeat (refine mw_step rfl ?_)
      refine mw_call (c_S_weight hB hp lk th hlk hth hN kd t hkd (by omega) h9) rfl rfl (Nat.le_of_ble_eq_true rfl) (Nat.le_refl _) (Nat.le_refl _) ?_
      repeat (refine mw_to 28 rfl rfl ?_)
      rw [nI_1]
      refine mw_pick [0, 1, 2, 3, 4, 6, 7, 9] rfl ?_
      exact L
/-- sums of kinds, so far -/
def smK (B : Nat → Nat) (nb : Nat → Nat → Nat) (way : Nat → Nat) (f : Nat → Int64) (t : Nat) : Nat → Int64 := fun j => if j < t then lN (ks B nb way j) else f j
theorem smK_1 (B : Nat → Nat) (nb : Nat → Nat → Nat) (way : Nat → Nat) (f : Nat → Int64) (t : Nat) : vp_updL (smK B nb way f t) t (lN (ks B nb way t)) = smK B nb way f (t + 1) := by
  funext j
  unfold vp_updL smK
  by_cases h : j = t
  · rw [if_pos h, if_pos (by omega), h]
  · rw [if_neg h]
    by_cases h2 : j < t
    · rw [if_pos h2, if_pos (by omega)]
    · rw [if_neg h2, if_neg (by omega)]
theorem smK_0 (B : Nat → Nat) (nb : Nat → Nat → Nat) (way : Nat → Nat) (f : Nat → Int64) : smK B nb way f 0 = f := by
  funext j
  exact if_neg (by omega)
theorem l_S_weigh2 (hB : BL x B) (hW : WOK B (nbW T (i_wood p) (i_place p))) (hp : P[k]? = some p) (lk th : Nat) (hlk : lk < 64) (hth : th < 64) (hN : KNs T p lk) (f : Nat → Int64) : ∀ r t, t + r = 6 → MW M_S_weigh 4 0 0 (some (.long (lN (al B (nbW T (i_wood p) (i_place p)) (wayB lk th))))) (heapN N sc (xS_sums_s x (smK B (nbW T (i_wood p) (i_place p)) (wayB lk th) f 6)) m (pcells 67 P)) 0 0 15 [(0, .ref 18), (1, .ref (2 * k + 67)), (2, .int (nI lk)), (3, .int (nI th)), (4, .long (lN (sN (ks B (nbW T (i_wood p) (i_place p)) (wayB lk th)) t))), (6, .int (nI t))] [] (heapN N sc (xS_sums_s x (smK B (nbW T (i_wood p) (i_place p)) (wayB lk th) f t)) m (pcells 67 P)) := by
  intro r
  induction r with
  | zero =>
    intro t ht
    rw [show t = 6 by omega]
    repeat (refine mw_step rfl ?_)
    refine mw_brF rfl (by decide) ?_
    repeat (refine mw_step rfl ?_)
    exact mw_r1 rfl trivial (Nat.le_refl _) (Nat.le_refl _) rfl rfl
  | succ r ih =>
    intro t ht
    have L := ih (t + 1) (by omega)
    rw [sN, ← lN_add, ← smK_1 B (nbW T (i_wood p) (i_place p)) (wayB lk th) f t] at L
    repeat (refine mw_step rfl ?_)
    refine mw_brT rfl (n_lt (b := 6) (by omega) (by omega)) ?_
    repeat (refine mw_to 28 rfl rfl ?_)
    refine mw_pick [0, 1, 2, 3, 4, 6, 7, 9] rfl ?_
    refine l_S_weigh1 (x := xS_sums_s x (smK B (nbW T (i_wood p) (i_place p)) (wayB lk th) f t)) hB hW hp lk th hlk hth hN t (by omega) _ ?_ 30 0 (by omega)
    repeat (refine mw_step rfl ?_)
    refine mw_lst rfl (rfl) (by omega) (by decide) ?_
    repeat (refine mw_to 15 rfl rfl ?_)
    rw [nI_1]
    refine mw_pick [0, 1, 2, 3, 4, 6] rfl ?_
    exact L
/-- the class's sums -/
def SMS (x : XS) (f : Nat → Nat) : Prop := ∀ k, k < 6 → xS_sums x k = lN (f k)
abbrev xsc (x : XS) (stk : Nat → Int32) (s : xSS) : XS := xS_s (xW_stack_s x stk) s
theorem c_S_weigh (hL : LOK x T) (hB : BL x B) (hW : WOK B (nbW T (i_wood p) (i_place p))) (hp : P[k]? = some p) (hK : KN T p) (lk th : Nat) (hlk : lk < 64) (hth : th < 64) : ∃ stk q sm, PSame p q ∧ KN T q ∧ KNs T q lk ∧ (∀ j, j < 6 → sm j = lN (ks B (nbW T (i_wood p) (i_place p)) (wayB lk th) j)) ∧ MC M_S_weigh 4 0 0 [.ref 18, .ref (2 * k + 67), .int (nI lk), .int (nI th)] (heapN N sc x m (pcells 67 P)) (some (.long (lN (al B (nbW T (i_wood p) (i_place p)) (wayB lk th))))) (heapN N sc (xS_sums_s (xW_stack_s x stk) sm) m (pcells 67 (P.set k q))) := by
  have hk : k < P.length := (List.getElem?_eq_some_iff.mp hp).1
  obtain ⟨stk, q, s1, s2, s3, C⟩ := c_I_learn (N := N) (sc := sc) (m := m) hL hp hK lk hlk
  have hpi := (heapN_gp (N := N) (sc := sc) (x := x) (m := m) hp).1
  refine ⟨stk, q, smK B (nbW T (i_wood p) (i_place p)) (wayB lk th) (xS_sums x) 6, s1, s2, s3, fun j hj => if_pos hj, ?_⟩
  have L := l_S_weigh2 (N := N) (sc := sc) (m := m) (x := xW_stack_s x stk) (P := P.set k q) (k := k) (p := q) (T := T) (B := B) hB (by rw [s1.1, s1.2.1]; exact hW) (set_get hk q) lk th hlk hth s3 (xS_sums x) 6 0 (by omega)
  rw [smK_0, s1.1, s1.2.1] at L
  refine mc_of k1_S_weigh k2_S_weigh (Nat.le_of_ble_eq_true rfl) ?_
  repeat (refine mw_step rfl ?_)
  refine mw_callP C rfl rfl hpi (by omega) rfl (Nat.le_of_ble_eq_true rfl) (Nat.le_refl _) (Nat.le_refl _) ?_
  repeat (refine mw_to 15 rfl rfl ?_)
  refine mw_pick [0, 1, 2, 3, 4, 6] rfl ?_
  exact L
theorem c_S_weighFound (hL : LOK x T) (hB : BL x B) (hW : WOK B (nbW T (i_wood p) (i_place p))) (hp : P[k]? = some p) (hK : KN T p) (lk th : Nat) (hlk : lk < 64) (hth : th < 64) (el : i_looked p = nI lk) (et : i_there p = nI th) : ∃ stk q sm, PSame p q ∧ KN T q ∧ KNs T q lk ∧ (∀ j, j < 6 → sm j = lN (ks B (nbW T (i_wood p) (i_place p)) (wayB lk th) j)) ∧ MC M_S_weighFound 5 0 0 [.ref 18, .ref (2 * k + 67)] (heapN N sc x m (pcells 67 P)) (some (.long (lN (al B (nbW T (i_wood p) (i_place p)) (wayB lk th))))) (heapN N sc (xS_sums_s (xW_stack_s x stk) sm) m (pcells 67 (P.set k q))) := by
  obtain ⟨stk, q, sm, s1, s2, s3, s4, C⟩ := c_S_weigh (N := N) (sc := sc) (m := m) hL hB hW hp hK lk th hlk hth
  have hpi := (heapN_gp (N := N) (sc := sc) (x := x) (m := m) hp).1
  refine ⟨stk, q, sm, s1, s2, s3, s4, ?_⟩
  refine mc_of k1_S_weighFound k2_S_weighFound (Nat.le_of_ble_eq_true rfl) ?_
  repeat (refine mw_step rfl ?_)
  refine mw_getf rfl hpi (by omega) rfl ?_
  repeat (refine mw_step rfl ?_)
  refine mw_getf rfl hpi (by omega) rfl ?_
  rw [el, et]
  refine mw_call (C) rfl rfl (Nat.le_of_ble_eq_true rfl) (Nat.le_refl _) (Nat.le_refl _) ?_
  exact mw_r1 rfl trivial (Nat.le_refl _) (Nat.le_refl _) rfl rfl
theorem c_S_percentOf {tl : MH} {f : Nat → Nat} (hs : SMS x f) (a kd : Nat) (hkd : kd < 6) (ha : a < 2 ^ 52) (hf : f kd ≤ a) : MC M_S_percentOf 2 0 0 [.ref 18, .int (nI kd), .long (lN a)] (heapN N sc x m tl) (some (.int (nI (f kd * 100 / a)))) (heapN N sc x m tl) := by
  refine mc_of k1_S_percentOf k2_S_percentOf (Nat.le_of_ble_eq_true rfl) ?_
  repeat (refine mw_step rfl ?_)
  by_cases h0 : a = 0
  · refine mw_brT rfl (by rw [lg_eq0, h0]; rfl) ?_
    repeat (refine mw_step rfl ?_)
    exact mw_r1 rfl trivial (Nat.le_refl _) (Nat.le_refl _) (by rw [h0, Nat.div_zero]; rfl) rfl
  · refine mw_brF rfl (by rw [lg_eq0]; exact fun e => h0 ((pk_lEQ (b := 0) (by omega) (by omega)).mp e)) ?_
    repeat (refine mw_step rfl ?_)
    refine mw_call (c_isKind _ _) rfl rfl (Nat.le_of_ble_eq_true rfl) (Nat.le_refl _) (Nat.le_refl _) ?_
    refine mw_brF rfl (bI_ne (rng_in (by omega) (by decide))) ?_
    repeat (refine mw_step rfl ?_)
    refine mw_lld rfl (rfl) (by omega) (by decide) ?_
    rw [hs kd hkd]
    repeat (refine mw_step rfl ?_)
    refine mw_div rfl (fun e => h0 ((pk_lEQ (b := 0) (by omega) (by omega)).mp e)) ?_
    rw [show (100 : Int64) = lN 100 from rfl, lN_mul, pk_lDiv (by omega) (by omega) (by omega)]
    repeat (refine mw_step rfl ?_)
    rw [lN_i]
    exact mw_r1 rfl trivial (Nat.le_refl _) (Nat.le_refl _) rfl rfl
end SW
