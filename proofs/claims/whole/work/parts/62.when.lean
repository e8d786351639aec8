/-! when, on both sides; what a call may change besides -/
section TG
variable {sc : Nat × (Nat → Int32)} {x : XS} {m : OS} {P : List PieceS} {N : Nat} {B : Nat → Nat} {T : Nat → Option Tx} {k : Nat} {p : PieceS} {lk th : Nat}
theorem c_S_weightFound (hB : BL x B) (hp : P[k]? = some p) (hlk : lk < 64) (hth : th < 64) (el : i_looked p = nI lk) (et : i_there p = nI th) (hN : KNs T p lk) (kd y : Nat) (hkd : kd < 6) (hy : y < 30) (hb9 : B kd ≤ 9) : MC M_S_weightFound 2 0 0 [.ref 18, .ref (2 * k + 67), .int (nI kd), .int (nI y)] (heapN N sc x m (pcells 67 P)) (some (.long (lN (wt B (nbW T (i_wood p) (i_place p)) (wayB lk th) (30 * kd + y))))) (heapN N sc x m (pcells 67 P)) := by
  have hpi := (heapN_gp (N := N) (sc := sc) (x := x) (m := m) hp).1
  refine mc_of k1_S_weightFound k2_S_weightFound (Nat.le_of_ble_eq_true rfl) ?_
  repeat (refine mw_step rfl ?_)
  refine mw_getf rfl hpi (by omega) rfl ?_
  repeat (refine mw_step rfl ?_)
  refine mw_getf rfl hpi (by omega) rfl ?_
  rw [el, et]
  refine mw_call (c_S_weight hB hp lk th hlk hth hN kd y hkd hy hb9) rfl rfl (Nat.le_of_ble_eq_true rfl) (Nat.le_refl _) (Nat.le_refl _) ?_
  exact mw_r1 rfl trivial (Nat.le_refl _) (Nat.le_refl _) rfl rfl
/-- the weights of a kind, by time -/
abbrev wK (B : Nat → Nat) (nb : Nat → Nat → Nat) (way : Nat → Nat) (kd : Nat) : Nat → Nat := fun y => wt B nb way (30 * kd + y)
theorem l_S_tg (hB : BL x B) (hW : WOK B (nbW T (i_wood p) (i_place p))) (hp : P[k]? = some p) (hlk : lk < 64) (hth : th < 64) (el : i_looked p = nI lk) (et : i_there p = nI th) (hN : KNs T p lk) (kd : Nat) (hkd : kd < 6) : ∀ r t, t + r = 30 → MW M_S_timeOfGreatest 3 0 0 (some (.int (gB (wK B (nbW T (i_wood p) (i_place p)) (wayB lk th) kd) 30).1)) (heapN N sc x m (pcells 67 P)) 0 0 9 [(0, .ref 18), (1, .ref (2 * k + 67)), (2, .int (nI kd)), (3, .int (gB (wK B (nbW T (i_wood p) (i_place p)) (wayB lk th) kd) t).1), (4, .long (lN (gB (wK B (nbW T (i_wood p) (i_place p)) (wayB lk th) kd) t).2)), (6, .int (nI t))] [] (heapN N sc x m (pcells 67 P)) := by
  intro r
  induction r with
  | zero =>
    intro t ht
    rw [show t = 30 by omega]
    repeat (refine mw_step rfl ?_)
    refine mw_brF rfl (by decide) ?_
    repeat (refine mw_step rfl ?_)
    exact mw_r1 rfl trivial (Nat.le_refl _) (Nat.le_refl _) rfl rfl
  | succ r ih =>
    intro t ht
    have L := ih (t + 1) (by omega)
    have h1 := wt_le (way := wayB lk th) hW (30 * kd + t)
    have h2 := gB_le (wK B (nbW T (i_wood p) (i_place p)) (wayB lk th) kd) (c := 9000000000000) t (fun j _ => wt_le hW _)
    rw [gB_s (wK B (nbW T (i_wood p) (i_place p)) (wayB lk th) kd) t] at L
    repeat (refine mw_step rfl ?_)
    refine mw_brT rfl (n_lt (b := 30) (by omega) (by omega)) ?_
    repeat (refine mw_step rfl ?_)
    refine mw_call (c_S_weightFound hB hp hlk hth el et hN kd t hkd (by omega) (hW.1 kd)) rfl rfl (Nat.le_of_ble_eq_true rfl) (Nat.le_refl _) (Nat.le_refl _) ?_
    repeat (refine mw_step rfl ?_)
    by_cases h : (gB (wK B (nbW T (i_wood p) (i_place p)) (wayB lk th) kd) t).2 < wt B (nbW T (i_wood p) (i_place p)) (wayB lk th) (30 * kd + t)
    · rw [if_pos h] at L
      refine mw_brT rfl (by rw [lg_gt0]; exact (pk_lLT (by omega) (by omega)).mpr h) ?_
      repeat (refine mw_to 9 rfl rfl ?_)
      rw [nI_1]
      refine mw_pick [0, 1, 2, 3, 4, 6] rfl ?_
      exact L
    · rw [if_neg h] at L
      refine mw_brF rfl (by rw [lg_gt0]; exact fun z => h ((pk_lLT (by omega) (by omega)).mp z)) ?_
      repeat (refine mw_to 9 rfl rfl ?_)
      rw [nI_1]
      refine mw_pick [0, 1, 2, 3, 4, 6] rfl ?_
      exact L
theorem c_S_tg (hB : BL x B) (hW : WOK B (nbW T (i_wood p) (i_place p))) (hp : P[k]? = some p) (hlk : lk < 64) (hth : th < 64) (el : i_looked p = nI lk) (et : i_there p = nI th) (hN : KNs T p lk) (kd : Nat) (hkd : kd < 6) : MC M_S_timeOfGreatest 3 0 0 [.ref 18, .ref (2 * k + 67), .int (nI kd)] (heapN N sc x m (pcells 67 P)) (some (.int (gB (wK B (nbW T (i_wood p) (i_place p)) (wayB lk th) kd) 30).1)) (heapN N sc x m (pcells 67 P)) := by
  refine mc_of k1_S_timeOfGreatest k2_S_timeOfGreatest (Nat.le_of_ble_eq_true rfl) ?_
  repeat (refine mw_to 9 rfl rfl ?_)
  refine mw_pick [0, 1, 2, 3, 4, 6] rfl ?_
  exact l_S_tg hB hW hp hlk hth el et hN kd hkd 30 0 (by omega)
theorem l_S_ft (hB : BL x B) (hW : WOK B (nbW T (i_wood p) (i_place p))) (hp : P[k]? = some p) (hlk : lk < 64) (hth : th < 64) (el : i_looked p = nI lk) (et : i_there p = nI th) (hN : KNs T p lk) (kd : Nat) (hkd : kd < 6) : ∀ r t, t + r = 30 → MW M_S_firstTime 3 0 0 (some (.int (f1 (wK B (nbW T (i_wood p) (i_place p)) (wayB lk th) kd) r t))) (heapN N sc x m (pcells 67 P)) 0 0 2 [(0, .ref 18), (1, .ref (2 * k + 67)), (2, .int (nI kd)), (3, .int (nI t))] [] (heapN N sc x m (pcells 67 P)) := by
  intro r
  induction r with
  | zero =>
    intro t ht
    rw [show t = 30 by omega]
    repeat (refine mw_step rfl ?_)
    refine mw_brF rfl (by decide) ?_
    repeat (refine mw_step rfl ?_)
    exact mw_r1 rfl trivial (Nat.le_refl _) (Nat.le_refl _) rfl rfl
  | succ r ih =>
    intro t ht
    have L := ih (t + 1) (by omega)
    have h1 := wt_le (way := wayB lk th) hW (30 * kd + t)
    rw [f1]
    repeat (refine mw_step rfl ?_)
    refine mw_brT rfl (n_lt (b := 30) (by omega) (by omega)) ?_
    repeat (refine mw_step rfl ?_)
    refine mw_call (c_S_weightFound hB hp hlk hth el et hN kd t hkd (by omega) (hW.1 kd)) rfl rfl (Nat.le_of_ble_eq_true rfl) (Nat.le_refl _) (Nat.le_refl _) ?_
    repeat (refine mw_step rfl ?_)
    by_cases h : 0 < wt B (nbW T (i_wood p) (i_place p)) (wayB lk th) (30 * kd + t)
    · rw [if_pos h]
      refine mw_brT rfl (by rw [lg_gt0]; exact (pk_lLT (a := 0) (by omega) (by omega)).mpr h) ?_
      repeat (refine mw_step rfl ?_)
      exact mw_r1 rfl trivial (Nat.le_refl _) (Nat.le_refl _) rfl rfl
    · rw [if_neg h]
      refine mw_brF rfl (by rw [lg_gt0]; exact fun z => h ((pk_lLT (a := 0) (by omega) (by omega)).mp z)) ?_
      repeat (refine mw_to 2 rfl rfl ?_)
      rw [nI_1]
      refine mw_pick [0, 1, 2, 3] rfl ?_
      exact L
theorem c_S_ft (hB : BL x B) (hW : WOK B (nbW T (i_wood p) (i_place p))) (hp : P[k]? = some p) (hlk : lk < 64) (hth : th < 64) (el : i_looked p = nI lk) (et : i_there p = nI th) (hN : KNs T p lk) (kd : Nat) (hkd : kd < 6) : MC M_S_firstTime 3 0 0 [.ref 18, .ref (2 * k + 67), .int (nI kd)] (heapN N sc x m (pcells 67 P)) (some (.int (f1 (wK B (nbW T (i_wood p) (i_place p)) (wayB lk th) kd) 30 0))) (heapN N sc x m (pcells 67 P)) := by
  refine mc_of k1_S_firstTime k2_S_firstTime (Nat.le_of_ble_eq_true rfl) ?_
  repeat (refine mw_to 2 rfl rfl ?_)
  refine mw_pick [0, 1, 2, 3] rfl ?_
  exact l_S_ft hB hW hp hlk hth el et hN kd hkd 30 0 (by omega)
theorem l_S_lt (hB : BL x B) (hW : WOK B (nbW T (i_wood p) (i_place p))) (hp : P[k]? = some p) (hlk : lk < 64) (hth : th < 64) (el : i_looked p = nI lk) (et : i_there p = nI th) (hN : KNs T p lk) (kd : Nat) (hkd : kd < 6) : ∀ t, t ≤ 30 → MW M_S_lastTime 3 0 0 (some (.int (l1 (wK B (nbW T (i_wood p) (i_place p)) (wayB lk th) kd) t))) (heapN N sc x m (pcells 67 P)) 0 0 3 [(0, .ref 18), (1, .ref (2 * k + 67)), (2, .int (nI kd)), (3, .int (nI t + (-1)))] [] (heapN N sc x m (pcells 67 P)) := by
  intro t
  induction t with
  | zero =>
    intro ht
    repeat (refine mw_step rfl ?_)
    refine mw_brT rfl (by decide) ?_
    repeat (refine mw_step rfl ?_)
    exact mw_r1 rfl trivial (Nat.le_refl _) (Nat.le_refl _) rfl rfl
  | succ t ih =>
    intro ht
    have L := ih (by omega)
    have h1 := wt_le (way := wayB lk th) hW (30 * kd + t)
    rw [l1, pk_m1]
    repeat (refine mw_step rfl ?_)
    refine mw_brF rfl (nI_pos (by omega)) ?_
    repeat (refine mw_step rfl ?_)
    refine mw_call (c_S_weightFound hB hp hlk hth el et hN kd t hkd (by omega) (hW.1 kd)) rfl rfl (Nat.le_of_ble_eq_true rfl) (Nat.le_refl _) (Nat.le_refl _) ?_
    repeat (refine mw_step rfl ?_)
    by_cases h : 0 < wt B (nbW T (i_wood p) (i_place p)) (wayB lk th) (30 * kd + t)
    · rw [if_pos h]
      refine mw_brT rfl (by rw [lg_gt0]; exact (pk_lLT (a := 0) (by omega) (by omega)).mpr h) ?_
      repeat (refine mw_step rfl ?_)
      exact mw_r1 rfl trivial (Nat.le_refl _) (Nat.le_refl _) rfl rfl
    · rw [if_neg h]
      refine mw_brF rfl (by rw [lg_gt0]; exact fun z => h ((pk_lLT (a := 0) (by omega) (by omega)).mp z)) ?_
      repeat (refine mw_to 3 rfl rfl ?_)
      refine mw_pick [0, 1, 2, 3] rfl ?_
      exact L
theorem c_S_lt (hB : BL x B) (hW : WOK B (nbW T (i_wood p) (i_place p))) (hp : P[k]? = some p) (hlk : lk < 64) (hth : th < 64) (el : i_looked p = nI lk) (et : i_there p = nI th) (hN : KNs T p lk) (kd : Nat) (hkd : kd < 6) : MC M_S_lastTime 3 0 0 [.ref 18, .ref (2 * k + 67), .int (nI kd)] (heapN N sc x m (pcells 67 P)) (some (.int (l1 (wK B (nbW T (i_wood p) (i_place p)) (wayB lk th) kd) 30))) (heapN N sc x m (pcells 67 P)) := by
  have L := l_S_lt (N := N) (sc := sc) (m := m) hB hW hp hlk hth el et hN kd hkd 30 (by omega)
  rw [show nI 30 + (-1) = nI 29 from pk_m1 29] at L
  refine mc_of k1_S_lastTime k2_S_lastTime (Nat.le_of_ble_eq_true rfl) ?_
  repeat (refine mw_to 3 rfl rfl ?_)
  refine mw_pick [0, 1, 2, 3] rfl ?_
  exact L
end TG
/-- what a call leaves: scratch rows, and what pieces have learned -/
def CR (T : Nat → Option Tx) (x x' : XS) (P P' : List PieceS) : Prop := (∃ stk s wh, x' = xC_whens_s (xsc x stk s) wh) ∧ P'.length = P.length ∧ ∀ (j : Nat) (p : PieceS), P[j]? = some p → ∃ q, P'[j]? = some q ∧ PSame p q ∧ KN T q
/-- what calls need of the class -/
def CI (T : Nat → Option Tx) (B : Nat → Nat) (x : XS) (P : List PieceS) : Prop := LOK x T ∧ BL x B ∧ (∀ k, B k ≤ 9) ∧ P.length ≤ 8 ∧ ∀ (j : Nat) (p : PieceS), P[j]? = some p → KN T p ∧ ∃ lk th, lk < 64 ∧ th < 64 ∧ i_looked p = nI lk ∧ i_there p = nI th
theorem PSame_refl (p : PieceS) : PSame p p := ⟨rfl, rfl, rfl, rfl⟩
theorem PSame_trans {p q r : PieceS} (h1 : PSame p q) (h2 : PSame q r) : PSame p r := ⟨h2.1.trans h1.1, h2.2.1.trans h1.2.1, h2.2.2.1.trans h1.2.2.1, h2.2.2.2.trans h1.2.2.2⟩
section CRS
variable {T : Nat → Option Tx} {B : Nat → Nat} {x x' x'' : XS} {P P' P'' : List PieceS}
theorem CR_refl (h : CI T B x P) : CR T x x P P := ⟨⟨xW_stack x, (xS_sums x, xS_ways x, xS_merged x, xS_prod x), xC_whens x, rfl⟩, rfl, fun j p hp => ⟨p, hp, PSame_refl p, (h.2.2.2.2 j p hp).1⟩⟩
theorem CR_trans (h1 : CR T x x' P P') (h2 : CR T x' x'' P' P'') : CR T x x'' P P'' := by
  obtain ⟨⟨k1, s1, w1, e1⟩, l1, p1⟩ := h1
  obtain ⟨⟨k2, s2, w2, e2⟩, l2, p2⟩ := h2
  refine ⟨⟨k2, s2, w2, by rw [e2, e1]⟩, l2.trans l1, fun j p hp => ?_⟩
  obtain ⟨q, hq, a1, a2⟩ := p1 j p hp
  obtain ⟨r, hr, b1, b2⟩ := p2 j q hq
  exact ⟨r, hr, PSame_trans a1 b1, b2⟩
theorem CI_of (h : CI T B x P) (hc : CR T x x' P P') : CI T B x' P' := by
  obtain ⟨⟨k1, s1, w1, e1⟩, l1, p1⟩ := hc
  obtain ⟨a1, a2, a3, a4, a5⟩ := h
  subst e1
  refine ⟨LOK_congr rfl rfl a1, a2, a3, by omega, fun j q hq => ?_⟩
  have hj : j < P.length := by
    have := (List.getElem?_eq_some_iff.mp hq).1
    omega
  obtain ⟨r, hr, b1, b2⟩ := p1 j P[j] (List.getElem?_eq_getElem hj)
  rw [hq] at hr
  cases hr
  obtain ⟨-, lk, th, c1, c2, c3, c4⟩ := a5 j P[j] (List.getElem?_eq_getElem hj)
  exact ⟨b2, lk, th, c1, c2, b1.2.2.1.trans c3, b1.2.2.2.trans c4⟩
theorem CR_set (h : CI T B x P) {k : Nat} {p q : PieceS} (hp : P[k]? = some p) (h1 : PSame p q) (h2 : KN T q) (stk : Nat → Int32) (s : xSS) : CR T x (xsc x stk s) P (P.set k q) := by
  have hk : k < P.length := (List.getElem?_eq_some_iff.mp hp).1
  refine ⟨⟨stk, s, xC_whens x, rfl⟩, List.length_set, fun j r hr => ?_⟩
  by_cases e : k = j
  · subst e
    rw [hp] at hr
    cases hr
    exact ⟨q, List.getElem?_set_self hk, h1, h2⟩
  · exact ⟨r, by rw [List.getElem?_set_ne e]; exact hr, PSame_refl r, (h.2.2.2.2 j r hr).1⟩
theorem CR_x (h : CI T B x P) (stk : Nat → Int32) (s : xSS) (wh : Nat → Int32) : CR T x (xC_whens_s (xsc x stk s) wh) P P := ⟨⟨stk, s, wh, rfl⟩, rfl, fun j p hp => ⟨p, hp, PSame_refl p, (h.2.2.2.2 j p hp).1⟩⟩
end CRS
