/-! ways: the class -/
section FA
variable {sc : Nat × (Nat → Int32)} {x : XS} {m : OS} {N : Nat} {tl : MH}
theorem l_J_fill_ways (f : Nat → Int64) : ∀ r t, t + r = 384 → MW M_J_fillA 0 0 0 none (heapN N sc (xS_ways_s x (smZ f 384)) m tl) 0 0 6 [(0, .ref 20), (1, .long 0), (3, .int (nI t)), (4, .int (nI 384))] [] (heapN N sc (xS_ways_s x (smZ f t)) m tl) := by
  intro r
  induction r with
  | zero =>
    intro t ht
    rw [show t = 384 by omega]
    repeat (refine mw_step rfl ?_)
    refine mw_brF rfl (by decide) ?_
    exact mw_r0 rfl (Nat.le_refl _) (Nat.le_refl _) rfl rfl
  | succ r ih =>
    intro t ht
    have L := ih (t + 1) (by omega)
    rw [← smZ_1 f t] at L
    repeat (refine mw_step rfl ?_)
    refine mw_brT rfl (n_lt (b := 384) (by omega) (by omega)) ?_
    repeat (refine mw_step rfl ?_)
    refine mw_lst rfl (rfl) (by omega) (by decide) ?_
    repeat (refine mw_to 6 rfl rfl ?_)
    rw [nI_1]
    refine mw_pick [0, 1, 3, 4] rfl ?_
    exact L
theorem c_J_fill_ways : MC M_J_fillA 0 0 0 [.ref 20, .long 0] (heapN N sc x m tl) none (heapN N sc (xS_ways_s x (smZ (xS_ways x) 384)) m tl) := by
  have L := l_J_fill_ways (N := N) (sc := sc) (x := x) (m := m) (tl := tl) (xS_ways x) 384 0 (by omega)
  rw [smZ_0] at L
  refine mc_of k1_J_fillA k2_J_fillA (Nat.le_of_ble_eq_true rfl) ?_
  repeat (refine mw_to 6 rfl rfl ?_)
  refine mw_pick [0, 1, 3, 4] rfl ?_
  exact L
theorem l_J_fill_merged (f : Nat → Int64) : ∀ r t, t + r = 384 → MW M_J_fillA 0 0 0 none (heapN N sc (xS_merged_s x (smZ f 384)) m tl) 0 0 6 [(0, .ref 21), (1, .long 0), (3, .int (nI t)), (4, .int (nI 384))] [] (heapN N sc (xS_merged_s x (smZ f t)) m tl) := by
  intro r
  induction r with
  | zero =>
    intro t ht
    rw [show t = 384 by omega]
    repeat (refine mw_step rfl ?_)
    refine mw_brF rfl (by decide) ?_
    exact mw_r0 rfl (Nat.le_refl _) (Nat.le_refl _) rfl rfl
  | succ r ih =>
    intro t ht
    have L := ih (t + 1) (by omega)
    rw [← smZ_1 f t] at L
    repeat (refine mw_step rfl ?_)
    refine mw_brT rfl (n_lt (b := 384) (by omega) (by omega)) ?_
    repeat (refine mw_step rfl ?_)
    refine mw_lst rfl (rfl) (by omega) (by decide) ?_
    repeat (refine mw_to 6 rfl rfl ?_)
    rw [nI_1]
    refine mw_pick [0, 1, 3, 4] rfl ?_
    exact L
theorem c_J_fill_merged : MC M_J_fillA 0 0 0 [.ref 21, .long 0] (heapN N sc x m tl) none (heapN N sc (xS_merged_s x (smZ (xS_merged x) 384)) m tl) := by
  have L := l_J_fill_merged (N := N) (sc := sc) (x := x) (m := m) (tl := tl) (xS_merged x) 384 0 (by omega)
  rw [smZ_0] at L
  refine mc_of k1_J_fillA k2_J_fillA (Nat.le_of_ble_eq_true rfl) ?_
  repeat (refine mw_to 6 rfl rfl ?_)
  refine mw_pick [0, 1, 3, 4] rfl ?_
  exact L
end FA
theorem prd_0 {h : Nat → Bool → Nat} {w : Nat} : ∀ t, prd h 0 w t = 0
  | 0 => rfl
  | t + 1 => by rw [prd, prd_0 t, Nat.zero_mul]
section SPL
variable {sc : Nat × (Nat → Int32)} {x : XS} {m : OS} {N : Nat} {tl : MH}
theorem l_S_split (h : Nat → Bool → Nat) (b : Nat) (t : Nat) (ht : t < 6) (fr : Bool) (num : Int32) (a : Nat) (ha : a ≤ 100) (hfr : fr = true → num = nI a) (h1 : h t true = q_fc fr true a) (h0 : h t false = q_fc fr false a) : ∀ r s g, s + r = 2 ^ t → (∀ q, q < s → g q = lN (prd h b q (t + 1)) ∧ g (2 ^ t + q) = lN (prd h b (2 ^ t + q) (t + 1))) → (∀ q, s ≤ q → q < 2 ^ t → g q = lN (prd h b q t)) → ∃ g' : Nat → Int64, (∀ q, q < 2 ^ (t + 1) → g' q = lN (prd h b q (t + 1))) ∧ MW M_S_splitProducts 0 0 0 none (heapN N sc (xS_prod_s x g') m tl) 0 0 8 [(0, .ref 18), (1, .int (nI t)), (2, .int (bI (fr = true))), (3, .int num), (4, .int (nI (2 ^ t))), (5, .int (nI s))] [] (heapN N sc (xS_prod_s x g) m tl) := by
  have h64 : 2 ^ t ≤ 32 := Nat.pow_le_pow_right (n := 2) (by omega) (show t ≤ 5 by omega)
  have hpos : 0 < 2 ^ t := Nat.pow_pos (by omega)
  intro r
  induction r with
  | zero =>
    intro s g hs g1 g2
    refine ⟨g, fun q hq => ?_, ?_⟩
    · rw [Nat.pow_succ, Nat.mul_two] at hq
      by_cases hq2 : q < 2 ^ t
      · exact (g1 q (by omega)).1
      · have := (g1 (q - 2 ^ t) (by omega)).2
        rw [show 2 ^ t + (q - 2 ^ t) = q by omega] at this
        exact this
    · rw [show s = 2 ^ t by omega]
      repeat (refine mw_step rfl ?_)
      refine mw_brF rfl (n_nlt (by omega) (by omega)) ?_
      exact mw_r0 rfl (Nat.le_refl _) (Nat.le_refl _) rfl rfl
  | succ r ih =>
    intro s g hs g1 g2
    have gs := g2 s (Nat.le_refl _) (by omega)
    have e1 : nI s + nI (2 ^ t) = nI (2 ^ t + s) := by rw [nI_add, Nat.add_comm]
    have hi := prd_hi (h := h) (b := b) (w := s) (t := t) (by omega)
    have lo := prd_lo (h := h) (b := b) (w := s) (t := t) (by omega)
    obtain ⟨g', k1, K⟩ := ih (s + 1) (vp_updL (vp_updL g (2 ^ t + s) (lN (prd h b (2 ^ t + s) (t + 1)))) s (lN (prd h b s (t + 1)))) (by omega) (by
      intro q hq
      constructor
      · by_cases e : q = s
        · rw [e, pk_uLs]
        · rw [pk_uLn e, pk_uLn (by omega)]
          exact (g1 q (by omega)).1
      · rw [pk_uLn (show 2 ^ t + q ≠ s by omega)]
        by_cases e : q = s
        · rw [e, pk_uLs]
        · rw [pk_uLn (by omega)]
          exact (g1 q (by omega)).2) (by
      intro q hq1 hq2
      rw [pk_uLn (show q ≠ s by omega), pk_uLn (by omega)]
      exact g2 q (by omega) hq2)
    refine ⟨g', k1, ?_⟩
    have hr : (vp_updL g (2 ^ t + s) (lN (prd h b (2 ^ t + s) (t + 1)))) s = lN (prd h b s t) := by rw [pk_uLn (show s ≠ 2 ^ t + s by omega)]; exact gs
    repeat (refine mw_step rfl ?_)
    refine mw_brT rfl (n_lt (by omega) (by omega)) ?_
    repeat (refine mw_step rfl ?_)
    refine mw_brT rfl (by rw [e1]; exact n_lt (b := 64) (by omega) (by omega)) ?_
    repeat (refine mw_step rfl ?_)
    cases fr with
    | true =>
      have en := hfr rfl
      subst en
      have ehi : lN (prd h b s t) * (nI a).toInt64 = lN (prd h b (2 ^ t + s) (t + 1)) := by rw [nI_l (by omega), lN_mul, hi, h1]; rfl
      have elo : lN (prd h b s t) * (nI 100 - nI a).toInt64 = lN (prd h b s (t + 1)) := by rw [pk_sub ha, nI_l (by omega), lN_mul, lo, h0]; rfl
      refine mw_brF rfl (bI_ne rfl) ?_
      repeat (refine mw_step rfl ?_)
      refine mw_lld rfl (rfl) (by omega) (by decide) ?_
      rw [show xS_prod (xS_prod_s x g) s = lN (prd h b s t) from gs]
      repeat (refine mw_step rfl ?_)
      rw [ehi]
      refine mw_lst rfl (e1) (by omega) (by decide) ?_
      repeat (refine mw_step rfl ?_)
      refine mw_lld rfl (rfl) (by omega) (by decide) ?_
      rw [show vp_updL (xS_prod (xS_prod_s x g)) (2 ^ t + s) (lN (prd h b (2 ^ t + s) (t + 1))) s = lN (prd h b s t) from hr]
      repeat (refine mw_step rfl ?_)
      refine mw_brF rfl (bI_ne rfl) ?_
      repeat (refine mw_step rfl ?_)
      rw [show lN (prd h b s t) * ((100 : Int32) - nI a).toInt64 = lN (prd h b s (t + 1)) from elo]
      refine mw_lst rfl (rfl) (by omega) (by decide) ?_
      repeat (refine mw_to 8 rfl rfl ?_)
      rw [nI_1]
      refine mw_pick [0, 1, 2, 3, 4, 5] rfl ?_
      exact K
    | false =>
      have ehi : (0 : Int64) = lN (prd h b (2 ^ t + s) (t + 1)) := by rw [hi, h1]; show (0 : Int64) = lN (prd h b s t * 0); rw [Nat.mul_zero]; rfl
      have elo : lN (prd h b s t) * 1 = lN (prd h b s (t + 1)) := by rw [show (1 : Int64) = lN 1 from rfl, lN_mul, lo, h0]; rfl
      refine mw_brT rfl (bI_f (by decide)) ?_
      repeat (refine mw_step rfl ?_)
      rw [ehi]
      refine mw_lst rfl (e1) (by omega) (by decide) ?_
      repeat (refine mw_step rfl ?_)
      refine mw_lld rfl (rfl) (by omega) (by decide) ?_
      rw [show vp_updL (xS_prod (xS_prod_s x g)) (2 ^ t + s) (lN (prd h b (2 ^ t + s) (t + 1))) s = lN (prd h b s t) from hr]
      repeat (refine mw_step rfl ?_)
      refine mw_brT rfl (bI_f (by decide)) ?_
      repeat (refine mw_step rfl ?_)
      rw [elo]
      refine mw_lst rfl (rfl) (by omega) (by decide) ?_
      repeat (refine mw_to 8 rfl rfl ?_)
      rw [nI_1]
      refine mw_pick [0, 1, 2, 3, 4, 5] rfl ?_
      exact K
theorem c_S_split (h : Nat → Bool → Nat) (b : Nat) (t : Nat) (ht : t < 6) (fr : Bool) (num : Int32) (a : Nat) (ha : a ≤ 100) (hfr : fr = true → num = nI a) (h1 : h t true = q_fc fr true a) (h0 : h t false = q_fc fr false a) (hg : ∀ q, q < 2 ^ t → xS_prod x q = lN (prd h b q t)) : ∃ g' : Nat → Int64, (∀ q, q < 2 ^ (t + 1) → g' q = lN (prd h b q (t + 1))) ∧ MC M_S_splitProducts 0 0 0 [.ref 18, .int (nI t), .int (bI (fr = true)), .int num] (heapN N sc x m tl) none (heapN N sc (xS_prod_s x g') m tl) := by
  obtain ⟨g', k1, K⟩ := l_S_split (N := N) (sc := sc) (x := x) (m := m) (tl := tl) h b t ht fr num a ha hfr h1 h0 (2 ^ t) 0 (xS_prod x) (by omega) (fun q hq => absurd hq (by omega)) (fun q _ hq => hg q hq)
  refine ⟨g', k1, ?_⟩
  refine mc_of k1_S_splitProducts k2_S_splitProducts (Nat.le_of_ble_eq_true rfl) ?_
  repeat (refine mw_to 8 rfl rfl ?_)
  rw [b_sh t ht]
  refine mw_pick [0, 1, 2, 3, 4, 5] rfl ?_
  exact K
/-- the products come to the ways -/
theorem l_S_addp (kd : Nat) (hkd : kd < 6) (W : Nat → Nat → Nat) (pd : Nat → Nat) (hp : ∀ s, s < 64 → xS_prod x s = lN (pd s)) : ∀ r t wg, t + r = 64 → (∀ k s, k < 6 → s < 64 → wg (k * 64 + s) = lN (W k s + if k = kd ∧ s < t then pd s else 0)) → ∃ wg' : Nat → Int64, (∀ k s, k < 6 → s < 64 → wg' (k * 64 + s) = lN (W k s + if k = kd then pd s else 0)) ∧ MW M_S_addProducts 0 0 0 (some (.long (lN (sN pd 64)))) (heapN N sc (xS_ways_s x wg') m tl) 0 0 5 [(0, .ref 18), (1, .int (nI kd)), (2, .long (lN (sN pd t))), (4, .int (nI t))] [] (heapN N sc (xS_ways_s x wg) m tl) := by
  intro r
  induction r with
  | zero =>
    intro t wg ht h
    refine ⟨wg, fun k s hk hs => ?_, ?_⟩
    · rw [h k s hk hs]
      by_cases e : k = kd
      · rw [if_pos ⟨e, by omega⟩, if_pos e]
      · rw [if_neg (fun y => e y.1), if_neg e]
    · rw [show t = 64 by omega]
      repeat (refine mw_step rfl ?_)
      refine mw_brF rfl (by decide) ?_
      repeat (refine mw_step rfl ?_)
      exact mw_r1 rfl trivial (Nat.le_refl _) (Nat.le_refl _) rfl rfl
  | succ r ih =>
    intro t wg ht h
    have e1 : nI kd * 64 + nI t = nI (kd * 64 + t) := by rw [show (64 : Int32) = nI 64 from rfl, pk_mul, nI_add]
    have ew := h kd t hkd (by omega)
    rw [if_neg (fun y => absurd y.2 (by omega)), Nat.add_zero] at ew
    obtain ⟨wg', k1, K⟩ := ih (t + 1) (vp_updL wg (kd * 64 + t) (lN (W kd t) + lN (pd t))) (by omega) (by
      intro k s hk hs
      by_cases e : k * 64 + s = kd * 64 + t
      · have e2 : k = kd := by omega
        have e3 : s = t := by omega
        rw [e, pk_uLs, if_pos ⟨e2, by omega⟩, e2, e3, lN_add]
      · rw [pk_uLn e, h k s hk hs]
        by_cases e2 : k = kd ∧ s < t
        · rw [if_pos e2, if_pos ⟨e2.1, by omega⟩]
        · rw [if_neg e2, if_neg (fun y => e2 ⟨y.1, by have := y.1; subst this; omega⟩)])
    refine ⟨wg', k1, ?_⟩
    rw [show sN pd (t + 1) = sN pd t + pd t from rfl, ← lN_add] at K
    repeat (refine mw_step rfl ?_)
    refine mw_brT rfl (n_lt (b := 64) (by omega) (by omega)) ?_
    repeat (refine mw_step rfl ?_)
    refine mw_lld rfl (e1) (by omega) (by decide) ?_
    rw [show xS_ways (xS_ways_s x wg) (kd * 64 + t) = lN (W kd t) from ew]
    repeat (refine mw_step rfl ?_)
    refine mw_lld rfl (rfl) (by omega) (by decide) ?_
    rw [show xS_prod (xS_ways_s x wg) t = lN (pd t) from hp t (by omega)]
    repeat (refine mw_step rfl ?_)
    refine mw_lst rfl (e1) (by omega) (by decide) ?_
    repeat (refine mw_step rfl ?_)
    refine mw_lld rfl (rfl) (by omega) (by decide) ?_
    rw [show xS_prod (xS_ways_s x wg) t = lN (pd t) from hp t (by omega)]
    repeat (refine mw_to 5 rfl rfl ?_)
    rw [nI_1]
    refine mw_pick [0, 1, 2, 4] rfl ?_
    exact K
theorem c_S_addp (kd : Nat) (hkd : kd < 6) (W : Nat → Nat → Nat) (pd : Nat → Nat) (hp : ∀ s, s < 64 → xS_prod x s = lN (pd s)) (hw : ∀ k s, k < 6 → s < 64 → xS_ways x (k * 64 + s) = lN (W k s)) : ∃ wg' : Nat → Int64, (∀ k s, k < 6 → s < 64 → wg' (k * 64 + s) = lN (W k s + if k = kd then pd s else 0)) ∧ MC M_S_addProducts 0 0 0 [.ref 18, .int (nI kd)] (heapN N sc x m tl) (some (.long (lN (sN pd 64)))) (heapN N sc (xS_ways_s x wg') m tl) := by
  obtain ⟨wg', k1, K⟩ := l_S_addp (N := N) (sc := sc) (x := x) (m := m) (tl := tl) kd hkd W pd hp 64 0 (xS_ways x) (by omega) (fun k s hk hs => by rw [hw k s hk hs, if_neg (fun y => absurd y.2 (by omega)), Nat.add_zero])
  refine ⟨wg', k1, ?_⟩
  refine mc_of k1_S_addProducts k2_S_addProducts (Nat.le_of_ble_eq_true rfl) ?_
  repeat (refine mw_to 5 rfl rfl ?_)
  refine mw_pick [0, 1, 2, 4] rfl ?_
  exact K
end SPL
section FW2
variable {sc : Nat × (Nat → Int32)} {x : XS} {m : OS} {P : List PieceS} {N : Nat} {B : Nat → Nat} {T : Nat → Option Tx} {k : Nat} {p : PieceS}
abbrev xWP (x : XS) (wg pr : Nat → Int64) : XS := xS_s x (xS_sums x, wg, xS_merged x, pr)
abbrev lF (k lk th free : Nat) (r : ML) : ML := (0, .ref 18) :: (1, .ref (2 * k + 67)) :: (2, .int (nI lk)) :: (3, .int (nI th)) :: (4, .int (nI free)) :: r
theorem l_S_fill1 (hp : P[k]? = some p) (lk th free : Nat) (hfr : free < 64) (hN : KNs T p (lk ||| free)) (kd y : Nat) (hkd : kd < 6) (hy : y < 30) (b : Nat) (a5 : Int64) (wg : Nat → Int64) : ∀ r t pr, t + r = 6 → (∀ q, q < 2 ^ t → pr q = lN (prd (hq free (fun j => nbW T (i_wood p) (i_place p) j (30 * kd + y))) b q t)) → ∃ pr' : Nat → Int64, (∀ q, q < 64 → pr' q = lN (prd (hq free (fun j => nbW T (i_wood p) (i_place p) j (30 * kd + y))) b q 6)) ∧ ∀ {v : Option Value} {hT : MH}, MW M_S_fillWays 4 0 0 v hT 0 0 112 (lF k lk th free [(5, .long a5), (7, .int (nI kd)), (8, .int (nI y))]) [] (heapN N sc (xWP x wg pr') m (pcells 67 P)) → MW M_S_fillWays 4 0 0 v hT 0 0 76 (lF k lk th free [(5, .long a5), (7, .int (nI kd)), (8, .int (nI y)), (9, .int (nI t))]) [] (heapN N sc (xWP x wg pr) m (pcells 67 P)) := by
  intro r
  induction r with
  | zero =>
    intro t pr ht h
    have e : t = 6 := by omega
    subst e
    refine ⟨pr, h, ?_⟩
    intro v hT K
    repeat (refine mw_step rfl ?_)
    refine mw_brF rfl (by decide) ?_
    refine mw_pick [0, 1, 2, 3, 4, 5, 7, 8] rfl ?_
    exact K
  | succ r ih =>
    intro t pr ht h
    have hi := (heapN_gp (N := N) (sc := sc) (x := xWP x wg pr) (m := m) hp).1
    have hn := (heapN_gp (N := N) (sc := sc) (x := xWP x wg pr) (m := m) hp).2
    obtain ⟨g, g1, C⟩ := c_S_split (N := N) (sc := sc) (x := xWP x wg pr) (m := m) (tl := pcells 67 P) (hq free (fun j => nbW T (i_wood p) (i_place p) j (30 * kd + y))) b t (by omega) (free.testBit t) (i_num p ((t * 6 + kd) * 30 + y)) (nbW T (i_wood p) (i_place p) t (30 * kd + y)) (nbW_le _ _ _ _ _) (fun hf => by
      rw [show (t * 6 + kd) * 30 + y = 180 * t + (30 * kd + y) by omega]
      exact hN t (30 * kd + y) (by omega) (by omega) (by rw [Nat.testBit_or, hf, Bool.or_true])) rfl rfl h
    obtain ⟨pr', k1, K⟩ := ih (t + 1) g (by omega) g1
    refine ⟨pr', k1, ?_⟩
    intro v hT K2
    have eb : bI ((nI free >>> (nI t &&& 31)) &&& 1 = 1) = bI (free.testBit t = true) := bI_congr (b_has free hfr t (by omega))
    repeat (refine mw_step rfl ?_)
    refine mw_brT rfl (n_lt (b := 6) (by omega) (by omega)) ?_
    repeat (refine mw_step rfl ?_)
    refine mw_call (c_hasBit _ _ _) rfl rfl (Nat.le_of_ble_eq_true rfl) (Nat.le_refl _) (Nat.le_refl _) ?_
    rw [eb]
    repeat (refine mw_step rfl ?_)
    refine mw_callP (c_I_numberAt hi (by omega) hn t kd y (by omega)) rfl rfl hi (by omega) rfl (Nat.le_of_ble_eq_true rfl) (Nat.le_refl _) (Nat.le_refl _) ?_
    refine mw_call (C) rfl rfl (Nat.le_of_ble_eq_true rfl) (Nat.le_refl _) (Nat.le_refl _) ?_
    repeat (refine mw_to 76 rfl rfl ?_)
    rw [nI_1]
    refine mw_pick [0, 1, 2, 3, 4, 5, 7, 8, 9] rfl ?_
    exact K K2
/-- ways, as far as they are filled: kinds below kd, and times below y of kd -/
def wyP (B : Nat → Nat) (nb : Nat → Nat → Nat) (way : Nat → Nat) (free kd y k s : Nat) : Nat := if k < kd then wyK B nb way free k s else if k = kd then sN (fun y => pk6 B nb way free (30 * kd + y) s) y else 0
def alP (B : Nat → Nat) (nb : Nat → Nat → Nat) (way : Nat → Nat) (free kd y : Nat) : Nat := sN (fun k => sN (fun y => sN (fun w => pk6 B nb way free (30 * k + y) w) 64) 30) kd + sN (fun y => sN (fun w => pk6 B nb way free (30 * kd + y) w) 64) y
theorem wyP_up {B : Nat → Nat} {nb : Nat → Nat → Nat} {way : Nat → Nat} {free kd k s : Nat} : wyP B nb way free kd 30 k s = wyP B nb way free (kd + 1) 0 k s := by
  unfold wyP
  by_cases h1 : k < kd
  · rw [if_pos h1, if_pos (by omega)]
  · rw [if_neg h1]
    by_cases h2 : k = kd
    · rw [if_pos h2, if_pos (by omega), h2]
      rfl
    · rw [if_neg h2, if_neg (by omega)]
      by_cases h3 : k = kd + 1
      · rw [if_pos h3]
        rfl
      · rw [if_neg h3]
theorem alP_up {B : Nat → Nat} {nb : Nat → Nat → Nat} {way : Nat → Nat} {free kd : Nat} : alP B nb way free kd 30 = alP B nb way free (kd + 1) 0 := rfl
theorem pk6_0 {B : Nat → Nat} {nb : Nat → Nat → Nat} {way : Nat → Nat} {free kd y w : Nat} (h0 : B kd = 0) (hy : y < 30) : pk6 B nb way free (30 * kd + y) w = 0 := by
  unfold pk6 wt
  rw [show (30 * kd + y) / 30 = kd by omega, h0, w_pr_0, prd_0]
theorem l_S_fill2 (hB : BL x B) (hW : WOK B (nbW T (i_wood p) (i_place p))) (hp : P[k]? = some p) (lk th free : Nat) (hlk : lk < 64) (hth : th < 64) (hfr : free < 64) (hN : KNs T p (lk ||| free)) (kd : Nat) (hkd : kd < 6) : ∀ r y wg pr, y + r = 30 → (∀ k s, k < 6 → s < 64 → wg (k * 64 + s) = lN (wyP B (nbW T (i_wood p) (i_place p)) (wayB lk th) free kd y k s)) → ∃ wg' pr' : Nat → Int64, (∀ k s, k < 6 → s < 64 → wg' (k * 64 + s) = lN (wyP B (nbW T (i_wood p) (i_place p)) (wayB lk th) free (kd + 1) 0 k s)) ∧ ∀ {v : Option Value} {hT : MH}, MW M_S_fillWays 4 0 0 v hT 0 0 129 (lF k lk th free [(5, .long (lN (alP B (nbW T (i_wood p) (i_place p)) (wayB lk th) free (kd + 1) 0))), (7, .int (nI kd))]) [] (heapN N sc (xWP x wg' pr') m (pcells 67 P)) → MW M_S_fillWays 4 0 0 v hT 0 0 36 (lF k lk th free [(5, .long (lN (alP B (nbW T (i_wood p) (i_place p)) (wayB lk th) free kd y))), (7, .int (nI kd)), (8, .int (nI y))]) [] (heapN N sc (xWP x wg pr) m (pcells 67 P)) := by
  have hNl : KNs T p lk := fun j kt hj hkt hb => hN j kt hj hkt (by rw [Nat.testBit_or, hb, Bool.true_or])
  intro r
  induction r with
  | zero =>
    intro y wg pr hy h
    have e : y = 30 := by omega
    subst e
    refine ⟨wg, pr, fun k s hk hs => by rw [h k s hk hs, wyP_up], ?_⟩
    intro v hT K
    rw [alP_up]
    repeat (refine mw_step rfl ?_)
    refine mw_brF rfl (by decide) ?_
    refine mw_pick [0, 1, 2, 3, 4, 5, 7] rfl ?_
    exact K
  | succ r ih =>
    intro y wg pr hy h
    by_cases h0 : B kd = 0
    · have e1 : ∀ k s, wyP B (nbW T (i_wood p) (i_place p)) (wayB lk th) free kd y k s = wyP B (nbW T (i_wood p) (i_place p)) (wayB lk th) free (kd + 1) 0 k s := by
        intro k s
        rw [← wyP_up]
        unfold wyP
        by_cases h1 : k < kd
        · rw [if_pos h1, if_pos h1]
        · rw [if_neg h1, if_neg h1]
          by_cases h2 : k = kd
          · rw [if_pos h2, if_pos h2, sN_0 (fun z hz => pk6_0 h0 (by omega)), sN_0 (fun z hz => pk6_0 h0 hz)]
          · rw [if_neg h2, if_neg h2]
      have e2 : alP B (nbW T (i_wood p) (i_place p)) (wayB lk th) free kd y = alP B (nbW T (i_wood p) (i_place p)) (wayB lk th) free (kd + 1) 0 := by
        rw [← alP_up]
        unfold alP
        rw [sN_0 (n := y) (fun z hz => sN_0 (fun w _ => pk6_0 h0 (by omega))), sN_0 (n := 30) (f := fun y => sN (fun w => pk6 B (nbW T (i_wood p) (i_place p)) (wayB lk th) free (30 * kd + y) w) 64) (fun z hz => sN_0 (fun w _ => pk6_0 h0 hz))]
      refine ⟨wg, pr, fun k s hk hs => by rw [h k s hk hs, e1], ?_⟩
      intro v hT K
      rw [e2]
      repeat (refine mw_step rfl ?_)
      refine mw_brT rfl (n_lt (b := 30) (by omega) (by omega)) ?_
      repeat (refine mw_step rfl ?_)
      refine mw_call (c_T_bel (x := xWP x wg pr) hB kd hkd) rfl rfl (Nat.le_of_ble_eq_true rfl) (Nat.le_refl _) (Nat.le_refl _) ?_
      rw [h0]
      refine mw_brT rfl (rfl) ?_
      refine mw_pick [0, 1, 2, 3, 4, 5, 7] rfl ?_
      exact K
    · have h9 := hW.1 kd
      have ew : ∀ q, prd (hq free (fun j => nbW T (i_wood p) (i_place p) j (30 * kd + y))) (wt B (nbW T (i_wood p) (i_place p)) (wayB lk th) (30 * kd + y)) q 6 = pk6 B (nbW T (i_wood p) (i_place p)) (wayB lk th) free (30 * kd + y) q := fun q => rfl
      obtain ⟨pr1, p1, K1⟩ := l_S_fill1 (N := N) (sc := sc) (x := x) (m := m) hp lk th free hfr hN kd y hkd (by omega) (wt B (nbW T (i_wood p) (i_place p)) (wayB lk th) (30 * kd + y)) (lN (alP B (nbW T (i_wood p) (i_place p)) (wayB lk th) free kd y)) wg 6 0 (vp_updL pr 0 (lN (wt B (nbW T (i_wood p) (i_place p)) (wayB lk th) (30 * kd + y)))) (by omega) (by
        intro q hq
        have e : q = 0 := by
          have : (2 : Nat) ^ 0 = 1 := rfl
          omega
        rw [e, pk_uLs]
        rfl)
      obtain ⟨wg1, w1, C⟩ := c_S_addp (N := N) (sc := sc) (x := xWP x wg pr1) (m := m) (tl := pcells 67 P) kd hkd (wyP B (nbW T (i_wood p) (i_place p)) (wayB lk th) free kd y) (fun s => pk6 B (nbW T (i_wood p) (i_place p)) (wayB lk th) free (30 * kd + y) s) p1 h
      obtain ⟨wg2, pr2, w2, K2⟩ := ih (y + 1) wg1 pr1 (by omega) (by
        intro k s hk hs
        rw [w1 k s hk hs]
        congr 1
        unfold wyP
        by_cases h1 : k < kd
        · rw [if_pos h1, if_pos h1, if_neg (by omega)]
          rfl
        · rw [if_neg h1, if_neg h1]
          by_cases h2 : k = kd
          · rw [if_pos h2, if_pos h2, if_pos h2]
            rfl
          · rw [if_neg h2, if_neg h2, if_neg h2])
      refine ⟨wg2, pr2, w2, ?_⟩
      intro v hT K
      have KK := K2 K
      rw [show alP B (nbW T (i_wood p) (i_place p)) (wayB lk th) free kd (y + 1) = alP B (nbW T (i_wood p) (i_place p)) (wayB lk th) free kd y + sN (fun w => pk6 B (nbW T (i_wood p) (i_place p)) (wayB lk th) free (30 * kd + y) w) 64 from (Nat.add_assoc _ _ _).symm, ← lN_add] at KK
      repeat (refine mw_step rfl ?_)
      refine mw_brT rfl (n_lt (b := 30) (by omega) (by omega)) ?_
      repeat (refine mw_step rfl ?_)
      refine mw_call (c_T_bel (x := xWP x wg pr) hB kd hkd) rfl rfl (Nat.le_of_ble_eq_true rfl) (Nat.le_refl _) (Nat.le_refl _) ?_
      refine mw_brF rfl (nI_ne0 (by omega) (by omega)) ?_
      repeat (refine mw_step rfl ?_)
      refine mw_call (c_S_weight (x := xWP x wg pr) hB hp lk th hlk hth hNl kd y hkd (by omega) h9) rfl rfl (Nat.le_of_ble_eq_true rfl) (Nat.le_refl _) (Nat.le_refl _) ?_
      refine mw_lst rfl (show (0 : Int32) = nI 0 from rfl) (by omega) (by decide) ?_
      repeat (refine mw_to 76 rfl rfl ?_)
      refine mw_pick [0, 1, 2, 3, 4, 5, 7, 8, 9] rfl ?_
      refine K1 ?_
      repeat (refine mw_step rfl ?_)
      refine mw_call (C) rfl rfl (Nat.le_of_ble_eq_true rfl) (Nat.le_refl _) (Nat.le_refl _) ?_
      repeat (refine mw_to 36 rfl rfl ?_)
      rw [nI_1]
      refine mw_pick [0, 1, 2, 3, 4, 5, 7, 8] rfl ?_
      exact KK
theorem l_S_fill3 (hB : BL x B) (hW : WOK B (nbW T (i_wood p) (i_place p))) (hp : P[k]? = some p) (lk th free : Nat) (hlk : lk < 64) (hth : th < 64) (hfr : free < 64) (hN : KNs T p (lk ||| free)) : ∀ r kd wg pr, kd + r = 6 → (∀ k s, k < 6 → s < 64 → wg (k * 64 + s) = lN (wyP B (nbW T (i_wood p) (i_place p)) (wayB lk th) free kd 0 k s)) → ∃ wg' pr' : Nat → Int64, (∀ k s, k < 6 → s < 64 → wg' (k * 64 + s) = lN (wyK B (nbW T (i_wood p) (i_place p)) (wayB lk th) free k s)) ∧ MW M_S_fillWays 4 0 0 (some (.long (lN (alC B (nbW T (i_wood p) (i_place p)) (wayB lk th) free)))) (heapN N sc (xWP x wg' pr') m (pcells 67 P)) 0 0 26 (lF k lk th free [(5, .long (lN (alP B (nbW T (i_wood p) (i_place p)) (wayB lk th) free kd 0))), (7, .int (nI kd))]) [] (heapN N sc (xWP x wg pr) m (pcells 67 P)) := by
  intro r
  induction r with
  | zero =>
    intro kd wg pr hkd h
    have e : kd = 6 := by omega
    subst e
    refine ⟨wg, pr, fun k s hk hs => by rw [h k s hk hs, wyP, if_pos hk], ?_⟩
    repeat (refine mw_step rfl ?_)
    refine mw_brF rfl (by decide) ?_
    repeat (refine mw_step rfl ?_)
    exact mw_r1 rfl trivial (Nat.le_refl _) (Nat.le_refl _) rfl rfl
  | succ r ih =>
    intro kd wg pr hkd h
    obtain ⟨wg1, pr1, w1, K1⟩ := l_S_fill2 (N := N) (sc := sc) (x := x) (m := m) hB hW hp lk th free hlk hth hfr hN kd (by omega) 30 0 wg pr (by omega) h
    obtain ⟨wg2, pr2, w2, K2⟩ := ih (kd + 1) wg1 pr1 (by omega) w1
    refine ⟨wg2, pr2, w2, ?_⟩
    repeat (refine mw_step rfl ?_)
    refine mw_brT rfl (n_lt (b := 6) (by omega) (by omega)) ?_
    repeat (refine mw_to 36 rfl rfl ?_)
    refine mw_pick [0, 1, 2, 3, 4, 5, 7, 8] rfl ?_
    refine K1 ?_
    repeat (refine mw_to 26 rfl rfl ?_)
    rw [nI_1]
    refine mw_pick [0, 1, 2, 3, 4, 5, 7] rfl ?_
    exact K2
/-- the class's ways are filled -/
def WYS (x : XS) (B : Nat → Nat) (nb : Nat → Nat → Nat) (way : Nat → Nat) (free : Nat) : Prop := ∀ k s, k < 6 → s < 64 → xS_ways x (k * 64 + s) = lN (wyK B nb way free k s)
theorem c_S_fillWays (hI : CI T B x P) (hp : P[k]? = some p) (lk th free : Nat) (hlk : lk < 64) (hth : th < 64) (hfr : free < 64) : ∃ x' P' q, CR T x x' P P' ∧ P'[k]? = some q ∧ PSame p q ∧ KNs T q (lk ||| free) ∧ WYS x' B (nbP T p) (wayB lk th) free ∧ MC M_S_fillWays 4 0 0 [.ref 18, .ref (2 * k + 67), .int (nI lk), .int (nI th), .int (nI free)] (heap sc x m P) (some (.long (lN (alC B (nbP T p) (wayB lk th) free)))) (heap sc x' m P') := by
  have hk : k < P.length := (List.getElem?_eq_some_iff.mp hp).1
  have hpi := (heapN_gp (N := P.length) (sc := sc) (x := x) (m := m) hp).1
  obtain ⟨stk, q, s1, s2, s3, C⟩ := c_I_learn (N := P.length) (sc := sc) (m := m) hI.1 hp (hI.2.2.2.2 k p hp).1 (lk ||| free) (b_or_lt hlk hfr)
  have F := c_J_fill_ways (N := P.length) (sc := sc) (m := m) (x := xW_stack_s x stk) (tl := pcells 67 (P.set k q))
  obtain ⟨wg, pr, w1, K⟩ := l_S_fill3 (N := P.length) (sc := sc) (x := xW_stack_s x stk) (m := m) (B := B) (T := T) (P := P.set k q) (k := k) (p := q) hI.2.1 (WOK_of hI.2.2.1 _ _) (set_get hk q) lk th free hlk hth hfr s3 6 0 (smZ (xS_ways x) 384) (xS_prod x) (by omega) (by
    intro k s hk hs
    rw [wyP, if_neg (by omega)]
    show (if k * 64 + s < 384 then (0 : Int64) else _) = _
    rw [if_pos (by omega)]
    by_cases e : k = 0
    · rw [if_pos e]
      rfl
    · rw [if_neg e]
      rfl)
  rw [s1.1, s1.2.1] at K w1
  refine ⟨xsc x stk (xS_sums x, wg, xS_merged x, pr), P.set k q, q, CR_set hI hp s1 s2 _ _, set_get hk q, s1, s3, w1, ?_⟩
  unfold heap
  rw [List.length_set]
  refine mc_of k1_S_fillWays k2_S_fillWays (Nat.le_of_ble_eq_true rfl) ?_
  repeat (refine mw_step rfl ?_)
  rw [b_or lk hlk free hfr]
  refine mw_callP C rfl rfl hpi (by omega) rfl (Nat.le_of_ble_eq_true rfl) (Nat.le_refl _) (Nat.le_refl _) ?_
  repeat (refine mw_step rfl ?_)
  refine mw_call (F) rfl rfl (Nat.le_of_ble_eq_true rfl) (Nat.le_refl _) (Nat.le_refl _) ?_
  repeat (refine mw_to 26 rfl rfl ?_)
  refine mw_pick [0, 1, 2, 3, 4, 5, 7] rfl ?_
  exact K
end FW2
