/-! cheapest, drawn: the class -/
abbrev chC (B : Nat → Nat) (nb : Nat → Nat → Nat) (b : Nat) : Nat → Prop := fun s => b ≤ sp_pct B nb (wayB 63 s) 0
def chL (z : Int32 × Nat) : Int32 := if z.1 = -2 then -2 else nI z.2
def sp_cheap (B Co : Nat → Nat) (nb : Nat → Nat → Nat) (b : Nat) (what : Int32) : Int32 := if what = 0 then (sl (chC B nb b) (sOv Co) 64).1 else chL (sl (chC B nb b) (sOv Co) 64)
/-- draws -/
def dzS (z : Int32) : Int32 := z * 1103515245 + 12345
def dzT (z : Int32) (a : Nat) : Prop := us z 8 - us z 8 / 100 * 100 < nI a
noncomputable def drS (nbk : Nat → Nat) (z0 : Int32) : Nat → Int32 × Nat
  | 0 => (z0, 0)
  | t + 1 => (dzS (drS nbk z0 t).1, @ite Nat (dzT (dzS (drS nbk z0 t).1) (nbk t)) (Classical.propDecidable _) ((drS nbk z0 t).2 ||| 2 ^ t) (drS nbk z0 t).2)
theorem drS_lt (nbk : Nat → Nat) (z0 : Int32) : ∀ t, (drS nbk z0 t).2 < 2 ^ t
  | 0 => by show 0 < 1; omega
  | t + 1 => by
    have ih := drS_lt nbk z0 t
    have h2 : 2 ^ t < 2 ^ (t + 1) := Nat.pow_lt_pow_right (a := 2) (by omega) (by omega)
    show (@ite Nat (dzT (dzS (drS nbk z0 t).1) (nbk t)) (Classical.propDecidable _) ((drS nbk z0 t).2 ||| 2 ^ t) (drS nbk z0 t).2) < _
    split
    · exact Nat.or_lt_two_pow (by omega) h2
    · omega
def dHit (B : Nat → Nat) (nb : Nat → Nat → Nat) (kd set : Nat) : Prop := ¬ al B nb (wayB 63 set) = 0 ∧ am (ks B nb (wayB 63 set)) 5 = kd
noncomputable def drH (B : Nat → Nat) (nb : Nat → Nat → Nat) (kd y : Nat) (z0 : Int32) : Nat → Int32 × Nat
  | 0 => (z0, 0)
  | t + 1 => ((drS (fun j => nb j (30 * kd + y)) (drH B nb kd y z0 t).1 6).1, (drH B nb kd y z0 t).2 + @ite Nat (dHit B nb kd (drS (fun j => nb j (30 * kd + y)) (drH B nb kd y z0 t).1 6).2) (Classical.propDecidable _) 1 0)
theorem ml_hit {B : Nat → Nat} {nb : Nat → Nat → Nat} {kd set : Nat} (hkd : kd < 6) : (gB (ks B nb (wayB 63 set)) 6).1 = nI kd ↔ dHit B nb kd set := by
  rw [gB_al]
  have hle := am_le (ks B nb (wayB 63 set)) 5
  by_cases h : al B nb (wayB 63 set) = 0
  · rw [if_pos h]
    exact ⟨fun e => absurd e.symm (n_neq (by omega) (by decide)), fun e => absurd h e.1⟩
  · rw [if_neg h]
    exact ⟨fun e => ⟨h, (nI_eq (by omega) (by omega)).mp e⟩, fun e => by rw [e.2]⟩
section CH
variable {sc : Nat × (Nat → Int32)} {x : XS} {m : OS} {P : List PieceS} {N : Nat} {tl : MH} {B Co : Nat → Nat} {nb : Nat → Nat → Nat} {T : Nat → Option Tx} {k : Nat} {p : PieceS}
theorem chL_2 {z : Int32 × Nat} (h : z.1 = -2) : chL z = -2 := if_pos h
theorem chL_n {z : Int32 × Nat} (h : ¬ z.1 = -2) : chL z = nI z.2 := if_neg h
theorem l_C_cheap (hW : WOK B nb) (hC : ∀ k, Co k ≤ 99) (b : Nat) (hb : b ≤ 100) (what : Int32) : ∀ r t x, WYS x B nb (wayB 0 0) 63 → CLx x Co → t + r = 64 → ∃ sm : Nat → Int64, ∀ {v : Option Value} {hT : MH}, MW M_C_cheapest 5 0 0 v hT 0 0 126 [(3, .int what), (5, .int (sl (chC B nb b) (sOv Co) 64).1), (6, .int (chL (sl (chC B nb b) (sOv Co) 64)))] [] (heapN N sc (xS_sums_s x sm) m tl) → MW M_C_cheapest 5 0 0 v hT 0 0 58 [(0, .ref 5), (2, .int (nI b)), (3, .int what), (5, .int (sl (chC B nb b) (sOv Co) t).1), (6, .int (chL (sl (chC B nb b) (sOv Co) t))), (7, .int (nI t))] [] (heapN N sc x m tl) := by
  intro r
  induction r with
  | zero =>
    intro t x hY hCx ht
    refine ⟨xS_sums x, ?_⟩
    intro v hT K
    rw [show t = 64 by omega]
    repeat (refine mw_step rfl ?_)
    refine mw_brF rfl (by decide) ?_
    refine mw_pick [3, 5, 6] rfl ?_
    exact K
  | succ r ih =>
    intro t x hY hCx ht
    have S := c_T_sumOver (N := N) (sc := sc) (x := x) (m := m) (tl := tl) 3 (by omega) Co hCx t (by omega)
    have bm := sOv_le hC t
    have bl := sl_le (chC B nb b) (sOv Co) (b := 594) (fun j => sOv_le hC j) t (by omega)
    have E : ∀ {v : Option Value} {hT : MH}, MW M_C_cheapest 5 0 0 v hT 0 0 77 [(0, .ref 5), (2, .int (nI b)), (3, .int what), (5, .int (sl (chC B nb b) (sOv Co) t).1), (6, .int (chL (sl (chC B nb b) (sOv Co) t))), (7, .int (nI t)), (8, .int (nI (sOv Co t)))] [] (heapN N sc x m tl) → MW M_C_cheapest 5 0 0 v hT 0 0 58 [(0, .ref 5), (2, .int (nI b)), (3, .int what), (5, .int (sl (chC B nb b) (sOv Co) t).1), (6, .int (chL (sl (chC B nb b) (sOv Co) t))), (7, .int (nI t))] [] (heapN N sc x m tl) := by
      intro v hT K
      repeat (refine mw_step rfl ?_)
      refine mw_brT rfl (n_lt (b := 64) (by omega) (by omega)) ?_
      repeat (refine mw_step rfl ?_)
      refine mw_call (S) rfl rfl (Nat.le_of_ble_eq_true rfl) (Nat.le_refl _) (Nat.le_refl _) ?_
      repeat (refine mw_to 77 rfl rfl ?_)
      refine mw_pick [0, 2, 3, 5, 6, 7, 8] rfl ?_
      exact K
    by_cases hc : (sl (chC B nb b) (sOv Co) t).1 = -2 ∨ sOv Co t < (sl (chC B nb b) (sOv Co) t).2
    · obtain ⟨sm1, s1, C⟩ := c_S_take63 (N := N) (sc := sc) (m := m) (tl := tl) hW.2 hY t (by omega)
      have hal := al_le (way := wayB 63 t) hW
      have D := c_S_percentOf (N := N) (sc := sc) (m := m) (tl := tl) (x := xS_sums_s x sm1) (f := ks B nb (wayB 63 t)) s1 (al B nb (wayB 63 t)) 0 (by omega) (by omega) (ks_al 0 (by omega))
      have hpc := sp_pct_le (B := B) (nb := nb) (way := wayB 63 t) (kd := 0) (by omega)
      obtain ⟨sm, K⟩ := ih (t + 1) (xS_sums_s x sm1) hY hCx (by omega)
      refine ⟨sm, ?_⟩
      intro v hT K2
      have KK := K K2
      refine E ?_
      have F : MW M_C_cheapest 5 0 0 v hT 0 0 91 [(0, .ref 5), (2, .int (nI b)), (3, .int what), (5, .int (sl (chC B nb b) (sOv Co) t).1), (6, .int (chL (sl (chC B nb b) (sOv Co) t))), (7, .int (nI t)), (8, .int (nI (sOv Co t)))] [] (heapN N sc x m tl) := by
        rw [sl_s (chC B nb b) (sOv Co) t] at KK
        repeat (refine mw_step rfl ?_)
        refine mw_call (C) rfl rfl (Nat.le_of_ble_eq_true rfl) (Nat.le_refl _) (Nat.le_refl _) ?_
        refine mw_call (D) rfl rfl (Nat.le_of_ble_eq_true rfl) (Nat.le_refl _) (Nat.le_refl _) ?_
        repeat (refine mw_step rfl ?_)
        by_cases hp : b ≤ sp_pct B nb (wayB 63 t) 0
        · rw [if_pos (show chC B nb b t from hp), if_pos hc, chL_n (z := (nI t, sOv Co t)) (n_neq (by omega) (by decide))] at KK
          refine mw_brF rfl (n_nlt (a := sp_pct B nb (wayB 63 t) 0) hp (by omega)) ?_
          repeat (refine mw_to 58 rfl rfl ?_)
          rw [nI_1]
          refine mw_pick [0, 2, 3, 5, 6, 7] rfl ?_
          exact KK
        · rw [if_neg (show ¬ chC B nb b t from hp)] at KK
          refine mw_brT rfl (n_lt (a := sp_pct B nb (wayB 63 t) 0) (by omega) (by omega)) ?_
          repeat (refine mw_to 58 rfl rfl ?_)
          rw [nI_1]
          refine mw_pick [0, 2, 3, 5, 6, 7] rfl ?_
          exact KK
      repeat (refine mw_step rfl ?_)
      by_cases hn : (sl (chC B nb b) (sOv Co) t).1 = -2
      · refine mw_brT rfl (hn) ?_
        exact F
      · refine mw_brF rfl (hn) ?_
        repeat (refine mw_step rfl ?_)
        rw [chL_n hn] at F ⊢
        refine mw_brT rfl (n_lt (hc.resolve_left hn) (by omega)) ?_
        exact F
    · obtain ⟨sm, K⟩ := ih (t + 1) x hY hCx (by omega)
      refine ⟨sm, ?_⟩
      intro v hT K2
      have KK := K K2
      refine E ?_
      have hn : ¬ (sl (chC B nb b) (sOv Co) t).1 = -2 := fun z => hc (Or.inl z)
      have es : sl (chC B nb b) (sOv Co) (t + 1) = sl (chC B nb b) (sOv Co) t := by
        rw [sl_s]
        split
        · first | rfl | rw [if_neg hc]
        · rfl
      rw [es] at KK
      repeat (refine mw_step rfl ?_)
      refine mw_brF rfl (hn) ?_
      repeat (refine mw_step rfl ?_)
      rw [chL_n hn] at KK ⊢
      refine mw_brF rfl (n_nlt (a := sOv Co t) (by have : ¬ sOv Co t < (sl (chC B nb b) (sOv Co) t).2 := fun z => hc (Or.inr z); omega) (by omega)) ?_
      repeat (refine mw_to 58 rfl rfl ?_)
      rw [nI_1]
      refine mw_pick [0, 2, 3, 5, 6, 7] rfl ?_
      exact KK
theorem c_C_cheap_bad (h8 : P.length ≤ 8) (k b what : Int32) (h : ¬ ((∃ j, j < P.length ∧ k = nI j) ∧ (0 ≤ b ∧ b ≤ nI 100) ∧ (0 ≤ what ∧ what ≤ nI 1))) : MC M_C_cheapest 5 0 0 [.ref 5, .int k, .int b, .int what] (heap sc x m P) (some (.int (-1))) (heap sc x m P) := by
  refine mc_of k1_C_cheapest k2_C_cheapest (Nat.le_of_ble_eq_true rfl) ?_
  unfold heap
  repeat (refine mw_step rfl ?_)
  by_cases hk : ∃ j, j < P.length ∧ k = nI j
  · have hk' := hk
    obtain ⟨k, hk, rfl⟩ := hk
    refine mw_call (c_pieceAt k h8 hk) rfl rfl (Nat.le_of_ble_eq_true rfl) (Nat.le_refl _) (Nat.le_refl _) ?_
    repeat (refine mw_step rfl ?_)
    refine mw_call (c_within _ _ _ _) rfl rfl (Nat.le_of_ble_eq_true rfl) (Nat.le_refl _) (Nat.le_refl _) ?_
    refine mw_br rfl (fun h1 => ?_) (fun h1 => ?_)
    · repeat (refine mw_step rfl ?_)
      exact mw_r1 rfl trivial (Nat.le_refl _) (Nat.le_refl _) rfl rfl
    · repeat (refine mw_step rfl ?_)
      refine mw_call (c_within _ _ _ _) rfl rfl (Nat.le_of_ble_eq_true rfl) (Nat.le_refl _) (Nat.le_refl _) ?_
      refine mw_br rfl (fun h2 => ?_) (fun h2 => ?_)
      · repeat (refine mw_step rfl ?_)
        exact mw_r1 rfl trivial (Nat.le_refl _) (Nat.le_refl _) rfl rfl
      · exact absurd ⟨hk', bI_of h1, bI_of h2⟩ h
  · refine mw_call (c_pieceAt_bad _ h8 hk) rfl rfl (Nat.le_of_ble_eq_true rfl) (Nat.le_refl _) (Nat.le_refl _) ?_
    repeat (refine mw_step rfl ?_)
    exact mw_r1 rfl trivial (Nat.le_refl _) (Nat.le_refl _) rfl rfl
theorem CLx_of {x' : XS} {P' : List PieceS} (h : CLx x Co) (h1 : CR T x x' P P') : CLx x' Co := by
  obtain ⟨⟨a1, a2, a3, rfl⟩, -⟩ := h1
  exact h
theorem c_C_cheap (hI : CI T B x P) (hCx : CLx x Co) (hC : ∀ k, Co k ≤ 99) (hp : P[k]? = some p) (b : Nat) (hb : b ≤ 100) (what : Int32) (hw : 0 ≤ what ∧ what ≤ nI 1) : ∃ x' P', CR T x x' P P' ∧ MC M_C_cheapest 5 0 0 [.ref 5, .int (nI k), .int (nI b), .int what] (heap sc x m P) (some (.int (sp_cheap B Co (nbP T p) b what))) (heap sc x' m P') := by
  have hk : k < P.length := (List.getElem?_eq_some_iff.mp hp).1
  have hW : WOK B (nbP T p) := WOK_of hI.2.2.1 _ _
  obtain ⟨x1, P1, q, h1, h2, h3, h4, h5, C⟩ := c_S_fillWays (sc := sc) (m := m) hI hp 0 0 63 (by omega) (by omega) (by omega)
  obtain ⟨sm, K⟩ := l_C_cheap (N := P1.length) (sc := sc) (m := m) (tl := pcells 67 P1) hW hC b hb what 64 0 x1 h5 (CLx_of hCx h1) (by omega)
  refine ⟨_, P1, CR_trans h1 (CR_sm (CI_of hI h1) sm), ?_⟩
  refine mc_of k1_C_cheapest k2_C_cheapest (Nat.le_of_ble_eq_true rfl) ?_
  unfold heap at C ⊢
  repeat (refine mw_step rfl ?_)
  refine mw_call (c_pieceAt k hI.2.2.2.1 hk) rfl rfl (Nat.le_of_ble_eq_true rfl) (Nat.le_refl _) (Nat.le_refl _) ?_
  repeat (refine mw_step rfl ?_)
  refine mw_call (c_within _ _ _ _) rfl rfl (Nat.le_of_ble_eq_true rfl) (Nat.le_refl _) (Nat.le_refl _) ?_
  refine mw_brF rfl (bI_ne (rng_in hb (by decide))) ?_
  repeat (refine mw_step rfl ?_)
  refine mw_call (c_within _ _ _ _) rfl rfl (Nat.le_of_ble_eq_true rfl) (Nat.le_refl _) (Nat.le_refl _) ?_
  refine mw_brF rfl (bI_ne hw) ?_
  repeat (refine mw_step rfl ?_)
  refine mw_call (C) rfl rfl (Nat.le_of_ble_eq_true rfl) (Nat.le_refl _) (Nat.le_refl _) ?_
  repeat (refine mw_to 58 rfl rfl ?_)
  refine mw_pick [0, 2, 3, 5, 6, 7] rfl ?_
  refine K ?_
  rcases (n_01 what).mp hw with rfl | rfl
  · repeat (refine mw_step rfl ?_)
    refine mw_brT rfl (rfl) ?_
    repeat (refine mw_step rfl ?_)
    exact mw_r1 rfl trivial (Nat.le_refl _) (Nat.le_refl _) rfl rfl
  · repeat (refine mw_step rfl ?_)
    refine mw_brF rfl (by decide) ?_
    repeat (refine mw_step rfl ?_)
    exact mw_r1 rfl trivial (Nat.le_refl _) (Nat.le_refl _) rfl rfl
theorem l_C_draw1 (hp : P[k]? = some p) (hN : KNs T p 63) (kd y : Nat) (hkd : kd < 6) (hy : y < 30) (z0 : Int32) (n hits turn : Nat) {v : Option Value} {hT : MH} (K : MW M_C_drawn 5 0 0 v hT 0 0 150 [(0, .ref 5), (2, .int (nI n)), (4, .ref (2 * k + 67)), (5, .int (nI kd)), (6, .int (nI y)), (7, .int (drS (fun j => nbW T (i_wood p) (i_place p) j (30 * kd + y)) z0 6).1), (8, .int (nI hits)), (9, .int (nI turn)), (10, .int (nI (drS (fun j => nbW T (i_wood p) (i_place p) j (30 * kd + y)) z0 6).2))] [] (heapN N sc x m (pcells 67 P))) : ∀ r t, t + r = 6 → MW M_C_drawn 5 0 0 v hT 0 0 94 [(0, .ref 5), (2, .int (nI n)), (4, .ref (2 * k + 67)), (5, .int (nI kd)), (6, .int (nI y)), (7, .int (drS (fun j => nbW T (i_wood p) (i_place p) j (30 * kd + y)) z0 t).1), (8, .int (nI hits)), (9, .int (nI turn)), (10, .int (nI (drS (fun j => nbW T (i_wood p) (i_place p) j (30 * kd + y)) z0 t).2)), (11, .int (nI t))] [] (heapN N sc x m (pcells 67 P)) := by
  have hi := (heapN_gp (N := N) (sc := sc) (x := x) (m := m) hp).1
  have hn := (heapN_gp (N := N) (sc := sc) (x := x) (m := m) hp).2
  intro r
  induction r with
  | zero =>
    intro t ht
    rw [show t = 6 by omega]
    repeat (refine mw_step rfl ?_)
    refine mw_brF rfl (by decide) ?_
    refine mw_pick [0, 2, 4, 5, 6, 7, 8, 9, 10] rfl ?_
    exact K
  | succ r ih =>
    intro t ht
    have L := ih (t + 1) (by omega)
    have hlt : (drS (fun j => nbW T (i_wood p) (i_place p) j (30 * kd + y)) z0 t).2 < 64 := Nat.lt_of_lt_of_le (drS_lt _ _ t) (Nat.pow_le_pow_right (n := 2) (by omega) (show t ≤ 6 by omega))
    have ev : i_num p ((t * 6 + kd) * 30 + y) = nI (nbW T (i_wood p) (i_place p) t (30 * kd + y)) := by
      rw [show (t * 6 + kd) * 30 + y = 180 * t + (30 * kd + y) by omega, hN t (30 * kd + y) (by omega) (by omega) (b63 t (by omega))]
    rw [show (drS (fun j => nbW T (i_wood p) (i_place p) j (30 * kd + y)) z0 (t + 1)).1 = dzS (drS (fun j => nbW T (i_wood p) (i_place p) j (30 * kd + y)) z0 t).1 from rfl, show (drS (fun j => nbW T (i_wood p) (i_place p) j (30 * kd + y)) z0 (t + 1)).2 = @ite Nat (dzT (dzS (drS (fun j => nbW T (i_wood p) (i_place p) j (30 * kd + y)) z0 t).1) (nbW T (i_wood p) (i_place p) t (30 * kd + y))) (Classical.propDecidable _) ((drS (fun j => nbW T (i_wood p) (i_place p) j (30 * kd + y)) z0 t).2 ||| 2 ^ t) (drS (fun j => nbW T (i_wood p) (i_place p) j (30 * kd + y)) z0 t).2 from rfl] at L
    repeat (refine mw_step rfl ?_)
    refine mw_brT rfl (n_lt (b := 6) (by omega) (by omega)) ?_
    repeat (refine mw_step rfl ?_)
    refine mw_div rfl (by decide) ?_
    repeat (refine mw_step rfl ?_)
    refine mw_callP (c_I_numberAt hi (by omega) hn t kd y (by omega)) rfl rfl hi (by omega) rfl (Nat.le_of_ble_eq_true rfl) (Nat.le_refl _) (Nat.le_refl _) ?_
    rw [ev]
    repeat (refine mw_step rfl ?_)
    by_cases h : dzT (dzS (drS (fun j => nbW T (i_wood p) (i_place p) j (30 * kd + y)) z0 t).1) (nbW T (i_wood p) (i_place p) t (30 * kd + y))
    · rw [if_pos h] at L
      refine mw_brT rfl (h) ?_
      repeat (refine mw_to 94 rfl rfl ?_)
      rw [nI_1, b_sh t (by omega), b_or _ hlt _ (p2_lt (by omega))]
      refine mw_pick [0, 2, 4, 5, 6, 7, 8, 9, 10, 11] rfl ?_
      exact L
    · rw [if_neg h] at L
      refine mw_brF rfl (h) ?_
      repeat (refine mw_to 94 rfl rfl ?_)
      rw [nI_1]
      refine mw_pick [0, 2, 4, 5, 6, 7, 8, 9, 10, 11] rfl ?_
      exact L
theorem l_C_draw2 (hW : WOK B (nbW T (i_wood p) (i_place p))) (hp : P[k]? = some p) (hN : KNs T p 63) (kd y : Nat) (hkd : kd < 6) (hy : y < 30) (z0 : Int32) (n : Nat) (hn : n ≤ 30) : ∀ r t x, WYS x B (nbW T (i_wood p) (i_place p)) (wayB 0 0) 63 → t + r = n → ∃ sm : Nat → Int64, MW M_C_drawn 5 0 0 (some (.int (nI (drH B (nbW T (i_wood p) (i_place p)) kd y z0 n).2))) (heapN N sc (xS_sums_s x sm) m (pcells 67 P)) 0 0 82 [(0, .ref 5), (2, .int (nI n)), (4, .ref (2 * k + 67)), (5, .int (nI kd)), (6, .int (nI y)), (7, .int (drH B (nbW T (i_wood p) (i_place p)) kd y z0 t).1), (8, .int (nI (drH B (nbW T (i_wood p) (i_place p)) kd y z0 t).2)), (9, .int (nI t))] [] (heapN N sc x m (pcells 67 P)) := by
  intro r
  induction r with
  | zero =>
    intro t x hY ht
    refine ⟨xS_sums x, ?_⟩
    rw [show t = n by omega]
    repeat (refine mw_step rfl ?_)
    refine mw_brF rfl (n_nlt (by omega) (by omega)) ?_
    repeat (refine mw_step rfl ?_)
    exact mw_r1 rfl trivial (Nat.le_refl _) (Nat.le_refl _) rfl rfl
  | succ r ih =>
    intro t x hY ht
    have hlt := drS_lt (fun j => nbW T (i_wood p) (i_place p) j (30 * kd + y)) (drH B (nbW T (i_wood p) (i_place p)) kd y z0 t).1 6
    obtain ⟨sm1, s1, C⟩ := c_S_take63 (N := N) (sc := sc) (m := m) (tl := pcells 67 P) hW.2 hY (drS (fun j => nbW T (i_wood p) (i_place p) j (30 * kd + y)) (drH B (nbW T (i_wood p) (i_place p)) kd y z0 t).1 6).2 hlt
    obtain ⟨sm, K⟩ := ih (t + 1) (xS_sums_s x sm1) hY (by omega)
    refine ⟨sm, ?_⟩
    have D := c_S_gk (N := N) (sc := sc) (m := m) (tl := pcells 67 P) (x := xS_sums_s x sm1) (f := ks B (nbW T (i_wood p) (i_place p)) (wayB 63 (drS (fun j => nbW T (i_wood p) (i_place p) j (30 * kd + y)) (drH B (nbW T (i_wood p) (i_place p)) kd y z0 t).1 6).2)) s1 (fun j _ => ks_lt hW j)
    rw [show (drH B (nbW T (i_wood p) (i_place p)) kd y z0 (t + 1)).1 = (drS (fun j => nbW T (i_wood p) (i_place p) j (30 * kd + y)) (drH B (nbW T (i_wood p) (i_place p)) kd y z0 t).1 6).1 from rfl, show (drH B (nbW T (i_wood p) (i_place p)) kd y z0 (t + 1)).2 = (drH B (nbW T (i_wood p) (i_place p)) kd y z0 t).2 + @ite Nat (dHit B (nbW T (i_wood p) (i_place p)) kd (drS (fun j => nbW T (i_wood p) (i_place p) j (30 * kd + y)) (drH B (nbW T (i_wood p) (i_place p)) kd y z0 t).1 6).2) (Classical.propDecidable _) 1 0 from rfl, ← nI_add] at K
    repeat (refine mw_step rfl ?_)
    refine mw_brT rfl (n_lt (by omega) (by omega)) ?_
    repeat (refine mw_to 94 rfl rfl ?_)
    refine mw_pick [0, 2, 4, 5, 6, 7, 8, 9, 10, 11] rfl ?_
    refine l_C_draw1 hp hN kd y hkd hy (drH B (nbW T (i_wood p) (i_place p)) kd y z0 t).1 n _ t ?_ 6 0 (by omega)
    repeat (refine mw_step rfl ?_)
    refine mw_call (C) rfl rfl (Nat.le_of_ble_eq_true rfl) (Nat.le_refl _) (Nat.le_refl _) ?_
    repeat (refine mw_step rfl ?_)
    refine mw_call (D) rfl rfl (Nat.le_of_ble_eq_true rfl) (Nat.le_refl _) (Nat.le_refl _) ?_
    repeat (refine mw_step rfl ?_)
    by_cases h : dHit B (nbW T (i_wood p) (i_place p)) kd (drS (fun j => nbW T (i_wood p) (i_place p) j (30 * kd + y)) (drH B (nbW T (i_wood p) (i_place p)) kd y z0 t).1 6).2
    · rw [if_pos h] at K
      refine mw_brT rfl ((ml_hit hkd).mpr h) ?_
      repeat (refine mw_to 82 rfl rfl ?_)
      rw [nI_1]
      refine mw_pick [0, 2, 4, 5, 6, 7, 8, 9] rfl ?_
      exact K
    · rw [if_neg h] at K
      refine mw_brF rfl (fun z => h ((ml_hit hkd).mp z)) ?_
      repeat (refine mw_to 82 rfl rfl ?_)
      rw [nI_1]
      refine mw_pick [0, 2, 4, 5, 6, 7, 8, 9] rfl ?_
      exact K
theorem drawn_neg (z : Int32) (h1 : ¬ z / nI 1000 < 0) (h2 : ¬ (z / nI 100 - z / nI 100 / nI 10 * nI 10) < 0) (h3 : ¬ (z - z / nI 100 * nI 100) < 0) : ¬ z < 0 := by
  intro h
  rw [Int32.lt_iff_toInt_lt, Int32.toInt_zero] at h
  rw [Int32.lt_iff_toInt_lt, Int32.toInt_zero, tdiv_toInt z 1000 (by decide) (by decide)] at h1
  rw [Int32.lt_iff_toInt_lt, Int32.toInt_zero, trem_toInt (z / nI 100) 10 (by decide) (by decide), tdiv_toInt z 100 (by decide) (by decide)] at h2
  rw [Int32.lt_iff_toInt_lt, Int32.toInt_zero, trem_toInt z 100 (by decide) (by decide)] at h3
  generalize z.toInt = a at *
  have e0 : a = -(-a) := by omega
  have e1 : a.tdiv 1000 = -((-a) / 1000) := by
    rw [e0, Int.neg_tdiv, Int.neg_neg, Int.tdiv_eq_ediv_of_nonneg (by omega)]
  have e2 : a.tdiv 100 = -((-a) / 100) := by
    rw [e0, Int.neg_tdiv, Int.neg_neg, Int.tdiv_eq_ediv_of_nonneg (by omega)]
  have e3 : a.tmod 100 = -((-a) % 100) := by
    rw [e0, Int.neg_tmod, Int.neg_neg, Int.tmod_eq_emod_of_nonneg (by omega)]
  have e4 : (a.tdiv 100).tmod 10 = -(((-a) / 100) % 10) := by
    rw [e2, Int.neg_tmod, Int.tmod_eq_emod_of_nonneg (by omega)]
  have h1' : ¬ a.tdiv 1000 < 0 := h1
  have h2' : ¬ (a.tdiv 100).tmod 10 < 0 := h2
  have h3' : ¬ a.tmod 100 < 0 := h3
  rw [e1] at h1'
  rw [e4] at h2'
  rw [e3] at h3'
  omega
end CH
