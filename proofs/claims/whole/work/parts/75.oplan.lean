/-! drawn, named, plan: the reference -/
section OD
variable {N : Nat} {sc : Nat × (Nat → Int32)} {x : XS} {m : OS} {tl : MH} {T : Nat → Option Tx} {B Mi : Nat → Nat} {n k : Nat} {way : Nat → Nat} {nb : Nat → Nat → Nat}
theorem l_O_draw1 (nm : Nat → Int32) (wg kS : Nat → Int64) (aS : Int64) (kd y : Nat) (hkd : kd < 6) (hy : y < 30) (hL : ∀ j, j < 6 → nm (180 * j + (30 * kd + y)) = nI (nb j (30 * kd + y))) (pkt : Int32) (e3 : pkt - pkt / 100 * 100 = nI y) (z0 : Int32) (nn often turn : Nat) : ∀ r t wy, t + r = 6 → (∀ j, j < t → wy j = nI (wayB 63 (drS (fun j => nb j (30 * kd + y)) z0 t).2 j)) → ∃ wy' : Nat → Int32, (∀ j, j < 6 → wy' j = nI (wayB 63 (drS (fun j => nb j (30 * kd + y)) z0 6).2 j)) ∧ ∀ {v : Option Value} {hT : MH}, MW M_O_drawn 47 0 0 v hT 0 0 158 [(0, .ref 39), (2, .int (nI nn)), (3, .int pkt), (4, .int (nI kd)), (5, .int (drS (fun j => nb j (30 * kd + y)) z0 6).1), (6, .int (nI often)), (7, .int (nI turn))] [] (heapN N sc x (zw_s m (nm, wy', wg, kS, aS)) tl) → MW M_O_drawn 47 0 0 v hT 0 0 88 [(0, .ref 39), (2, .int (nI nn)), (3, .int pkt), (4, .int (nI kd)), (5, .int (drS (fun j => nb j (30 * kd + y)) z0 t).1), (6, .int (nI often)), (7, .int (nI turn)), (8, .int (nI t))] [] (heapN N sc x (zw_s m (nm, wy, wg, kS, aS)) tl) := by
  intro r
  induction r with
  | zero =>
    intro t wy ht h
    have e : t = 6 := by omega
    subst e
    refine ⟨wy, h, ?_⟩
    intro v hT K
    repeat (refine mw_step rfl ?_)
    refine mw_brF rfl (by decide) ?_
    refine mw_pick [0, 2, 3, 4, 5, 6, 7] rfl ?_
    exact K
  | succ r ih =>
    intro t wy ht h
    have ei : (180 : Int32) * nI t + 30 * nI kd + nI y = nI (180 * t + (30 * kd + y)) := by rw [show (180 : Int32) = nI 180 from rfl, show (30 : Int32) = nI 30 from rfl, pk_mul, pk_mul, nI_add, nI_add, Nat.add_assoc]
    have hlt := drS_lt (fun j => nb j (30 * kd + y)) z0 t
    have eS : (drS (fun j => nb j (30 * kd + y)) z0 (t + 1)).2 = @ite Nat (dzT (dzS (drS (fun j => nb j (30 * kd + y)) z0 t).1) (nb t (30 * kd + y))) (Classical.propDecidable _) ((drS (fun j => nb j (30 * kd + y)) z0 t).2 ||| 2 ^ t) (drS (fun j => nb j (30 * kd + y)) z0 t).2 := rfl
    have hold : ∀ j, j < t → wayB 63 (drS (fun j => nb j (30 * kd + y)) z0 (t + 1)).2 j = wayB 63 (drS (fun j => nb j (30 * kd + y)) z0 t).2 j := by
      intro j hj
      rw [wayB63 (by omega), wayB63 (by omega), eS]
      split
      · rw [Nat.testBit_or, Nat.testBit_two_pow, decide_eq_false (by omega), Bool.or_false]
      · rfl
    by_cases hd : dzT (dzS (drS (fun j => nb j (30 * kd + y)) z0 t).1) (nb t (30 * kd + y))
    · have et : wayB 63 (drS (fun j => nb j (30 * kd + y)) z0 (t + 1)).2 t = 1 := by
        rw [wayB63 (by omega), eS, if_pos hd, Nat.testBit_or, Nat.testBit_two_pow, decide_eq_true rfl, Bool.or_true, if_pos rfl]
      obtain ⟨wy', k1, K⟩ := ih (t + 1) (upd wy t 1) (by omega) (by
        intro j hj
        by_cases e : j = t
        · rw [e, upd_at, et]
          rfl
        · rw [upd_ne e, hold j (by omega)]
          exact h j (by omega))
      refine ⟨wy', k1, ?_⟩
      intro v hT K2
      repeat (refine mw_step rfl ?_)
      refine mw_brT rfl (n_lt (b := 6) (by omega) (by omega)) ?_
      repeat (refine mw_step rfl ?_)
      refine mw_div rfl (by decide) ?_
      repeat (refine mw_step rfl ?_)
      refine mw_div rfl (by decide) ?_
      rw [show pkt - pkt / 100 * 100 = nI y from e3]
      repeat (refine mw_step rfl ?_)
      refine mw_ild rfl (ei) (by omega) (by decide) ?_
      rw [show zw_numbers (zw_s m (nm, wy, wg, kS, aS)) (180 * t + (30 * kd + y)) = nI (nb t (30 * kd + y)) from hL t (by omega)]
      refine mw_brT rfl (hd) ?_
      repeat (refine mw_step rfl ?_)
      refine mw_ist rfl (rfl) (by omega) (by decide) ?_
      repeat (refine mw_to 88 rfl rfl ?_)
      rw [nI_1]
      refine mw_pick [0, 2, 3, 4, 5, 6, 7, 8] rfl ?_
      exact K K2
    · have et : wayB 63 (drS (fun j => nb j (30 * kd + y)) z0 (t + 1)).2 t = 2 := by
        rw [wayB63 (by omega), eS, if_neg hd, Nat.testBit_lt_two_pow hlt, if_neg (by decide)]
      obtain ⟨wy', k1, K⟩ := ih (t + 1) (upd wy t 2) (by omega) (by
        intro j hj
        by_cases e : j = t
        · rw [e, upd_at, et]
          rfl
        · rw [upd_ne e, hold j (by omega)]
          exact h j (by omega))
      refine ⟨wy', k1, ?_⟩
      intro v hT K2
      repeat (refine mw_step rfl ?_)
      refine mw_brT rfl (n_lt (b := 6) (by omega) (by omega)) ?_
      repeat (refine mw_step rfl ?_)
      refine mw_div rfl (by decide) ?_
      repeat (refine mw_step rfl ?_)
      refine mw_div rfl (by decide) ?_
      rw [show pkt - pkt / 100 * 100 = nI y from e3]
      repeat (refine mw_step rfl ?_)
      refine mw_ild rfl (ei) (by omega) (by decide) ?_
      rw [show zw_numbers (zw_s m (nm, wy, wg, kS, aS)) (180 * t + (30 * kd + y)) = nI (nb t (30 * kd + y)) from hL t (by omega)]
      refine mw_brF rfl (hd) ?_
      repeat (refine mw_step rfl ?_)
      refine mw_ist rfl (rfl) (by omega) (by decide) ?_
      repeat (refine mw_to 88 rfl rfl ?_)
      rw [nI_1]
      refine mw_pick [0, 2, 3, 4, 5, 6, 7, 8] rfl ?_
      exact K K2
theorem l_O_draw2 (hnb : ∀ j kt, nb j kt ≤ 100) (h9 : ∀ k, B k ≤ 9) (kd y : Nat) (hkd : kd < 6) (hy : y < 30) (pkt : Int32) (e3 : pkt - pkt / 100 * 100 = nI y) (z0 : Int32) (nn : Nat) (hn : nn ≤ 30) : ∀ r t m, OB m B → LKm m nb → t + r = nn → ∃ m', OR m m' ∧ MW M_O_drawn 47 0 0 (some (.int (nI (drH B nb kd y z0 nn).2))) (heapN N sc x m' tl) 0 0 79 [(0, .ref 39), (2, .int (nI nn)), (3, .int pkt), (4, .int (nI kd)), (5, .int (drH B nb kd y z0 t).1), (6, .int (nI (drH B nb kd y z0 t).2)), (7, .int (nI t))] [] (heapN N sc x m tl) := by
  have hW : WOK B nb := ⟨h9, hnb⟩
  intro r
  induction r with
  | zero =>
    intro t m hB hL ht
    refine ⟨m, OR_refl m, ?_⟩
    rw [show t = nn by omega]
    repeat (refine mw_step rfl ?_)
    refine mw_brF rfl (n_nlt (by omega) (by omega)) ?_
    repeat (refine mw_step rfl ?_)
    exact mw_r1 rfl trivial (Nat.le_refl _) (Nat.le_refl _) rfl rfl
  | succ r ih =>
    intro t m hB hL ht
    obtain ⟨wy, w1, K1⟩ := l_O_draw1 (N := N) (sc := sc) (x := x) (tl := tl) (m := m) (nb := nb) (zw_numbers m) (zw_weight m) (zw_kindSum m) (zw_allSum m) kd y hkd hy (fun j hj => hL j _ hj (by omega)) pkt e3 (drH B nb kd y z0 t).1 nn (drH B nb kd y z0 t).2 t 6 0 (zw_way m) (by omega) (fun j hj => absurd hj (by omega))
    have hWin : WIN (zw_s m (zw_numbers m, wy, zw_weight m, zw_kindSum m, zw_allSum m)) B nb (wayB 63 (drS (fun j => nb j (30 * kd + y)) (drH B nb kd y z0 t).1 6).2) := ⟨hB, h9, hnb, hL, fun j hj => ⟨w1 j hj, by rw [wayB63 hj]; split <;> omega⟩⟩
    obtain ⟨wg, kS, g1, g2, D⟩ := c_O_weighs (N := N) (sc := sc) (x := x) (tl := tl) hWin
    obtain ⟨m2, h2, K⟩ := ih (t + 1) (zw_s m (zw_numbers m, wy, wg, kS, lN (al B nb (wayB 63 (drS (fun j => nb j (30 * kd + y)) (drH B nb kd y z0 t).1 6).2)))) hB hL (by omega)
    refine ⟨m2, OR_trans (OR_zw m _) h2, ?_⟩
    have hal := al_le (way := wayB 63 (drS (fun j => nb j (30 * kd + y)) (drH B nb kd y z0 t).1 6).2) hW
    have E := c_O_mostOf (N := N) (sc := sc) (x := x) (tl := tl) (m := zw_s m (zw_numbers m, wy, wg, kS, lN (al B nb (wayB 63 (drS (fun j => nb j (30 * kd + y)) (drH B nb kd y z0 t).1 6).2)))) g2 (fun j _ => ks_lt hW j)
    have hle := am_le (ks B nb (wayB 63 (drS (fun j => nb j (30 * kd + y)) (drH B nb kd y z0 t).1 6).2)) 5
    rw [show (drH B nb kd y z0 (t + 1)).1 = (drS (fun j => nb j (30 * kd + y)) (drH B nb kd y z0 t).1 6).1 from rfl, show (drH B nb kd y z0 (t + 1)).2 = (drH B nb kd y z0 t).2 + @ite Nat (dHit B nb kd (drS (fun j => nb j (30 * kd + y)) (drH B nb kd y z0 t).1 6).2) (Classical.propDecidable _) 1 0 from rfl, ← nI_add] at K
    repeat (refine mw_step rfl ?_)
    refine mw_brT rfl (n_lt (by omega) (by omega)) ?_
    repeat (refine mw_to 88 rfl rfl ?_)
    refine mw_pick [0, 2, 3, 4, 5, 6, 7, 8] rfl ?_
    refine K1 ?_
    repeat (refine mw_step rfl ?_)
    refine mw_call (D) rfl rfl (Nat.le_of_ble_eq_true rfl) (Nat.le_refl _) (Nat.le_refl _) ?_
    repeat (refine mw_step rfl ?_)
    by_cases ha : al B nb (wayB 63 (drS (fun j => nb j (30 * kd + y)) (drH B nb kd y z0 t).1 6).2) = 0
    · rw [if_neg (fun z : dHit B nb kd _ => z.1 ha)] at K
      refine mw_brF rfl (by rw [lg_gt0]; exact fun z => by have := (pk_lLT (a := 0) (by omega) (by omega)).mp z; omega) ?_
      repeat (refine mw_to 79 rfl rfl ?_)
      rw [nI_1]
      refine mw_pick [0, 2, 3, 4, 5, 6, 7] rfl ?_
      exact K
    · refine mw_brT rfl (by rw [lg_gt0]; exact (pk_lLT (a := 0) (by omega) (by omega)).mpr (by omega)) ?_
      repeat (refine mw_step rfl ?_)
      refine mw_call (E) rfl rfl (Nat.le_of_ble_eq_true rfl) (Nat.le_refl _) (Nat.le_refl _) ?_
      repeat (refine mw_step rfl ?_)
      by_cases hb : am (ks B nb (wayB 63 (drS (fun j => nb j (30 * kd + y)) (drH B nb kd y z0 t).1 6).2)) 5 = kd
      · rw [if_pos (show dHit B nb kd _ from ⟨ha, hb⟩)] at K
        refine mw_brT rfl (by rw [hb]) ?_
        repeat (refine mw_to 79 rfl rfl ?_)
        rw [nI_1]
        refine mw_pick [0, 2, 3, 4, 5, 6, 7] rfl ?_
        exact K
      · rw [if_neg (fun z : dHit B nb kd _ => hb z.2)] at K
        refine mw_brF rfl (fun e => hb ((nI_eq (by omega) (by omega)).mp e)) ?_
        repeat (refine mw_to 79 rfl rfl ?_)
        rw [nI_1]
        refine mw_pick [0, 2, 3, 4, 5, 6, 7] rfl ?_
        exact K
theorem sp_dr_nn {nn pkt : Int32} (h : sp_dr n nn pkt) (hn : n ≤ 8) : ¬ pkt < 0 := by
  obtain ⟨⟨k, hk, e⟩, h2, h3, -⟩ := h
  refine drawn_neg pkt ?_ ?_ ?_
  · rw [show pkt / nI 1000 = nI k from e]
    exact nI_pos (by omega)
  · exact m_nlt h2.1
  · exact m_nlt h3.1
theorem c_O_drawn_bad (hI : OI T B n m) (sd nn pkt : Int32) (h : ¬ sp_dr n nn pkt) : MC M_O_drawn 47 0 0 [.ref 39, .int sd, .int nn, .int pkt] (heapN N sc x m tl) (some (.int (-1))) (heapN N sc x m tl) := by
  refine mc_of k1_O_drawn k2_O_drawn (Nat.le_of_ble_eq_true rfl) ?_
  repeat (refine mw_step rfl ?_)
  refine mw_call (c_withinO32 _ nn 1 (nI 30)) rfl rfl (Nat.le_of_ble_eq_true rfl) (Nat.le_refl _) (Nat.le_refl _) ?_
  refine mw_br rfl (fun h1 => ?_) (fun h1 => ?_)
  · repeat (refine mw_step rfl ?_)
    exact mw_r1 rfl trivial (Nat.le_refl _) (Nat.le_refl _) rfl rfl
  · repeat (refine mw_step rfl ?_)
    refine mw_br rfl (fun h2 => ?_) (fun h2 => ?_)
    · repeat (refine mw_step rfl ?_)
      exact mw_r1 rfl trivial (Nat.le_refl _) (Nat.le_refl _) rfl rfl
    · repeat (refine mw_step rfl ?_)
      refine mw_div rfl (by decide) ?_
      refine mw_call (c_O_isPart _) rfl rfl (Nat.le_of_ble_eq_true rfl) (Nat.le_refl _) (Nat.le_refl _) ?_
      refine mw_br rfl (fun h3 => ?_) (fun h3 => ?_)
      · repeat (refine mw_step rfl ?_)
        exact mw_r1 rfl trivial (Nat.le_refl _) (Nat.le_refl _) rfl rfl
      · repeat (refine mw_step rfl ?_)
        refine mw_div rfl (by decide) ?_
        repeat (refine mw_step rfl ?_)
        refine mw_div rfl (by decide) ?_
        refine mw_call (c_O_isKind _ _) rfl rfl (Nat.le_of_ble_eq_true rfl) (Nat.le_refl _) (Nat.le_refl _) ?_
        refine mw_br rfl (fun h4 => ?_) (fun h4 => ?_)
        · repeat (refine mw_step rfl ?_)
          exact mw_r1 rfl trivial (Nat.le_refl _) (Nat.le_refl _) rfl rfl
        · repeat (refine mw_step rfl ?_)
          refine mw_div rfl (by decide) ?_
          repeat (refine mw_step rfl ?_)
          refine mw_br rfl (fun h5 => ?_) (fun h5 => ?_)
          · refine absurd ⟨n_predN (by have := hI.2.2.2.2; omega) (by have := bI_of h3; rw [hI.2.2.2.1] at this; exact this), bI_of h4, ⟨?_, n_lt30.mp h5⟩, bI_of h1⟩ h
            obtain ⟨j, hj, rfl⟩ := nI_of h2
            rw [show nI j - nI j / 100 * 100 = nI (j % 100) from pk_rem (d := 100) (by omega) (by omega) (by omega)]
            exact nI_pos' (by omega)
          · repeat (refine mw_step rfl ?_)
            exact mw_r1 rfl trivial (Nat.le_refl _) (Nat.le_refl _) rfl rfl
theorem c_O_drawn (hI : OI T B n m) (hk : k < n) (sd pkt : Int32) (nn kd y : Nat) (e1 : pkt / 1000 = nI k) (e2 : pkt / 100 - pkt / 100 / 10 * 10 = nI kd) (e3 : pkt - pkt / 100 * 100 = nI y) (hkd : kd < 6) (hy : y < 30) (hn1 : 1 ≤ nn) (hn : nn ≤ 30) : ∃ m', OR m m' ∧ MC M_O_drawn 47 0 0 [.ref 39, .int sd, .int (nI nn), .int pkt] (heapN N sc x m tl) (some (.int (nI (drH B (nbO T m k) kd y sd nn).2))) (heapN N sc x m' tl) := by
  obtain ⟨m1, h1, h2, h3, C⟩ := c_oL (N := N) (sc := sc) (x := x) (tl := tl) hI hk
  have hI1 := OI_of hI h1
  have hd : sp_dr n (nI nn) pkt := ⟨⟨k, hk, e1⟩, by rw [e2]; exact rng_in (by omega) (by decide), by rw [e3]; exact rng_in (by omega) (by decide), show nI 1 ≤ nI nn from nI_le hn1 (by omega), show nI nn ≤ nI 30 from nI_le hn (by omega)⟩
  obtain ⟨m2, h4, K⟩ := l_O_draw2 (N := N) (sc := sc) (x := x) (tl := tl) (B := B) (nb := nbO T m k) (fun j kt => nbW_le _ _ _ _ _) hI.2.2.1 kd y hkd hy pkt e3 sd nn hn nn 0 m1 hI1.2.1 h2 (by omega)
  refine ⟨m2, OR_trans h1 h4, ?_⟩
  refine mc_of k1_O_drawn k2_O_drawn (Nat.le_of_ble_eq_true rfl) ?_
  repeat (refine mw_step rfl ?_)
  refine mw_call (c_withinO32 _ (nI nn) 1 (nI 30)) rfl rfl (Nat.le_of_ble_eq_true rfl) (Nat.le_refl _) (Nat.le_refl _) ?_
  refine mw_brF rfl (bI_ne hd.2.2.2) ?_
  repeat (refine mw_step rfl ?_)
  refine mw_brF rfl (sp_dr_nn hd hI.2.2.2.2) ?_
  repeat (refine mw_step rfl ?_)
  refine mw_div rfl (by decide) ?_
  rw [show pkt / 1000 = nI k from e1]
  refine mw_call (c_O_isPart _) rfl rfl (Nat.le_of_ble_eq_true rfl) (Nat.le_refl _) (Nat.le_refl _) ?_
  refine mw_brF rfl (bI_ne (isPart_of hI hk)) ?_
  repeat (refine mw_step rfl ?_)
  refine mw_div rfl (by decide) ?_
  repeat (refine mw_step rfl ?_)
  refine mw_div rfl (by decide) ?_
  rw [show pkt / 100 - pkt / 100 / 10 * 10 = nI kd from e2]
  refine mw_call (c_O_isKind _ _) rfl rfl (Nat.le_of_ble_eq_true rfl) (Nat.le_refl _) (Nat.le_refl _) ?_
  refine mw_brF rfl (bI_ne (rng_in (by omega) (by decide))) ?_
  repeat (refine mw_step rfl ?_)
  refine mw_div rfl (by decide) ?_
  rw [show pkt - pkt / 100 * 100 = nI y from e3]
  repeat (refine mw_step rfl ?_)
  refine mw_brT rfl (n_lt (b := 30) (by omega) (by omega)) ?_
  repeat (refine mw_step rfl ?_)
  refine mw_div rfl (by decide) ?_
  repeat (refine mw_step rfl ?_)
  refine mw_div rfl (by decide) ?_
  rw [show pkt / 100 - pkt / 100 / 10 * 10 = nI kd from e2]
  repeat (refine mw_step rfl ?_)
  refine mw_div rfl (by decide) ?_
  rw [show pkt / 1000 = nI k from e1]
  refine mw_call (C) rfl rfl (Nat.le_of_ble_eq_true rfl) (Nat.le_refl _) (Nat.le_refl _) ?_
  repeat (refine mw_to 79 rfl rfl ?_)
  refine mw_pick [0, 2, 3, 4, 5, 6, 7] rfl ?_
  exact K
end OD
