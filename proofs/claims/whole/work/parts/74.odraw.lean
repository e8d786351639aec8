/-! drawn: as it is called; cheapest, drawn, named, plan: the reference -/
def sp_dr (n : Nat) (nn pkt : Int32) : Prop := (∃ k, k < n ∧ pkt / 1000 = nI k) ∧ (0 ≤ pkt / 100 - pkt / 100 / 10 * 10 ∧ pkt / 100 - pkt / 100 / 10 * 10 ≤ nI 5) ∧ (0 ≤ pkt - pkt / 100 * 100 ∧ pkt - pkt / 100 * 100 ≤ nI 29) ∧ (1 ≤ nn ∧ nn ≤ nI 30)
section DR
variable {sc : Nat × (Nat → Int32)} {x : XS} {m : OS} {P : List PieceS} {B : Nat → Nat} {T : Nat → Option Tx} {k : Nat} {p : PieceS}
theorem c_C_drawn_bad (h8 : P.length ≤ 8) (sd nn pkt : Int32) (h : ¬ sp_dr P.length nn pkt) : MC M_C_drawn 5 0 0 [.ref 5, .int sd, .int nn, .int pkt] (heap sc x m P) (some (.int (-1))) (heap sc x m P) := by
  refine mc_of k1_C_drawn k2_C_drawn (Nat.le_of_ble_eq_true rfl) ?_
  unfold heap
  repeat (refine mw_step rfl ?_)
  refine mw_div rfl (by decide) ?_
  by_cases hk : ∃ j, j < P.length ∧ pkt / 1000 = nI j
  · have hk' := hk
    obtain ⟨k, hk, e⟩ := hk
    rw [show pkt / 1000 = nI k from e]
    refine mw_call (c_pieceAt k h8 hk) rfl rfl (Nat.le_of_ble_eq_true rfl) (Nat.le_refl _) (Nat.le_refl _) ?_
    repeat (refine mw_step rfl ?_)
    refine mw_div rfl (by decide) ?_
    repeat (refine mw_step rfl ?_)
    refine mw_div rfl (by decide) ?_
    repeat (refine mw_step rfl ?_)
    refine mw_div rfl (by decide) ?_
    repeat (refine mw_step rfl ?_)
    refine mw_call (c_isKind _ _) rfl rfl (Nat.le_of_ble_eq_true rfl) (Nat.le_refl _) (Nat.le_refl _) ?_
    refine mw_br rfl (fun h1 => ?_) (fun h1 => ?_)
    · repeat (refine mw_step rfl ?_)
      exact mw_r1 rfl trivial (Nat.le_refl _) (Nat.le_refl _) rfl rfl
    · repeat (refine mw_step rfl ?_)
      refine mw_call (c_isTime _ _) rfl rfl (Nat.le_of_ble_eq_true rfl) (Nat.le_refl _) (Nat.le_refl _) ?_
      refine mw_br rfl (fun h2 => ?_) (fun h2 => ?_)
      · repeat (refine mw_step rfl ?_)
        exact mw_r1 rfl trivial (Nat.le_refl _) (Nat.le_refl _) rfl rfl
      · repeat (refine mw_step rfl ?_)
        refine mw_call (c_within _ _ _ _) rfl rfl (Nat.le_of_ble_eq_true rfl) (Nat.le_refl _) (Nat.le_refl _) ?_
        refine mw_br rfl (fun h3 => ?_) (fun h3 => ?_)
        · repeat (refine mw_step rfl ?_)
          exact mw_r1 rfl trivial (Nat.le_refl _) (Nat.le_refl _) rfl rfl
        · exact absurd ⟨hk', bI_of h1, bI_of h2, bI_of h3⟩ h
  · refine mw_call (c_pieceAt_bad _ h8 hk) rfl rfl (Nat.le_of_ble_eq_true rfl) (Nat.le_refl _) (Nat.le_refl _) ?_
    repeat (refine mw_step rfl ?_)
    refine mw_div rfl (by decide) ?_
    repeat (refine mw_step rfl ?_)
    refine mw_div rfl (by decide) ?_
    repeat (refine mw_step rfl ?_)
    refine mw_div rfl (by decide) ?_
    repeat (refine mw_step rfl ?_)
    exact mw_r1 rfl trivial (Nat.le_refl _) (Nat.le_refl _) rfl rfl
theorem c_C_drawn (hI : CI T B x P) (hp : P[k]? = some p) (sd pkt : Int32) (nn kd y : Nat) (e1 : pkt / 1000 = nI k) (e2 : pkt / 100 - pkt / 100 / 10 * 10 = nI kd) (e3 : pkt - pkt / 100 * 100 = nI y) (hkd : kd < 6) (hy : y < 30) (hn1 : 1 ≤ nn) (hn : nn ≤ 30) : ∃ x' P', CR T x x' P P' ∧ MC M_C_drawn 5 0 0 [.ref 5, .int sd, .int (nI nn), .int pkt] (heap sc x m P) (some (.int (nI (drH B (nbP T p) kd y sd nn).2))) (heap sc x' m P') := by
  have hk : k < P.length := (List.getElem?_eq_some_iff.mp hp).1
  obtain ⟨x1, P1, q, h1, h2, h3, h4, h5, C⟩ := c_S_fillWays (sc := sc) (m := m) hI hp 0 0 63 (by omega) (by omega) (by omega)
  have en : nbW T (i_wood q) (i_place q) = nbP T p := by show nbW _ _ _ = nbW _ _ _; rw [h3.1, h3.2.1]
  rw [show (0 : Nat) ||| 63 = 63 from rfl] at h4
  rw [← en] at h5
  obtain ⟨sm, K⟩ := l_C_draw2 (N := P1.length) (sc := sc) (m := m) (WOK_of hI.2.2.1 (i_wood q) (i_place q)) h2 h4 kd y hkd hy sd nn hn nn 0 x1 h5 (by omega)
  rw [en] at K
  refine ⟨_, P1, CR_trans h1 (CR_sm (CI_of hI h1) sm), ?_⟩
  refine mc_of k1_C_drawn k2_C_drawn (Nat.le_of_ble_eq_true rfl) ?_
  unfold heap at C ⊢
  repeat (refine mw_step rfl ?_)
  refine mw_div rfl (by decide) ?_
  rw [show pkt / 1000 = nI k from e1]
  refine mw_call (c_pieceAt k hI.2.2.2.1 hk) rfl rfl (Nat.le_of_ble_eq_true rfl) (Nat.le_refl _) (Nat.le_refl _) ?_
  repeat (refine mw_step rfl ?_)
  refine mw_div rfl (by decide) ?_
  repeat (refine mw_step rfl ?_)
  refine mw_div rfl (by decide) ?_
  rw [show pkt / 100 - pkt / 100 / 10 * 10 = nI kd from e2]
  repeat (refine mw_step rfl ?_)
  refine mw_div rfl (by decide) ?_
  rw [show pkt - pkt / 100 * 100 = nI y from e3]
  repeat (refine mw_step rfl ?_)
  refine mw_call (c_isKind _ _) rfl rfl (Nat.le_of_ble_eq_true rfl) (Nat.le_refl _) (Nat.le_refl _) ?_
  refine mw_brF rfl (bI_ne (rng_in (by omega) (by decide))) ?_
  repeat (refine mw_step rfl ?_)
  refine mw_call (c_isTime _ _) rfl rfl (Nat.le_of_ble_eq_true rfl) (Nat.le_refl _) (Nat.le_refl _) ?_
  refine mw_brF rfl (bI_ne (rng_in (by omega) (by decide))) ?_
  repeat (refine mw_step rfl ?_)
  refine mw_call (c_within _ _ _ _) rfl rfl (Nat.le_of_ble_eq_true rfl) (Nat.le_refl _) (Nat.le_refl _) ?_
  refine mw_brF rfl (bI_ne ⟨show nI 1 ≤ nI nn from nI_le hn1 (by omega), show nI nn ≤ nI 30 from nI_le hn (by omega)⟩) ?_
  repeat (refine mw_step rfl ?_)
  refine mw_call (C) rfl rfl (Nat.le_of_ble_eq_true rfl) (Nat.le_refl _) (Nat.le_refl _) ?_
  repeat (refine mw_to 82 rfl rfl ?_)
  refine mw_pick [0, 2, 4, 5, 6, 7, 8, 9] rfl ?_
  exact K
end DR
section OCH
variable {N : Nat} {sc : Nat × (Nat → Int32)} {x : XS} {m : OS} {tl : MH} {T : Nat → Option Tx} {B Mi Co : Nat → Nat} {n k : Nat} {way : Nat → Nat} {nb : Nat → Nat → Nat}
def OCm (m : OS) (Co : Nat → Nat) : Prop := ∀ k, k < 6 → za_may m (18 + k) = nI (Co k)
theorem c_O_costOf (hC : OCm m Co) (set : Nat) (hs : set < 64) : MC M_O_costOf 0 0 0 [.ref 39, .int (nI set)] (heapN N sc x m tl) (some (.int (nI (sOv Co set)))) (heapN N sc x m tl) := by
  have L : ∀ r t, t + r = 6 → MW M_O_costOf 0 0 0 (some (.int (nI (sOv Co set)))) (heapN N sc x m tl) 0 0 4 [(0, .ref 39), (1, .int (nI set)), (2, .int (nI (sN (fun j => if set.testBit j = true then Co j else 0) t))), (3, .int (nI t))] [] (heapN N sc x m tl) := by
    intro r
    induction r with
    | zero =>
      intro t ht
      rw [show t = 6 by omega]
      repeat (refine mw_step rfl ?_)
      refine mw_brF rfl (by decide) ?_
      repeat (refine mw_step rfl ?_)
      exact mw_r1 rfl trivial (Nat.le_refl _) (Nat.le_refl _) rfl rfl
    | succ r ih =>
      intro t ht
      have L := ih (t + 1) (by omega)
      rw [show sN (fun j => if set.testBit j = true then Co j else 0) (t + 1) = sN (fun j => if set.testBit j = true then Co j else 0) t + (if set.testBit t = true then Co t else 0) from rfl, ← nI_add] at L
      repeat (refine mw_step rfl ?_)
      refine mw_brT rfl (n_lt (b := 6) (by omega) (by omega)) ?_
      repeat (refine mw_step rfl ?_)
      by_cases h : set.testBit t = true
      · rw [if_pos h] at L
        refine mw_brT rfl ((b_has _ hs _ (by omega)).mpr h) ?_
        repeat (refine mw_step rfl ?_)
        refine mw_ild rfl (show (18 : Int32) + nI t = nI (18 + t) by rw [show (18 : Int32) = nI 18 from rfl, nI_add]) (by omega) (by decide) ?_
        rw [show za_may m (18 + t) = nI (Co t) from hC t (by omega)]
        repeat (refine mw_to 4 rfl rfl ?_)
        rw [nI_1]
        refine mw_pick [0, 1, 2, 3] rfl ?_
        exact L
      · rw [if_neg h] at L
        refine mw_brF rfl (fun z => h ((b_has _ hs _ (by omega)).mp z)) ?_
        repeat (refine mw_to 4 rfl rfl ?_)
        rw [nI_1]
        refine mw_pick [0, 1, 2, 3] rfl ?_
        exact L
  refine mc_of k1_O_costOf k2_O_costOf (Nat.le_of_ble_eq_true rfl) ?_
  repeat (refine mw_to 4 rfl rfl ?_)
  refine mw_pick [0, 1, 2, 3] rfl ?_
  exact L 6 0 (by omega)
theorem c_O_minutesOf (hC : OMm m Mi) (set : Nat) (hs : set < 64) : MC M_O_minutesOf 0 0 0 [.ref 39, .int (nI set)] (heapN N sc x m tl) (some (.int (nI (sOv Mi set)))) (heapN N sc x m tl) := by
  have L : ∀ r t, t + r = 6 → MW M_O_minutesOf 0 0 0 (some (.int (nI (sOv Mi set)))) (heapN N sc x m tl) 0 0 4 [(0, .ref 39), (1, .int (nI set)), (2, .int (nI (sN (fun j => if set.testBit j = true then Mi j else 0) t))), (3, .int (nI t))] [] (heapN N sc x m tl) := by
    intro r
    induction r with
    | zero =>
      intro t ht
      rw [show t = 6 by omega]
      repeat (refine mw_step rfl ?_)
      refine mw_brF rfl (by decide) ?_
      repeat (refine mw_step rfl ?_)
      exact mw_r1 rfl trivial (Nat.le_refl _) (Nat.le_refl _) rfl rfl
    | succ r ih =>
      intro t ht
      have L := ih (t + 1) (by omega)
      rw [show sN (fun j => if set.testBit j = true then Mi j else 0) (t + 1) = sN (fun j => if set.testBit j = true then Mi j else 0) t + (if set.testBit t = true then Mi t else 0) from rfl, ← nI_add] at L
      repeat (refine mw_step rfl ?_)
      refine mw_brT rfl (n_lt (b := 6) (by omega) (by omega)) ?_
      repeat (refine mw_step rfl ?_)
      by_cases h : set.testBit t = true
      · rw [if_pos h] at L
        refine mw_brT rfl ((b_has _ hs _ (by omega)).mpr h) ?_
        repeat (refine mw_step rfl ?_)
        refine mw_ild rfl (show (12 : Int32) + nI t = nI (12 + t) by rw [show (12 : Int32) = nI 12 from rfl, nI_add]) (by omega) (by decide) ?_
        rw [show za_may m (12 + t) = nI (Mi t) from hC t (by omega)]
        repeat (refine mw_to 4 rfl rfl ?_)
        rw [nI_1]
        refine mw_pick [0, 1, 2, 3] rfl ?_
        exact L
      · rw [if_neg h] at L
        refine mw_brF rfl (fun z => h ((b_has _ hs _ (by omega)).mp z)) ?_
        repeat (refine mw_to 4 rfl rfl ?_)
        rw [nI_1]
        refine mw_pick [0, 1, 2, 3] rfl ?_
        exact L
  refine mc_of k1_O_minutesOf k2_O_minutesOf (Nat.le_of_ble_eq_true rfl) ?_
  repeat (refine mw_to 4 rfl rfl ?_)
  refine mw_pick [0, 1, 2, 3] rfl ?_
  exact L 6 0 (by omega)
theorem LKm_zw {w : zwS} (h : LKm m nb) (hw : w.1 = zw_numbers m) : LKm (zw_s m w) nb := fun j kt hj hkt => by
  show w.1 (180 * j + kt) = _
  rw [hw]
  exact h j kt hj hkt
theorem sl_g (c : Nat → Prop) [DecidablePred c] (g : Nat → Nat) (t : Nat) (h : t ≤ 64) (hn : ¬ (sl c g t).1 = -2) : ∃ j, j < t ∧ sl c g t = (nI j, g j) := by
  rcases sl_c c g t h with z | z
  · exact absurd (by rw [z]) hn
  · exact z
theorem l_O_cheap (hnb : ∀ j kt, nb j kt ≤ 100) (h9 : ∀ k, B k ≤ 9) (hC : ∀ k, Co k ≤ 99) (b : Nat) (hb : b ≤ 100) (what : Int32) : ∀ r t m, OB m B → OCm m Co → LKm m nb → t + r = 64 → ∃ m', OR m m' ∧ OCm m' Co ∧ ∀ {v : Option Value} {hT : MH}, MW M_O_cheapest 47 0 0 v hT 0 0 91 [(0, .ref 39), (3, .int what), (4, .int (sl (chC B nb b) (sOv Co) 64).1)] [] (heapN N sc x m' tl) → MW M_O_cheapest 47 0 0 v hT 0 0 44 [(0, .ref 39), (2, .int (nI b)), (3, .int what), (4, .int (sl (chC B nb b) (sOv Co) t).1), (5, .int (nI t))] [] (heapN N sc x m tl) := by
  intro r
  induction r with
  | zero =>
    intro t m hB hCm hL ht
    refine ⟨m, OR_refl m, hCm, ?_⟩
    intro v hT K
    rw [show t = 64 by omega]
    repeat (refine mw_step rfl ?_)
    refine mw_brF rfl (by decide) ?_
    refine mw_pick [0, 3, 4] rfl ?_
    exact K
  | succ r ih =>
    intro t m hB hCm hL ht
    obtain ⟨w, hw, D⟩ := c_O_believedBy (N := N) (sc := sc) (x := x) (tl := tl) hB h9 hnb hL t (by omega)
    obtain ⟨m2, h2, h3, K⟩ := ih (t + 1) (zw_s m w) hB hCm (LKm_zw hL hw) (by omega)
    refine ⟨m2, OR_trans (OR_zw m w) h2, h3, ?_⟩
    intro v hT K2
    have KK := K K2
    have hpc := sp_pct_le (B := B) (nb := nb) (way := wayB 63 t) (kd := 0) (by omega)
    have bm := sOv_le hC t
    rw [sl_s (chC B nb b) (sOv Co) t] at KK
    repeat (refine mw_step rfl ?_)
    refine mw_brT rfl (n_lt (b := 64) (by omega) (by omega)) ?_
    repeat (refine mw_step rfl ?_)
    refine mw_call (D) rfl rfl (Nat.le_of_ble_eq_true rfl) (Nat.le_refl _) (Nat.le_refl _) ?_
    repeat (refine mw_step rfl ?_)
    by_cases hp : b ≤ sp_pct B nb (wayB 63 t) 0
    · rw [if_pos (show chC B nb b t from hp)] at KK
      refine mw_brF rfl (n_nlt (a := sp_pct B nb (wayB 63 t) 0) hp (by omega)) ?_
      repeat (refine mw_step rfl ?_)
      by_cases hn : (sl (chC B nb b) (sOv Co) t).1 = -2
      · rw [if_pos (Or.inl hn)] at KK
        refine mw_brT rfl ((sl_neg _ _ t (by omega)).mpr hn) ?_
        repeat (refine mw_to 44 rfl rfl ?_)
        rw [nI_1]
        refine mw_pick [0, 2, 3, 4, 5] rfl ?_
        exact KK
      · obtain ⟨j, hj, ej⟩ := sl_g (chC B nb b) (sOv Co) t (by omega) hn
        have bj := sOv_le hC j
        refine mw_brF rfl (fun z => hn ((sl_neg _ _ t (by omega)).mp z)) ?_
        repeat (refine mw_step rfl ?_)
        refine mw_call (c_O_costOf (m := zw_s m w) hCm t (by omega)) rfl rfl (Nat.le_of_ble_eq_true rfl) (Nat.le_refl _) (Nat.le_refl _) ?_
        repeat (refine mw_step rfl ?_)
        rw [ej] at KK hn ⊢
        refine mw_call (c_O_costOf (m := zw_s m w) hCm j (by omega)) rfl rfl (Nat.le_of_ble_eq_true rfl) (Nat.le_refl _) (Nat.le_refl _) ?_
        by_cases hl : sOv Co t < sOv Co j
        · rw [if_pos (Or.inr hl)] at KK
          refine mw_brT rfl (n_lt hl (by omega)) ?_
          repeat (refine mw_to 44 rfl rfl ?_)
          rw [nI_1]
          refine mw_pick [0, 2, 3, 4, 5] rfl ?_
          exact KK
        · rw [if_neg (fun z => z.elim hn hl)] at KK
          refine mw_brF rfl (n_nlt (by omega) (by omega)) ?_
          repeat (refine mw_to 44 rfl rfl ?_)
          rw [nI_1]
          refine mw_pick [0, 2, 3, 4, 5] rfl ?_
          exact KK
    · rw [if_neg (show ¬ chC B nb b t from hp)] at KK
      refine mw_brT rfl (n_lt (a := sp_pct B nb (wayB 63 t) 0) (by omega) (by omega)) ?_
      repeat (refine mw_to 44 rfl rfl ?_)
      rw [nI_1]
      refine mw_pick [0, 2, 3, 4, 5] rfl ?_
      exact KK
theorem c_O_cheap_bad (hI : OI T B n m) (k b what : Int32) (h : ¬ ((∃ j, j < n ∧ k = nI j) ∧ (0 ≤ b ∧ b ≤ nI 100) ∧ (0 ≤ what ∧ what ≤ nI 1))) : MC M_O_cheapest 47 0 0 [.ref 39, .int k, .int b, .int what] (heapN N sc x m tl) (some (.int (-1))) (heapN N sc x m tl) := by
  refine mc_of k1_O_cheapest k2_O_cheapest (Nat.le_of_ble_eq_true rfl) ?_
  repeat (refine mw_step rfl ?_)
  refine mw_call (c_O_isPart _) rfl rfl (Nat.le_of_ble_eq_true rfl) (Nat.le_refl _) (Nat.le_refl _) ?_
  refine mw_br rfl (fun h1 => ?_) (fun h1 => ?_)
  · repeat (refine mw_step rfl ?_)
    exact mw_r1 rfl trivial (Nat.le_refl _) (Nat.le_refl _) rfl rfl
  · repeat (refine mw_step rfl ?_)
    refine mw_call (c_withinO32 _ b 0 (nI 100)) rfl rfl (Nat.le_of_ble_eq_true rfl) (Nat.le_refl _) (Nat.le_refl _) ?_
    refine mw_br rfl (fun h2 => ?_) (fun h2 => ?_)
    · repeat (refine mw_step rfl ?_)
      exact mw_r1 rfl trivial (Nat.le_refl _) (Nat.le_refl _) rfl rfl
    · repeat (refine mw_step rfl ?_)
      refine mw_call (c_withinO32 _ what 0 (nI 1)) rfl rfl (Nat.le_of_ble_eq_true rfl) (Nat.le_refl _) (Nat.le_refl _) ?_
      refine mw_br rfl (fun h3 => ?_) (fun h3 => ?_)
      · repeat (refine mw_step rfl ?_)
        exact mw_r1 rfl trivial (Nat.le_refl _) (Nat.le_refl _) rfl rfl
      · exact absurd ⟨n_predN (by have := hI.2.2.2.2; omega) (by have := bI_of h1; rw [hI.2.2.2.1] at this; exact this), bI_of h2, bI_of h3⟩ h
theorem c_O_cheap (hI : OI T B n m) (hCm : OCm m Co) (hC : ∀ k, Co k ≤ 99) (hk : k < n) (b : Nat) (hb : b ≤ 100) (what : Int32) (hw : 0 ≤ what ∧ what ≤ nI 1) : ∃ m', OR m m' ∧ MC M_O_cheapest 47 0 0 [.ref 39, .int (nI k), .int (nI b), .int what] (heapN N sc x m tl) (some (.int (sp_cheap B Co (nbO T m k) b what))) (heapN N sc x m' tl) := by
  obtain ⟨m1, h1, h2, h3, C⟩ := c_oL (N := N) (sc := sc) (x := x) (tl := tl) hI hk
  have hI1 := OI_of hI h1
  have hCm1 : OCm m1 Co := by
    obtain ⟨a1, a2, a3, rfl⟩ := h1
    exact hCm
  obtain ⟨m2, h4, h5, K⟩ := l_O_cheap (N := N) (sc := sc) (x := x) (tl := tl) (B := B) (nb := nbO T m k) (fun j kt => nbW_le _ _ _ _ _) hI.2.2.1 hC b hb what 64 0 m1 hI1.2.1 hCm1 h2 (by omega)
  refine ⟨m2, OR_trans h1 h4, ?_⟩
  refine mc_of k1_O_cheapest k2_O_cheapest (Nat.le_of_ble_eq_true rfl) ?_
  repeat (refine mw_step rfl ?_)
  refine mw_call (c_O_isPart _) rfl rfl (Nat.le_of_ble_eq_true rfl) (Nat.le_refl _) (Nat.le_refl _) ?_
  refine mw_brF rfl (bI_ne (isPart_of hI hk)) ?_
  repeat (refine mw_step rfl ?_)
  refine mw_call (c_withinO32 _ (nI b) 0 (nI 100)) rfl rfl (Nat.le_of_ble_eq_true rfl) (Nat.le_refl _) (Nat.le_refl _) ?_
  refine mw_brF rfl (bI_ne (rng_in hb (by decide))) ?_
  repeat (refine mw_step rfl ?_)
  refine mw_call (c_withinO32 _ what 0 (nI 1)) rfl rfl (Nat.le_of_ble_eq_true rfl) (Nat.le_refl _) (Nat.le_refl _) ?_
  refine mw_brF rfl (bI_ne hw) ?_
  repeat (refine mw_step rfl ?_)
  refine mw_call (C) rfl rfl (Nat.le_of_ble_eq_true rfl) (Nat.le_refl _) (Nat.le_refl _) ?_
  repeat (refine mw_to 44 rfl rfl ?_)
  refine mw_pick [0, 2, 3, 4, 5] rfl ?_
  refine K ?_
  unfold sp_cheap
  repeat (refine mw_step rfl ?_)
  by_cases hn : (sl (chC B (nbO T m k) b) (sOv Co) 64).1 = -2
  · refine mw_brT rfl ((sl_neg _ _ 64 (by omega)).mpr hn) ?_
    repeat (refine mw_step rfl ?_)
    exact mw_r1 rfl trivial (Nat.le_refl _) (Nat.le_refl _) (by
      rw [chL_2 hn]
      split
      · rfl
      · rw [hn]) rfl
  · refine mw_brF rfl (fun z => hn ((sl_neg _ _ 64 (by omega)).mp z)) ?_
    repeat (refine mw_step rfl ?_)
    rcases (n_01 what).mp hw with rfl | rfl
    · refine mw_brT rfl (rfl) ?_
      repeat (refine mw_step rfl ?_)
      exact mw_r1 rfl trivial (Nat.le_refl _) (Nat.le_refl _) (by rw [if_pos rfl]) rfl
    · refine mw_brF rfl (by decide) ?_
      obtain ⟨j, hj, ej⟩ := sl_g (chC B (nbO T m k) b) (sOv Co) 64 (by omega) hn
      repeat (refine mw_step rfl ?_)
      rw [chL_n hn, ej]
      refine mw_call (c_O_costOf h5 j hj) rfl rfl (Nat.le_of_ble_eq_true rfl) (Nat.le_refl _) (Nat.le_refl _) ?_
      exact mw_r1 rfl trivial (Nat.le_refl _) (Nat.le_refl _) (by rw [if_neg (by decide)]) rfl
end OCH
