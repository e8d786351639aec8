/-! price, believed, spoils: both sides -/
theorem p2_lt {j : Nat} (hj : j < 6) : 2 ^ j < 64 := Nat.pow_lt_pow_right (a := 2) (by omega) hj
def VL (x : XS) (V : Nat → Nat) : Prop := ∀ k, k < 6 → xT_now x (6 + k) = nI (V k)
def OV (m : OS) (V : Nat → Nat) : Prop := ∀ k, k < 6 → za_may m (6 + k) = nI (V k)
def sp_pr (V : Nat → Nat) (B : Nat → Nat) (nb : Nat → Nat → Nat) (way : Nat → Nat) : Nat := sN (fun k => V k * sp_pct B nb way k) 6 / 100
theorem sp_prs_le {V B : Nat → Nat} {nb : Nat → Nat → Nat} {way : Nat → Nat} (hV : ∀ k, V k ≤ 99) (t : Nat) (ht : t ≤ 6) : sN (fun k => V k * sp_pct B nb way k) t ≤ 59400 := by
  have h := sN_le (f := fun k => V k * sp_pct B nb way k) (c := 9900) (n := t) (fun k hk => Nat.mul_le_mul (hV k) (sp_pct_le (by omega)))
  omega
section PR
variable {sc : Nat × (Nat → Int32)} {x : XS} {m : OS} {P : List PieceS} {B V : Nat → Nat} {T : Nat → Option Tx} {k : Nat} {p : PieceS} {lk th : Nat} {nbF : Nat → Nat → Nat → Nat} {wyF : Nat → Nat → Nat}
theorem l_C_worth {N : Nat} {tl : MH} {nb : Nat → Nat → Nat} {way : Nat → Nat} (hW : WOK B nb) (hV : ∀ k, V k ≤ 99) (hVx : VL x V) (hs : SMS x (ks B nb way)) (pr : Nat) : ∀ r t, t + r = 6 → MW M_C_worthOf 6 0 0 (some (.int (nI (sp_pr V B nb way)))) (heapN N sc x m tl) 0 0 21 [(0, .ref 5), (1, .ref pr), (2, .long (lN (al B nb way))), (4, .int (nI (sN (fun k => V k * sp_pct B nb way k) t))), (5, .int (nI t))] [] (heapN N sc x m tl) := by
  have b1 := al_le (way := way) hW
  intro r
  induction r with
  | zero =>
    intro t ht
    have b2 := sp_prs_le (B := B) (nb := nb) (way := way) hV 6 (by omega)
    rw [show t = 6 by omega]
    repeat (refine mw_step rfl ?_)
    refine mw_brF rfl (by decide) ?_
    repeat (refine mw_step rfl ?_)
    refine mw_div rfl (by decide) ?_
    rw [show nI (sN (fun k => V k * sp_pct B nb way k) 6) / 100 = nI (sp_pr V B nb way) from pk_div (d := 100) (by omega) (by omega) (by omega)]
    exact mw_r1 rfl trivial (Nat.le_refl _) (Nat.le_refl _) rfl rfl
  | succ r ih =>
    intro t ht
    have L := ih (t + 1) (by omega)
    have G := c_T_get (N := N) (sc := sc) (x := x) (m := m) (tl := tl) 1 t (by omega)
    rw [show 1 * 6 + t = 6 + t by omega, hVx t (by omega)] at G
    have D := c_S_percentOf (N := N) (sc := sc) (m := m) (tl := tl) hs (al B nb way) t (by omega) (by omega) (ks_al t (by omega))
    rw [sN, ← nI_add, ← pk_mul] at L
    repeat (refine mw_step rfl ?_)
    refine mw_brT rfl (n_lt (b := 6) (by omega) (by omega)) ?_
    repeat (refine mw_step rfl ?_)
    refine mw_call (G) rfl rfl (Nat.le_of_ble_eq_true rfl) (Nat.le_refl _) (Nat.le_refl _) ?_
    repeat (refine mw_step rfl ?_)
    refine mw_call (D) rfl rfl (Nat.le_of_ble_eq_true rfl) (Nat.le_refl _) (Nat.le_refl _) ?_
    repeat (refine mw_to 21 rfl rfl ?_)
    rw [nI_1]
    refine mw_pick [0, 1, 2, 4, 5] rfl ?_
    exact L
theorem c_C_worth (hI : CI T B x P) (hF : PF T P nbF wyF) (hV : ∀ k, V k ≤ 99) (hVx : VL x V) (k : Nat) (hk : k < P.length) : ∃ x' P', CR T x x' P P' ∧ MC M_C_worthOf 6 0 0 [.ref 5, .ref (2 * k + 67)] (heap sc x m P) (some (.int (nI (sp_pr V B (nbF k) (wyF k))))) (heap sc x' m P') := by
  obtain ⟨c1, lk, th, c2, c3, c4, c5, c6⟩ := hF k P[k] (List.getElem?_eq_getElem hk)
  obtain ⟨x', P', q, h1, h2, h3, h4, h5, C⟩ := c_wF (sc := sc) (m := m) hI (List.getElem?_eq_getElem hk) c2 c3 c4 c5
  refine ⟨x', P', h1, ?_⟩
  rw [c1, c6]
  have hVx' : VL x' V := by
    obtain ⟨⟨a1, a2, a3, rfl⟩, -⟩ := h1
    exact hVx
  refine mc_of k1_C_worthOf k2_C_worthOf (Nat.le_of_ble_eq_true rfl) ?_
  unfold heap at C ⊢
  repeat (refine mw_step rfl ?_)
  refine mw_call (C) rfl rfl (Nat.le_of_ble_eq_true rfl) (Nat.le_refl _) (Nat.le_refl _) ?_
  repeat (refine mw_to 21 rfl rfl ?_)
  refine mw_pick [0, 1, 2, 4, 5] rfl ?_
  exact l_C_worth (WOK_of hI.2.2.1 _ _) hV hVx' h5 _ 6 0 (by omega)
theorem VL_of {x' : XS} {P' : List PieceS} (h : VL x V) (h1 : CR T x x' P P') : VL x' V := by
  obtain ⟨⟨a1, a2, a3, rfl⟩, -⟩ := h1
  exact h
theorem l_C_price (hV : ∀ k, V k ≤ 99) : ∀ r t x P, CI T B x P → PF T P nbF wyF → VL x V → t + r = P.length → ∃ x' P', CR T x x' P P' ∧ MW M_C_price 7 0 0 (some (.int (nI (sN (fun i => sp_pr V B (nbF i) (wyF i)) P.length)))) (heap sc x' m P') 0 0 29 [(0, .ref 5), (2, .int (nI (sN (fun i => sp_pr V B (nbF i) (wyF i)) t))), (3, .int (nI t))] [] (heap sc x m P) := by
  intro r
  induction r with
  | zero =>
    intro t x P hI hF hVx ht
    refine ⟨x, P, CR_refl hI, ?_⟩
    have h8 := hI.2.2.2.1
    rw [show t = P.length by omega]
    unfold heap
    repeat (refine mw_step rfl ?_)
    refine mw_brF rfl (n_nlt (by omega) (by omega)) ?_
    repeat (refine mw_step rfl ?_)
    exact mw_r1 rfl trivial (Nat.le_refl _) (Nat.le_refl _) rfl rfl
  | succ r ih =>
    intro t x P hI hF hVx ht
    have h8 := hI.2.2.2.1
    obtain ⟨x1, P1, h1, C⟩ := c_C_worth (sc := sc) (m := m) hI hF hV hVx t (by omega)
    have hl := h1.2.1
    obtain ⟨x2, P2, h2, K⟩ := ih (t + 1) x1 P1 (CI_of hI h1) (PF_of hF h1) (VL_of hVx h1) (by omega)
    refine ⟨x2, P2, CR_trans h1 h2, ?_⟩
    rw [hl, show sN (fun i => sp_pr V B (nbF i) (wyF i)) (t + 1) = sN (fun i => sp_pr V B (nbF i) (wyF i)) t + sp_pr V B (nbF t) (wyF t) from rfl, ← nI_add] at K
    unfold heap at C K ⊢
    repeat (refine mw_step rfl ?_)
    refine mw_brT rfl (n_lt (by omega) (by omega)) ?_
    repeat (refine mw_step rfl ?_)
    refine mw_call (c_pieceAt t h8 (by omega)) rfl rfl (Nat.le_of_ble_eq_true rfl) (Nat.le_refl _) (Nat.le_refl _) ?_
    refine mw_call (C) rfl rfl (Nat.le_of_ble_eq_true rfl) (Nat.le_refl _) (Nat.le_refl _) ?_
    repeat (refine mw_to 29 rfl rfl ?_)
    rw [nI_1]
    refine mw_pick [0, 2, 3] rfl ?_
    exact K
theorem c_C_price_all (hI : CI T B x P) (hF : PF T P nbF wyF) (hV : ∀ k, V k ≤ 99) (hVx : VL x V) : ∃ x' P', CR T x x' P P' ∧ MC M_C_price 7 0 0 [.ref 5, .int (-1)] (heap sc x m P) (some (.int (nI (sN (fun i => sp_pr V B (nbF i) (wyF i)) P.length)))) (heap sc x' m P') := by
  obtain ⟨x', P', h1, K⟩ := l_C_price (sc := sc) (m := m) (T := T) (B := B) (nbF := nbF) (wyF := wyF) hV P.length 0 x P hI hF hVx (by omega)
  refine ⟨x', P', h1, ?_⟩
  refine mc_of k1_C_price k2_C_price (Nat.le_of_ble_eq_true rfl) ?_
  repeat (refine mw_step rfl ?_)
  refine mw_brT rfl (rfl) ?_
  repeat (refine mw_to 29 rfl rfl ?_)
  refine mw_pick [0, 2, 3] rfl ?_
  exact K
theorem c_C_price_bad (h8 : P.length ≤ 8) (k : Int32) (h1 : ¬ k = -1) (h : ¬ ∃ j, j < P.length ∧ k = nI j) : MC M_C_price 7 0 0 [.ref 5, .int k] (heap sc x m P) (some (.int (-1))) (heap sc x m P) := by
  refine mc_of k1_C_price k2_C_price (Nat.le_of_ble_eq_true rfl) ?_
  unfold heap
  repeat (refine mw_step rfl ?_)
  refine mw_brF rfl (h1) ?_
  repeat (refine mw_step rfl ?_)
  refine mw_call (c_pieceAt_bad _ h8 h) rfl rfl (Nat.le_of_ble_eq_true rfl) (Nat.le_refl _) (Nat.le_refl _) ?_
  repeat (refine mw_step rfl ?_)
  exact mw_r1 rfl trivial (Nat.le_refl _) (Nat.le_refl _) rfl rfl
theorem c_C_price (hI : CI T B x P) (hF : PF T P nbF wyF) (hV : ∀ k, V k ≤ 99) (hVx : VL x V) (k : Nat) (hk : k < P.length) : ∃ x' P', CR T x x' P P' ∧ MC M_C_price 7 0 0 [.ref 5, .int (nI k)] (heap sc x m P) (some (.int (nI (sp_pr V B (nbF k) (wyF k))))) (heap sc x' m P') := by
  have h8 := hI.2.2.2.1
  obtain ⟨x', P', h1, C⟩ := c_C_worth (sc := sc) (m := m) hI hF hV hVx k hk
  refine ⟨x', P', h1, ?_⟩
  refine mc_of k1_C_price k2_C_price (Nat.le_of_ble_eq_true rfl) ?_
  unfold heap at C ⊢
  repeat (refine mw_step rfl ?_)
  refine mw_brF rfl (n_neq (by omega) (by decide)) ?_
  repeat (refine mw_step rfl ?_)
  refine mw_call (c_pieceAt k h8 hk) rfl rfl (Nat.le_of_ble_eq_true rfl) (Nat.le_refl _) (Nat.le_refl _) ?_
  repeat (refine mw_step rfl ?_)
  refine mw_call (C) rfl rfl (Nat.le_of_ble_eq_true rfl) (Nat.le_refl _) (Nat.le_refl _) ?_
  exact mw_r1 rfl trivial (Nat.le_refl _) (Nat.le_refl _) rfl rfl
/-- believed -/
theorem c_bel (hI : CI T B x P) (hp : P[k]? = some p) (mk : Nat) (hmk : mk < 64) : ∃ x' P', CR T x x' P P' ∧ MC M_C_beliefInMade 5 0 0 [.ref 5, .ref (2 * k + 67), .int (nI mk)] (heap sc x m P) (some (.int (nI (sp_pct B (nbP T p) (wayB 63 mk) 0)))) (heap sc x' m P') := by
  have hk : k < P.length := (List.getElem?_eq_some_iff.mp hp).1
  have hW : WOK B (nbP T p) := WOK_of hI.2.2.1 _ _
  have b1 := al_le (way := wayB 63 mk) hW
  obtain ⟨stk, q, sm, s1, s2, s3, s4, C⟩ := c_S_weigh (N := P.length) (sc := sc) (m := m) hI.1 hI.2.1 hW hp (hI.2.2.2.2 k p hp).1 63 mk (by omega) hmk
  have D := c_S_percentOf (N := P.length) (sc := sc) (m := m) (tl := pcells 67 (P.set k q)) (x := xS_sums_s (xW_stack_s x stk) sm) (f := ks B (nbP T p) (wayB 63 mk)) s4 (al B (nbP T p) (wayB 63 mk)) 0 (by omega) (by omega) (ks_al 0 (by omega))
  refine ⟨xsc x stk (sm, xS_ways x, xS_merged x, xS_prod x), P.set k q, CR_set hI hp s1 s2 _ _, ?_⟩
  unfold heap
  rw [List.length_set]
  refine mc_of k1_C_beliefInMade k2_C_beliefInMade (Nat.le_of_ble_eq_true rfl) ?_
  repeat (refine mw_step rfl ?_)
  refine mw_call (C) rfl rfl (Nat.le_of_ble_eq_true rfl) (Nat.le_refl _) (Nat.le_refl _) ?_
  refine mw_call (D) rfl rfl (Nat.le_of_ble_eq_true rfl) (Nat.le_refl _) (Nat.le_refl _) ?_
  exact mw_r1 rfl trivial (Nat.le_refl _) (Nat.le_refl _) rfl rfl
theorem c_C_believed_bad (h8 : P.length ≤ 8) (k mk : Int32) (h : ¬ ((∃ j, j < P.length ∧ k = nI j) ∧ (0 ≤ mk ∧ mk ≤ nI 63))) : MC M_C_believed 6 0 0 [.ref 5, .int k, .int mk] (heap sc x m P) (some (.int (-1))) (heap sc x m P) := by
  refine mc_of k1_C_believed k2_C_believed (Nat.le_of_ble_eq_true rfl) ?_
  unfold heap
  repeat (refine mw_step rfl ?_)
  by_cases hk : ∃ j, j < P.length ∧ k = nI j
  · have hk' := hk
    obtain ⟨k, hk, rfl⟩ := hk
    refine mw_call (c_pieceAt k h8 hk) rfl rfl (Nat.le_of_ble_eq_true rfl) (Nat.le_refl _) (Nat.le_refl _) ?_
    repeat (refine mw_step rfl ?_)
    refine mw_call (c_isSet _ _) rfl rfl (Nat.le_of_ble_eq_true rfl) (Nat.le_refl _) (Nat.le_refl _) ?_
    refine mw_br rfl (fun h1 => ?_) (fun h1 => ?_)
    · repeat (refine mw_step rfl ?_)
      exact mw_r1 rfl trivial (Nat.le_refl _) (Nat.le_refl _) rfl rfl
    · exact absurd ⟨hk', bI_of h1⟩ h
  · refine mw_call (c_pieceAt_bad _ h8 hk) rfl rfl (Nat.le_of_ble_eq_true rfl) (Nat.le_refl _) (Nat.le_refl _) ?_
    repeat (refine mw_step rfl ?_)
    exact mw_r1 rfl trivial (Nat.le_refl _) (Nat.le_refl _) rfl rfl
theorem c_C_believed (hI : CI T B x P) (hp : P[k]? = some p) (mk : Nat) (hmk : mk < 64) : ∃ x' P', CR T x x' P P' ∧ MC M_C_believed 6 0 0 [.ref 5, .int (nI k), .int (nI mk)] (heap sc x m P) (some (.int (nI (sp_pct B (nbP T p) (wayB 63 mk) 0)))) (heap sc x' m P') := by
  have hk : k < P.length := (List.getElem?_eq_some_iff.mp hp).1
  obtain ⟨x', P', h1, C⟩ := c_bel (sc := sc) (m := m) hI hp mk hmk
  refine ⟨x', P', h1, ?_⟩
  refine mc_of k1_C_believed k2_C_believed (Nat.le_of_ble_eq_true rfl) ?_
  unfold heap at C ⊢
  repeat (refine mw_step rfl ?_)
  refine mw_call (c_pieceAt k hI.2.2.2.1 hk) rfl rfl (Nat.le_of_ble_eq_true rfl) (Nat.le_refl _) (Nat.le_refl _) ?_
  repeat (refine mw_step rfl ?_)
  refine mw_call (c_isSet _ _) rfl rfl (Nat.le_of_ble_eq_true rfl) (Nat.le_refl _) (Nat.le_refl _) ?_
  refine mw_brF rfl (bI_ne (rng_in (by omega) (by decide))) ?_
  repeat (refine mw_step rfl ?_)
  refine mw_call (C) rfl rfl (Nat.le_of_ble_eq_true rfl) (Nat.le_refl _) (Nat.le_refl _) ?_
  exact mw_r1 rfl trivial (Nat.le_refl _) (Nat.le_refl _) rfl rfl
/-- spoils: the first of the least -/
def sl (c : Nat → Prop) [DecidablePred c] (g : Nat → Nat) : Nat → Int32 × Nat
  | 0 => (-2, 0)
  | t + 1 => if c t then (if (sl c g t).1 = -2 ∨ g t < (sl c g t).2 then (nI t, g t) else sl c g t) else sl c g t
theorem sl_s (c : Nat → Prop) [DecidablePred c] (g : Nat → Nat) (t : Nat) : sl c g (t + 1) = if c t then (if (sl c g t).1 = -2 ∨ g t < (sl c g t).2 then (nI t, g t) else sl c g t) else sl c g t := rfl
theorem sl_c (c : Nat → Prop) [DecidablePred c] (g : Nat → Nat) : ∀ t, t ≤ 64 → sl c g t = (-2, 0) ∨ ∃ j, j < t ∧ sl c g t = (nI j, g j)
  | 0, _ => Or.inl rfl
  | t + 1, h => by
    rw [sl_s]
    have ih := sl_c c g t (by omega)
    split
    · split
      · exact Or.inr ⟨t, by omega, rfl⟩
      · rcases ih with z | ⟨j, hj, z⟩
        · exact Or.inl z
        · exact Or.inr ⟨j, by omega, z⟩
    · rcases ih with z | ⟨j, hj, z⟩
      · exact Or.inl z
      · exact Or.inr ⟨j, by omega, z⟩
theorem sl_neg (c : Nat → Prop) [DecidablePred c] (g : Nat → Nat) (t : Nat) (h : t ≤ 64) : (sl c g t).1 < 0 ↔ (sl c g t).1 = -2 := by
  rcases sl_c c g t h with z | ⟨j, hj, z⟩
  · rw [z]
    decide
  · rw [z]
    exact ⟨fun y => absurd y (nI_pos (by omega)), fun y => absurd y (n_neq (by omega) (by decide))⟩
theorem sl_le (c : Nat → Prop) [DecidablePred c] (g : Nat → Nat) {b : Nat} (hg : ∀ j, g j ≤ b) (t : Nat) (h : t ≤ 64) : (sl c g t).2 ≤ b := by
  rcases sl_c c g t h with z | ⟨j, hj, z⟩
  · rw [z]
    exact Nat.zero_le _
  · rw [z]
    exact hg j
abbrev spC (mk : Nat) : Nat → Prop := fun j => mk.testBit j = true
abbrev spG (B : Nat → Nat) (nb : Nat → Nat → Nat) (mk : Nat) : Nat → Nat := fun j => sp_pct B nb (wayB 63 (mk &&& (2 ^ j ^^^ 63))) 0
theorem l_C_spoils (nb : Nat → Nat → Nat) (mk : Nat) (hmk : mk < 64) : ∀ r t x P, CI T B x P → (∃ p, P[k]? = some p ∧ nb = nbP T p) → t + r = 6 → ∃ x' P', CR T x x' P P' ∧ MW M_C_spoils 6 0 0 (some (.int (sl (spC mk) (spG B nb mk) 6).1)) (heap sc x' m P') 0 0 29 [(0, .ref 5), (2, .int (nI mk)), (3, .ref (2 * k + 67)), (4, .int (sl (spC mk) (spG B nb mk) t).1), (5, .int (nI (sl (spC mk) (spG B nb mk) t).2)), (6, .int (nI t))] [] (heap sc x m P) := by
  intro r
  induction r with
  | zero =>
    intro t x P hI hp ht
    refine ⟨x, P, CR_refl hI, ?_⟩
    rw [show t = 6 by omega]
    unfold heap
    repeat (refine mw_step rfl ?_)
    refine mw_brF rfl (by decide) ?_
    repeat (refine mw_step rfl ?_)
    exact mw_r1 rfl trivial (Nat.le_refl _) (Nat.le_refl _) rfl rfl
  | succ r ih =>
    intro t x P hI hp ht
    have h64 : 2 ^ t < 64 := p2_lt (by omega)
    have hg : ∀ j, spG B nb mk j ≤ 100 := fun j => sp_pct_le (by omega)
    by_cases hb : mk.testBit t = true
    · obtain ⟨p, hp, e⟩ := hp
      have hm2 : mk &&& (2 ^ t ^^^ 63) < 64 := b_and_lt hmk
      obtain ⟨x1, P1, h1, C⟩ := c_bel (sc := sc) (m := m) hI hp (mk &&& (2 ^ t ^^^ 63)) hm2
      rw [← e] at C
      obtain ⟨q, hq, hs, -⟩ := h1.2.2 k p hp
      obtain ⟨x2, P2, h2, K⟩ := ih (t + 1) x1 P1 (CI_of hI h1) ⟨q, hq, by rw [e]; show nbW _ _ _ = nbW _ _ _; rw [hs.1, hs.2.1]⟩ (by omega)
      refine ⟨x2, P2, CR_trans h1 h2, ?_⟩
      have b1 := hg t
      have b2 := sl_le (spC mk) (spG B nb mk) hg t (by omega)
      rw [sl_s (spC mk) (spG B nb mk) t, if_pos (show spC mk t from hb)] at K
      unfold heap at C K ⊢
      repeat (refine mw_step rfl ?_)
      refine mw_brT rfl (n_lt (b := 6) (by omega) (by omega)) ?_
      repeat (refine mw_step rfl ?_)
      refine mw_call (c_hasBit _ _ _) rfl rfl (Nat.le_of_ble_eq_true rfl) (Nat.le_refl _) (Nat.le_refl _) ?_
      refine mw_brF rfl (bI_ne ((b_has _ hmk _ (by omega)).mpr hb)) ?_
      repeat (refine mw_step rfl ?_)
      rw [b_sh t (by omega), b_andn mk hmk _ h64]
      refine mw_call (C) rfl rfl (Nat.le_of_ble_eq_true rfl) (Nat.le_refl _) (Nat.le_refl _) ?_
      repeat (refine mw_step rfl ?_)
      by_cases hn : (sl (spC mk) (spG B nb mk) t).1 = -2
      · rw [if_pos (Or.inl hn)] at K
        refine mw_brT rfl (hn) ?_
        repeat (refine mw_to 29 rfl rfl ?_)
        rw [nI_1]
        refine mw_pick [0, 2, 3, 4, 5, 6] rfl ?_
        exact K
      · refine mw_brF rfl (hn) ?_
        repeat (refine mw_step rfl ?_)
        by_cases hl : spG B nb mk t < (sl (spC mk) (spG B nb mk) t).2
        · rw [if_pos (Or.inr hl)] at K
          refine mw_brT rfl (n_lt hl (by omega)) ?_
          repeat (refine mw_to 29 rfl rfl ?_)
          rw [nI_1]
          refine mw_pick [0, 2, 3, 4, 5, 6] rfl ?_
          exact K
        · rw [if_neg (fun z => z.elim hn hl)] at K
          refine mw_brF rfl (n_nlt (a := spG B nb mk t) (by omega) (by omega)) ?_
          repeat (refine mw_to 29 rfl rfl ?_)
          rw [nI_1]
          refine mw_pick [0, 2, 3, 4, 5, 6] rfl ?_
          exact K
    · obtain ⟨x2, P2, h2, K⟩ := ih (t + 1) x P hI hp (by omega)
      refine ⟨x2, P2, h2, ?_⟩
      rw [sl_s (spC mk) (spG B nb mk) t, if_neg (show ¬ spC mk t from hb)] at K
      unfold heap at K ⊢
      repeat (refine mw_step rfl ?_)
      refine mw_brT rfl (n_lt (b := 6) (by omega) (by omega)) ?_
      repeat (refine mw_step rfl ?_)
      refine mw_call (c_hasBit _ _ _) rfl rfl (Nat.le_of_ble_eq_true rfl) (Nat.le_refl _) (Nat.le_refl _) ?_
      refine mw_brT rfl (bI_f (fun z => hb ((b_has _ hmk _ (by omega)).mp z))) ?_
      repeat (refine mw_to 29 rfl rfl ?_)
      rw [nI_1]
      refine mw_pick [0, 2, 3, 4, 5, 6] rfl ?_
      exact K
theorem c_C_spoils_bad (h8 : P.length ≤ 8) (k mk : Int32) (h : ¬ ((∃ j, j < P.length ∧ k = nI j) ∧ (0 ≤ mk ∧ mk ≤ nI 63))) : MC M_C_spoils 6 0 0 [.ref 5, .int k, .int mk] (heap sc x m P) (some (.int (-1))) (heap sc x m P) := by
  refine mc_of k1_C_spoils k2_C_spoils (Nat.le_of_ble_eq_true rfl) ?_
  unfold heap
  repeat (refine mw_step rfl ?_)
  by_cases hk : ∃ j, j < P.length ∧ k = nI j
  · have hk' := hk
    obtain ⟨k, hk, rfl⟩ := hk
    refine mw_call (c_pieceAt k h8 hk) rfl rfl (Nat.le_of_ble_eq_true rfl) (Nat.le_refl _) (Nat.le_refl _) ?_
    repeat (refine mw_step rfl ?_)
    refine mw_call (c_isSet _ _) rfl rfl (Nat.le_of_ble_eq_true rfl) (Nat.le_refl _) (Nat.le_refl _) ?_
    refine mw_br rfl (fun h1 => ?_) (fun h1 => ?_)
    · repeat (refine mw_step rfl ?_)
      exact mw_r1 rfl trivial (Nat.le_refl _) (Nat.le_refl _) rfl rfl
    · exact absurd ⟨hk', bI_of h1⟩ h
  · refine mw_call (c_pieceAt_bad _ h8 hk) rfl rfl (Nat.le_of_ble_eq_true rfl) (Nat.le_refl _) (Nat.le_refl _) ?_
    repeat (refine mw_step rfl ?_)
    exact mw_r1 rfl trivial (Nat.le_refl _) (Nat.le_refl _) rfl rfl
theorem c_C_spoils (hI : CI T B x P) (hp : P[k]? = some p) (mk : Nat) (hmk : mk < 64) : ∃ x' P', CR T x x' P P' ∧ MC M_C_spoils 6 0 0 [.ref 5, .int (nI k), .int (nI mk)] (heap sc x m P) (some (.int (sl (spC mk) (spG B (nbP T p) mk) 6).1)) (heap sc x' m P') := by
  have hk : k < P.length := (List.getElem?_eq_some_iff.mp hp).1
  obtain ⟨x', P', h1, K⟩ := l_C_spoils (sc := sc) (m := m) (k := k) (T := T) (B := B) (nbP T p) mk hmk 6 0 x P hI ⟨p, hp, rfl⟩ (by omega)
  refine ⟨x', P', h1, ?_⟩
  refine mc_of k1_C_spoils k2_C_spoils (Nat.le_of_ble_eq_true rfl) ?_
  unfold heap at K ⊢
  repeat (refine mw_step rfl ?_)
  refine mw_call (c_pieceAt k hI.2.2.2.1 hk) rfl rfl (Nat.le_of_ble_eq_true rfl) (Nat.le_refl _) (Nat.le_refl _) ?_
  repeat (refine mw_step rfl ?_)
  refine mw_call (c_isSet _ _) rfl rfl (Nat.le_of_ble_eq_true rfl) (Nat.le_refl _) (Nat.le_refl _) ?_
  refine mw_brF rfl (bI_ne (rng_in (by omega) (by decide))) ?_
  repeat (refine mw_to 29 rfl rfl ?_)
  refine mw_pick [0, 2, 3, 4, 5, 6] rfl ?_
  exact K
end PR
