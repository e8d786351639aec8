/-! whole, price: both sides -/
def w_all (v : Nat → Nat) : Nat → Nat
  | 0 => 100
  | i + 1 => w_all v i * v i / 100
def w_n0 (v : Nat → Nat) : Nat → Nat
  | 0 => 1
  | i + 1 => w_n0 v i * v i
def w_o1 (v : Nat → Nat) : Nat → Nat
  | 0 => 0
  | i + 1 => w_o1 v i * v i + w_n0 v i * (100 - v i)
def w_mo (v : Nat → Nat) : Nat → Nat
  | 0 => 0
  | i + 1 => w_mo v i * 100 + w_o1 v i * (100 - v i)
theorem w_sum {v : Nat → Nat} (hv : ∀ i, v i ≤ 100) : ∀ i, w_mo v i + w_o1 v i + w_n0 v i = 100 ^ i
  | 0 => rfl
  | i + 1 => by
    have ih := w_sum hv i
    have h := hv i
    have e1 : w_o1 v i * (100 - v i) + w_o1 v i * v i = w_o1 v i * 100 := by rw [← Nat.mul_add, Nat.sub_add_cancel h]
    have e2 : w_n0 v i * (100 - v i) + w_n0 v i * v i = w_n0 v i * 100 := by rw [← Nat.mul_add, Nat.sub_add_cancel h]
    rw [w_mo, w_o1, w_n0, Nat.pow_succ, ← ih]
    omega
theorem w_all_le {v : Nat → Nat} (hv : ∀ i, v i ≤ 100) : ∀ i, w_all v i ≤ 100
  | 0 => Nat.le_refl _
  | i + 1 => by
    have := Nat.mul_le_mul (w_all_le hv i) (hv i)
    rw [w_all]
    omega
theorem w_bd {v : Nat → Nat} (hv : ∀ i, v i ≤ 100) (i : Nat) (hi : i ≤ 8) : w_mo v i ≤ 10000000000000000 ∧ w_o1 v i ≤ 10000000000000000 ∧ w_n0 v i ≤ 10000000000000000 := by
  have h := w_sum hv i
  have h2 : 100 ^ i ≤ 100 ^ 8 := Nat.pow_le_pow_right (by omega) hi
  have h3 : 100 ^ 8 = 10000000000000000 := rfl
  omega
def f_fi : Nat → Nat
  | 0 => 1
  | i + 1 => if i < 2 then 1 else f_fi i * 100
theorem f_fi_eq : ∀ n, f_fi n = 100 ^ (n - 2)
  | 0 => rfl
  | 1 => rfl
  | 2 => rfl
  | n + 3 => by
    rw [f_fi, if_neg (by omega), f_fi_eq (n + 2), show n + 2 - 2 = n by omega, show n + 3 - 2 = n + 1 by omega, Nat.pow_succ]
def sp_two (v : Nat → Nat) (n : Nat) : Nat := w_mo v n / 100 ^ (n - 2)
/-- every piece's numbers and ways -/
def PF (T : Nat → Option Tx) (P : List PieceS) (nbF : Nat → Nat → Nat → Nat) (wyF : Nat → Nat → Nat) : Prop := ∀ (i : Nat) (p : PieceS), P[i]? = some p → nbF i = nbW T (i_wood p) (i_place p) ∧ ∃ lk th, lk < 64 ∧ th < 64 ∧ i_looked p = nI lk ∧ i_there p = nI th ∧ wyF i = wayB lk th
section PFS
variable {T : Nat → Option Tx} {B : Nat → Nat} {x x' : XS} {P P' : List PieceS} {nbF : Nat → Nat → Nat → Nat} {wyF : Nat → Nat → Nat} {sc : Nat × (Nat → Int32)} {m : OS}
theorem PF_of (h : PF T P nbF wyF) (hc : CR T x x' P P') : PF T P' nbF wyF := by
  intro i q hq
  have hj : i < P.length := by
    have := (List.getElem?_eq_some_iff.mp hq).1
    have := hc.2.1
    omega
  obtain ⟨r, hr, b1, b2⟩ := hc.2.2 i P[i] (List.getElem?_eq_getElem hj)
  rw [hq] at hr
  cases hr
  obtain ⟨c1, lk, th, c2, c3, c4, c5, c6⟩ := h i P[i] (List.getElem?_eq_getElem hj)
  exact ⟨by rw [c1, b1.1, b1.2.1], lk, th, c2, c3, b1.2.2.1.trans c4, b1.2.2.2.trans c5, c6⟩
/-- percent of a piece, by its number -/
theorem c_pctF (hI : CI T B x P) (hF : PF T P nbF wyF) (k : Nat) (hk : k < P.length) (kd : Nat) (hkd : kd < 6) : ∃ x' P', CR T x x' P P' ∧ MC M_S_percentFound 6 0 0 [.ref 18, .ref (2 * k + 67), .int (nI kd)] (heap sc x m P) (some (.int (nI (sp_pct B (nbF k) (wyF k) kd)))) (heap sc x' m P') := by
  obtain ⟨c1, lk, th, c2, c3, c4, c5, c6⟩ := hF k P[k] (List.getElem?_eq_getElem hk)
  rw [c1, c6]
  exact c_S_percentFound hI (List.getElem?_eq_getElem hk) c2 c3 c4 c5 kd hkd
theorem l_C_allTrue (v : Nat → Nat) (hv : v = fun i => sp_pct B (nbF i) (wyF i) 0) : ∀ r t x P, CI T B x P → PF T P nbF wyF → t + r = P.length → ∃ x' P', CR T x x' P P' ∧ MW M_C_allTrue 7 0 0 (some (.int (nI (w_all v P.length)))) (heap sc x' m P') 0 0 5 [(0, .ref 5), (1, .int (nI (w_all v t))), (2, .int (nI t))] [] (heap sc x m P) := by
  have hv1 : ∀ i, v i ≤ 100 := fun i => by rw [hv]; exact sp_pct_le (by omega)
  intro r
  induction r with
  | zero =>
    intro t x P hI hF ht
    refine ⟨x, P, CR_refl hI, ?_⟩
    have h8 := hI.2.2.2.1
    rw [show t = P.length by omega]
    unfold heap
    repeat (refine mw_step rfl ?_)
    refine mw_brF rfl (n_nlt (by omega) (by omega)) ?_
    repeat (refine mw_step rfl ?_)
    exact mw_r1 rfl trivial (Nat.le_refl _) (Nat.le_refl _) rfl rfl
  | succ r ih =>
    intro t x P hI hF ht
    have h8 := hI.2.2.2.1
    obtain ⟨x1, P1, h1, C⟩ := c_pctF (sc := sc) (m := m) hI hF t (by omega) 0 (by omega)
    have hl := h1.2.1
    obtain ⟨x2, P2, h2, K⟩ := ih (t + 1) x1 P1 (CI_of hI h1) (PF_of hF h1) (by omega)
    refine ⟨x2, P2, CR_trans h1 h2, ?_⟩
    have b1 := w_all_le hv1 t
    have b2 := hv1 t
    have b3 := Nat.mul_le_mul b1 b2
    have e0 : sp_pct B (nbF t) (wyF t) 0 = v t := by rw [hv]
    rw [e0] at C
    rw [hl, show w_all v (t + 1) = w_all v t * v t / 100 from rfl] at K
    unfold heap at C K ⊢
    repeat (refine mw_step rfl ?_)
    refine mw_brT rfl (n_lt (by omega) (by omega)) ?_
    repeat (refine mw_step rfl ?_)
    refine mw_call (c_pieceAt t h8 (by omega)) rfl rfl (Nat.le_of_ble_eq_true rfl) (Nat.le_refl _) (Nat.le_refl _) ?_
    repeat (refine mw_step rfl ?_)
    refine mw_call (C) rfl rfl (Nat.le_of_ble_eq_true rfl) (Nat.le_refl _) (Nat.le_refl _) ?_
    repeat (refine mw_step rfl ?_)
    rw [pk_mul]
    refine mw_div rfl (by decide) ?_
    rw [show nI (w_all v t * v t) / 100 = nI (w_all v t * v t / 100) from pk_div (d := 100) (by omega) (by omega) (by omega)]
    repeat (refine mw_to 5 rfl rfl ?_)
    rw [nI_1]
    refine mw_pick [0, 1, 2] rfl ?_
    exact K
theorem c_C_allTrue (v : Nat → Nat) (hv : v = fun i => sp_pct B (nbF i) (wyF i) 0) (hI : CI T B x P) (hF : PF T P nbF wyF) : ∃ x' P', CR T x x' P P' ∧ MC M_C_allTrue 7 0 0 [.ref 5] (heap sc x m P) (some (.int (nI (w_all v P.length)))) (heap sc x' m P') := by
  obtain ⟨x', P', h1, K⟩ := l_C_allTrue (sc := sc) (m := m) v hv P.length 0 x P hI hF (by omega)
  refine ⟨x', P', h1, ?_⟩
  refine mc_of k1_C_allTrue k2_C_allTrue (Nat.le_of_ble_eq_true rfl) ?_
  repeat (refine mw_to 5 rfl rfl ?_)
  refine mw_pick [0, 1, 2] rfl ?_
  exact K
theorem l_C_two (v : Nat → Nat) (hv : v = fun i => sp_pct B (nbF i) (wyF i) 0) : ∀ r t x P, CI T B x P → PF T P nbF wyF → t + r = P.length → ∃ x' P', CR T x x' P P' ∧ MW M_C_atLeastTwoNot 7 0 0 (some (.int (nI (sp_two v P.length)))) (heap sc x' m P') 0 0 13 [(0, .ref 5), (1, .long (lN (w_n0 v t))), (3, .long (lN (w_o1 v t))), (5, .long (lN (w_mo v t))), (7, .long (lN (f_fi t))), (9, .int (nI t))] [] (heap sc x m P) := by
  have hv1 : ∀ i, v i ≤ 100 := fun i => by rw [hv]; exact sp_pct_le (by omega)
  intro r
  induction r with
  | zero =>
    intro t x P hI hF ht
    refine ⟨x, P, CR_refl hI, ?_⟩
    have h8 := hI.2.2.2.1
    have ht' : t = P.length := by omega
    have hb := w_bd hv1 P.length h8
    have hp1 : 0 < 100 ^ (P.length - 2) := Nat.pow_pos (by omega)
    have hp2 : 100 ^ (P.length - 2) ≤ 100 ^ 8 := Nat.pow_le_pow_right (by omega) (by omega)
    have hp3 : 100 ^ 8 = 10000000000000000 := rfl
    rw [ht', f_fi_eq]
    unfold heap
    repeat (refine mw_step rfl ?_)
    refine mw_brF rfl (n_nlt (by omega) (by omega)) ?_
    repeat (refine mw_step rfl ?_)
    refine mw_brF rfl (by rw [lg_eq0]; exact fun e => by have := (pk_lEQ (b := 0) (by omega) (by omega)).mp e; omega) ?_
    repeat (refine mw_step rfl ?_)
    refine mw_div rfl (fun e => by have := (pk_lEQ (b := 0) (by omega) (by omega)).mp e; omega) ?_
    rw [pk_lDiv (by omega) (by omega) (by omega)]
    repeat (refine mw_step rfl ?_)
    rw [lN_i]
    exact mw_r1 rfl trivial (Nat.le_refl _) (Nat.le_refl _) rfl rfl
  | succ r ih =>
    intro t x P hI hF ht
    have h8 := hI.2.2.2.1
    obtain ⟨x1, P1, h1, C⟩ := c_pctF (sc := sc) (m := m) hI hF t (by omega) 0 (by omega)
    have hl := h1.2.1
    obtain ⟨x2, P2, h2, K⟩ := ih (t + 1) x1 P1 (CI_of hI h1) (PF_of hF h1) (by omega)
    refine ⟨x2, P2, CR_trans h1 h2, ?_⟩
    have b2 := hv1 t
    have e0 : sp_pct B (nbF t) (wyF t) 0 = v t := by rw [hv]
    rw [e0] at C
    rw [hl, show w_n0 v (t + 1) = w_n0 v t * v t from rfl, show w_o1 v (t + 1) = w_o1 v t * v t + w_n0 v t * (100 - v t) from rfl, show w_mo v (t + 1) = w_mo v t * 100 + w_o1 v t * (100 - v t) from rfl, ← lN_add, ← lN_add, ← lN_mul, ← lN_mul, ← lN_mul, ← lN_mul, ← lN_mul, ← lN_sub b2, ← nI_l (n := v t) (by omega)] at K
    unfold heap at C K ⊢
    repeat (refine mw_step rfl ?_)
    refine mw_brT rfl (n_lt (by omega) (by omega)) ?_
    repeat (refine mw_step rfl ?_)
    refine mw_call (c_pieceAt t h8 (by omega)) rfl rfl (Nat.le_of_ble_eq_true rfl) (Nat.le_refl _) (Nat.le_refl _) ?_
    repeat (refine mw_step rfl ?_)
    refine mw_call (C) rfl rfl (Nat.le_of_ble_eq_true rfl) (Nat.le_refl _) (Nat.le_refl _) ?_
    repeat (refine mw_step rfl ?_)
    by_cases h3 : t < 2
    · rw [show f_fi (t + 1) = if t < 2 then 1 else f_fi t * 100 from rfl, if_pos h3] at K
      refine mw_brT rfl (n_lt (b := 2) h3 (by omega)) ?_
      repeat (refine mw_to 13 rfl rfl ?_)
      rw [nI_1]
      refine mw_pick [0, 1, 3, 5, 7, 9] rfl ?_
      exact K
    · rw [show f_fi (t + 1) = if t < 2 then 1 else f_fi t * 100 from rfl, if_neg h3, ← lN_mul] at K
      refine mw_brF rfl (n_nlt (b := 2) (by omega) (by omega)) ?_
      repeat (refine mw_to 13 rfl rfl ?_)
      rw [nI_1]
      refine mw_pick [0, 1, 3, 5, 7, 9] rfl ?_
      exact K
theorem c_C_two (v : Nat → Nat) (hv : v = fun i => sp_pct B (nbF i) (wyF i) 0) (hI : CI T B x P) (hF : PF T P nbF wyF) : ∃ x' P', CR T x x' P P' ∧ MC M_C_atLeastTwoNot 7 0 0 [.ref 5] (heap sc x m P) (some (.int (nI (sp_two v P.length)))) (heap sc x' m P') := by
  obtain ⟨x', P', h1, K⟩ := l_C_two (sc := sc) (m := m) v hv P.length 0 x P hI hF (by omega)
  refine ⟨x', P', h1, ?_⟩
  refine mc_of k1_C_atLeastTwoNot k2_C_atLeastTwoNot (Nat.le_of_ble_eq_true rfl) ?_
  repeat (refine mw_to 13 rfl rfl ?_)
  refine mw_pick [0, 1, 3, 5, 7, 9] rfl ?_
  exact K
def sp_whole (v : Nat → Nat) (n : Nat) (what : Int32) : Int32 := if what = 0 then nI (w_all v n) else nI (sp_two v n)
theorem c_C_whole_bad {N : Nat} {tl : MH} (what : Int32) (h : ¬ (0 ≤ what ∧ what ≤ nI 1)) : MC M_C_whole 8 0 0 [.ref 5, .int what] (heapN N sc x m tl) (some (.int (-1))) (heapN N sc x m tl) := by
  refine mc_of k1_C_whole k2_C_whole (Nat.le_of_ble_eq_true rfl) ?_
  repeat (refine mw_step rfl ?_)
  refine mw_call (c_within _ _ _ _) rfl rfl (Nat.le_of_ble_eq_true rfl) (Nat.le_refl _) (Nat.le_refl _) ?_
  refine mw_brT rfl (bI_f h) ?_
  repeat (refine mw_step rfl ?_)
  exact mw_r1 rfl trivial (Nat.le_refl _) (Nat.le_refl _) rfl rfl
theorem c_C_whole (v : Nat → Nat) (hv : v = fun i => sp_pct B (nbF i) (wyF i) 0) (hI : CI T B x P) (hF : PF T P nbF wyF) (what : Int32) (hw : 0 ≤ what ∧ what ≤ nI 1) : ∃ x' P', CR T x x' P P' ∧ MC M_C_whole 8 0 0 [.ref 5, .int what] (heap sc x m P) (some (.int (sp_whole v P.length what))) (heap sc x' m P') := by
  rcases (n_01 what).mp hw with rfl | rfl
  · obtain ⟨x', P', h1, C⟩ := c_C_allTrue (sc := sc) (m := m) v hv hI hF
    refine ⟨x', P', h1, ?_⟩
    refine mc_of k1_C_whole k2_C_whole (Nat.le_of_ble_eq_true rfl) ?_
    unfold heap at C ⊢
    repeat (refine mw_step rfl ?_)
    refine mw_call (c_within _ _ _ _) rfl rfl (Nat.le_of_ble_eq_true rfl) (Nat.le_refl _) (Nat.le_refl _) ?_
    refine mw_brF rfl (bI_ne hw) ?_
    repeat (refine mw_step rfl ?_)
    refine mw_brT rfl (rfl) ?_
    repeat (refine mw_step rfl ?_)
    refine mw_call (C) rfl rfl (Nat.le_of_ble_eq_true rfl) (Nat.le_refl _) (Nat.le_refl _) ?_
    repeat (refine mw_step rfl ?_)
    exact mw_r1 rfl trivial (Nat.le_refl _) (Nat.le_refl _) rfl rfl
  · obtain ⟨x', P', h1, C⟩ := c_C_two (sc := sc) (m := m) v hv hI hF
    refine ⟨x', P', h1, ?_⟩
    refine mc_of k1_C_whole k2_C_whole (Nat.le_of_ble_eq_true rfl) ?_
    unfold heap at C ⊢
    repeat (refine mw_step rfl ?_)
    refine mw_call (c_within _ _ _ _) rfl rfl (Nat.le_of_ble_eq_true rfl) (Nat.le_refl _) (Nat.le_refl _) ?_
    refine mw_brF rfl (bI_ne hw) ?_
    repeat (refine mw_step rfl ?_)
    refine mw_brF rfl (by decide) ?_
    repeat (refine mw_step rfl ?_)
    refine mw_call (C) rfl rfl (Nat.le_of_ble_eq_true rfl) (Nat.le_refl _) (Nat.le_refl _) ?_
    exact mw_r1 rfl trivial (Nat.le_refl _) (Nat.le_refl _) rfl rfl
end PFS
/-- the same for the reference -/
def OF2 (T : Nat → Option Tx) (n : Nat) (m : OS) (nbF : Nat → Nat → Nat → Nat) (wyF : Nat → Nat → Nat) : Prop := ∀ i, i < n → nbF i = nbW T (zp_wood m i) (zp_place m i) ∧ FW (zp_found m) i (wyF i)
section OFS
variable {T : Nat → Option Tx} {B : Nat → Nat} {n : Nat} {N : Nat} {sc : Nat × (Nat → Int32)} {x : XS} {m m' : OS} {tl : MH} {nbF : Nat → Nat → Nat → Nat} {wyF : Nat → Nat → Nat}
theorem OF2_of (h : OF2 T n m nbF wyF) (hr : OR m m') : OF2 T n m' nbF wyF := by
  obtain ⟨s, w, o, rfl⟩ := hr
  exact h
theorem c_oF2 (hI : OI T B n m) (hF : OF2 T n m nbF wyF) (k : Nat) (hk : k < n) : ∃ m', OR m m' ∧ OSM m' B (nbF k) (wyF k) ∧ WIN m' B (nbF k) (wyF k) ∧ MC M_O_weighsPart 47 0 0 [.ref 39, .int (nI k)] (heapN N sc x m tl) none (heapN N sc x m' tl) := by
  obtain ⟨h1, h2⟩ := hF k hk
  rw [h1]
  exact c_oF hI hk h2
theorem OF2_WOK (hI : OI T B n m) (hF : OF2 T n m nbF wyF) (k : Nat) (hk : k < n) : WOK B (nbF k) := by
  rw [(hF k hk).1]
  exact WOK_of hI.2.2.1 _ _
theorem l_O_whole (v : Nat → Nat) (hv : v = fun i => sp_pct B (nbF i) (wyF i) 0) (what : Int32) : ∀ r t m, OI T B n m → OF2 T n m nbF wyF → t + r = n → ∃ m', OR m m' ∧ ∀ {u : Option Value} {hT : MH}, MW M_O_whole 48 0 0 u hT 0 0 93 [(0, .ref 39), (1, .int what), (2, .int (nI (w_all v n))), (3, .long (lN (w_n0 v n))), (5, .long (lN (w_o1 v n))), (7, .long (lN (100 ^ n)))] [] (heapN N sc x m' tl) → MW M_O_whole 48 0 0 u hT 0 0 26 [(0, .ref 39), (1, .int what), (2, .int (nI (w_all v t))), (3, .long (lN (w_n0 v t))), (5, .long (lN (w_o1 v t))), (7, .long (lN (100 ^ t))), (9, .int (nI t))] [] (heapN N sc x m tl) := by
  have hv1 : ∀ i, v i ≤ 100 := fun i => by rw [hv]; exact sp_pct_le (by omega)
  intro r
  induction r with
  | zero =>
    intro t m hI hF ht
    have h8 := hI.2.2.2.2
    refine ⟨m, OR_refl m, ?_⟩
    intro u hT K
    rw [show t = n by omega]
    repeat (refine mw_step rfl ?_)
    rw [hI.2.2.2.1]
    refine mw_brF rfl (n_nlt (by omega) (by omega)) ?_
    refine mw_pick [0, 1, 2, 3, 5, 7] rfl ?_
    exact K
  | succ r ih =>
    intro t m hI hF ht
    have h8 := hI.2.2.2.2
    obtain ⟨m1, h1, h2, h3, C⟩ := c_oF2 (N := N) (sc := sc) (x := x) (tl := tl) hI hF t (by omega)
    obtain ⟨m2, h4, K⟩ := ih (t + 1) m1 (OI_of hI h1) (OF2_of hF h1) (by omega)
    refine ⟨m2, OR_trans h1 h4, ?_⟩
    intro u hT K2
    have KK := K K2
    have D := c_O_percentNow (N := N) (sc := sc) (x := x) (tl := tl) h2 (OF2_WOK hI hF t (by omega)) 0 (by omega)
    have e0 : ks B (nbF t) (wyF t) 0 * 100 / al B (nbF t) (wyF t) = v t := by rw [hv]; rfl
    rw [e0] at D
    have b1 := w_all_le hv1 t
    have b2 := hv1 t
    have b3 := Nat.mul_le_mul b1 b2
    rw [show w_all v (t + 1) = w_all v t * v t / 100 from rfl, show w_n0 v (t + 1) = w_n0 v t * v t from rfl, show w_o1 v (t + 1) = w_o1 v t * v t + w_n0 v t * (100 - v t) from rfl, Nat.pow_succ, ← lN_add, ← lN_mul, ← lN_mul, ← lN_mul, ← lN_mul, ← nI_l (n := 100 - v t) (by omega), ← pk_sub b2, ← nI_l (n := v t) (by omega)] at KK
    repeat (refine mw_step rfl ?_)
    rw [hI.2.2.2.1]
    refine mw_brT rfl (n_lt (by omega) (by omega)) ?_
    repeat (refine mw_step rfl ?_)
    refine mw_call (C) rfl rfl (Nat.le_of_ble_eq_true rfl) (Nat.le_refl _) (Nat.le_refl _) ?_
    repeat (refine mw_step rfl ?_)
    refine mw_call (D) rfl rfl (Nat.le_of_ble_eq_true rfl) (Nat.le_refl _) (Nat.le_refl _) ?_
    repeat (refine mw_step rfl ?_)
    rw [pk_mul]
    refine mw_div rfl (by decide) ?_
    rw [show nI (w_all v t * v t) / 100 = nI (w_all v t * v t / 100) from pk_div (d := 100) (by omega) (by omega) (by omega)]
    repeat (refine mw_to 26 rfl rfl ?_)
    rw [nI_1]
    refine mw_pick [0, 1, 2, 3, 5, 7, 9] rfl ?_
    exact KK
theorem c_O_whole_bad (what : Int32) (h : ¬ (0 ≤ what ∧ what ≤ nI 1)) : MC M_O_whole 48 0 0 [.ref 39, .int what] (heapN N sc x m tl) (some (.int (-1))) (heapN N sc x m tl) := by
  refine mc_of k1_O_whole k2_O_whole (Nat.le_of_ble_eq_true rfl) ?_
  repeat (refine mw_step rfl ?_)
  refine mw_call (c_withinO32 _ what 0 (nI 1)) rfl rfl (Nat.le_of_ble_eq_true rfl) (Nat.le_refl _) (Nat.le_refl _) ?_
  refine mw_brT rfl (bI_f h) ?_
  repeat (refine mw_step rfl ?_)
  exact mw_r1 rfl trivial (Nat.le_refl _) (Nat.le_refl _) rfl rfl
theorem p_100 (n : Nat) (h : 2 ≤ n) : 100 ^ n / 10000 = 100 ^ (n - 2) := by
  obtain ⟨q, rfl⟩ : ∃ q, n = q + 2 := ⟨n - 2, by omega⟩
  rw [show q + 2 - 2 = q by omega, Nat.pow_add, show 100 ^ 2 = 10000 from rfl, Nat.mul_div_cancel _ (by omega)]
theorem c_O_whole (v : Nat → Nat) (hv : v = fun i => sp_pct B (nbF i) (wyF i) 0) (hI : OI T B n m) (hF : OF2 T n m nbF wyF) (what : Int32) (hw : 0 ≤ what ∧ what ≤ nI 1) : ∃ m', OR m m' ∧ MC M_O_whole 48 0 0 [.ref 39, .int what] (heapN N sc x m tl) (some (.int (sp_whole v n what))) (heapN N sc x m' tl) := by
  have hv1 : ∀ i, v i ≤ 100 := fun i => by rw [hv]; exact sp_pct_le (by omega)
  have h8 := hI.2.2.2.2
  obtain ⟨m', h1, K⟩ := l_O_whole (N := N) (sc := sc) (x := x) (tl := tl) v hv what n 0 m hI hF (by omega)
  have hI' := OI_of hI h1
  have hs := w_sum hv1 n
  have hb := w_bd hv1 n h8
  have hp2 : 100 ^ n ≤ 100 ^ 8 := Nat.pow_le_pow_right (by omega) (by omega)
  have hp3 : 100 ^ 8 = 10000000000000000 := rfl
  refine ⟨m', h1, ?_⟩
  refine mc_of k1_O_whole k2_O_whole (Nat.le_of_ble_eq_true rfl) ?_
  repeat (refine mw_step rfl ?_)
  refine mw_call (c_withinO32 _ what 0 (nI 1)) rfl rfl (Nat.le_of_ble_eq_true rfl) (Nat.le_refl _) (Nat.le_refl _) ?_
  refine mw_brF rfl (bI_ne hw) ?_
  repeat (refine mw_to 26 rfl rfl ?_)
  refine mw_pick [0, 1, 2, 3, 5, 7, 9] rfl ?_
  refine K ?_
  rcases (n_01 what).mp hw with rfl | rfl
  · repeat (refine mw_step rfl ?_)
    refine mw_brT rfl (rfl) ?_
    repeat (refine mw_step rfl ?_)
    exact mw_r1 rfl trivial (Nat.le_refl _) (Nat.le_refl _) rfl rfl
  · repeat (refine mw_step rfl ?_)
    refine mw_brF rfl (by decide) ?_
    repeat (refine mw_step rfl ?_)
    rw [hI'.2.2.2.1]
    show MW _ _ _ _ (some (.int (nI (sp_two v n)))) _ _ _ _ _ _ _
    by_cases h2 : n < 2
    · refine mw_brT rfl (n_lt (b := 2) h2 (by omega)) ?_
      have e : sp_two v n = 0 := by
        have : n = 0 ∨ n = 1 := by omega
        unfold sp_two
        rcases this with rfl | rfl
        · rw [show w_mo v 0 = 0 from rfl, Nat.zero_div]
        · rw [show w_mo v 1 = 0 * 100 + 0 * (100 - v 0) from rfl, Nat.zero_mul, Nat.zero_mul]
      repeat (refine mw_step rfl ?_)
      exact mw_r1 rfl trivial (Nat.le_refl _) (Nat.le_refl _) (by rw [e]; rfl) rfl
    · refine mw_brF rfl (n_nlt (b := 2) (by omega) (by omega)) ?_
      have hp1 : 0 < 100 ^ (n - 2) := Nat.pow_pos (by omega)
      have hp4 : 100 ^ (n - 2) ≤ 100 ^ 8 := Nat.pow_le_pow_right (by omega) (by omega)
      repeat (refine mw_step rfl ?_)
      rw [lN_sub (by omega), lN_sub (by omega)]
      refine mw_div rfl (by decide) ?_
      rw [show (10000 : Int64) = lN 10000 from rfl, pk_lDiv (by omega) (by omega) (by omega), p_100 n (by omega)]
      refine mw_div rfl (fun e => by have := (pk_lEQ (b := 0) (by omega) (by omega)).mp e; omega) ?_
      rw [pk_lDiv (by omega) (by omega) (by omega), show 100 ^ n - w_n0 v n - w_o1 v n = w_mo v n by omega]
      repeat (refine mw_step rfl ?_)
      rw [lN_i]
      exact mw_r1 rfl trivial (Nat.le_refl _) (Nat.le_refl _) rfl rfl
end OFS
