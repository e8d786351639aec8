/-! acts that aren't; what holds between the class and the reference -/
section AB
variable {sc : Nat × (Nat → Int32)} {x : XS} {m : OS} {N n : Nat} {tl : MH}
theorem c_B_kindOf_bad2 (hn : xB_many x = nI n) (h50 : n ≤ 50) (b : Int32) (hb : ¬ ∃ j, j < n ∧ b = nI j) : MC M_B_kindOf 1 0 0 [.ref 27, .int b] (heapN N sc x m tl) (some (.int (-2))) (heapN N sc x m tl) := by
  refine mc_of k1_B_kindOf k2_B_kindOf (Nat.le_of_ble_eq_true rfl) ?_
  repeat (refine mw_step rfl ?_)
  rw [hn]
  refine mw_call (c_within _ _ _ _) rfl rfl (Nat.le_of_ble_eq_true rfl) (Nat.le_refl _) (Nat.le_refl _) ?_
  refine mw_brT rfl (bI_f (fun z => hb (n_predN (by omega) z))) ?_
  repeat (refine mw_step rfl ?_)
  exact mw_r1 rfl trivial (Nat.le_refl _) (Nat.le_refl _) rfl rfl
theorem c_B_run_bad (b a xx : Int32) : MC M_B_run 0 0 0 [.ref 27, .int b, .int (-2), .int a, .int xx, .int 0] (heapN N sc x m tl) (some (.int 0)) (heapN N sc x m tl) := by
  refine mc_of k1_B_run k2_B_run (Nat.le_of_ble_eq_true rfl) ?_
  repeat (refine mw_step rfl ?_)
  refine mw_brT rfl (by decide) ?_
  repeat (refine mw_step rfl ?_)
  refine mw_brF rfl (by decide) ?_
  repeat (refine mw_step rfl ?_)
  refine mw_brT rfl (by decide) ?_
  repeat (refine mw_step rfl ?_)
  exact mw_r1 rfl trivial (Nat.le_refl _) (Nat.le_refl _) rfl rfl
theorem c_C_act_bad (hn : xB_many x = nI n) (h50 : n ≤ 50) (b a xx : Int32) (h : ¬ ((∃ j, j < n ∧ b = nI j) ∧ (0 ≤ a ∧ a ≤ nI 3))) : MC M_C_act 11 0 0 [.ref 5, .int b, .int a, .int xx] (heapN N sc x m tl) (some (.int 0)) (heapN N sc (xB_s x (xB_kinds x, xB_many x, xB_ran x, nI 0)) m tl) := by
  have D : MC M_B_perform 10 0 0 [.ref 27, .int b, .int a, .int xx] (heapN N sc x m tl) (some (.int 0)) (heapN N sc (xB_s x (xB_kinds x, xB_many x, xB_ran x, nI 0)) m tl) := by
    refine mc_of k1_B_perform k2_B_perform (Nat.le_of_ble_eq_true rfl) ?_
    repeat (refine mw_step rfl ?_)
    refine mw_call (c_within _ _ _ _) rfl rfl (Nat.le_of_ble_eq_true rfl) (Nat.le_refl _) (Nat.le_refl _) ?_
    refine mw_br rfl (fun h1 => ?_) (fun h1 => ?_)
    · repeat (refine mw_step rfl ?_)
      exact mw_r1 rfl trivial (Nat.le_refl _) (Nat.le_refl _) rfl rfl
    · repeat (refine mw_step rfl ?_)
      refine mw_call (c_B_kindOf_bad2 (x := xB_s x (xB_kinds x, xB_many x, xB_ran x, nI 0)) hn h50 b (fun z => h ⟨z, bI_of h1⟩)) rfl rfl (Nat.le_of_ble_eq_true rfl) (Nat.le_refl _) (Nat.le_refl _) ?_
      repeat (refine mw_step rfl ?_)
      refine mw_call (c_B_run_bad (x := xB_s x (xB_kinds x, xB_many x, xB_ran x, nI 0)) b a xx) rfl rfl (Nat.le_of_ble_eq_true rfl) (Nat.le_refl _) (Nat.le_refl _) ?_
      repeat (refine mw_step rfl ?_)
      exact mw_r1 rfl trivial (Nat.le_refl _) (Nat.le_refl _) rfl rfl
  refine mc_of k1_C_act k2_C_act (Nat.le_of_ble_eq_true rfl) ?_
  repeat (refine mw_step rfl ?_)
  refine mw_call (D) rfl rfl (Nat.le_of_ble_eq_true rfl) (Nat.le_refl _) (Nat.le_refl _) ?_
  exact mw_r1 rfl trivial (Nat.le_refl _) (Nat.le_refl _) rfl rfl
theorem c_O_act_nob (hn : zb_bodies m = nI n) (h50 : n ≤ 50) (b a xx : Int32) (h : ¬ ∃ j, j < n ∧ b = nI j) : MC M_O_act 8 0 0 [.ref 39, .int b, .int a, .int xx] (heapN N sc x m tl) (some (.int 0)) (heapN N sc x (zb_s m (zb_bodies m, zb_kind m, zb_trace m, nI 0, zb_ownKind m, zb_ownNumber m)) tl) := by
  refine mc_of k1_O_act k2_O_act (Nat.le_of_ble_eq_true rfl) ?_
  repeat (refine mw_step rfl ?_)
  refine mw_call (c_O_isBody (m := zb_s m (zb_bodies m, zb_kind m, zb_trace m, nI 0, zb_ownKind m, zb_ownNumber m)) b) rfl rfl (Nat.le_of_ble_eq_true rfl) (Nat.le_refl _) (Nat.le_refl _) ?_
  refine mw_brT rfl (bI_f (fun z => h (n_predN (by omega) (by have z2 : 0 ≤ b ∧ b ≤ zb_bodies m - 1 := z; rw [hn] at z2; exact z2)))) ?_
  repeat (refine mw_step rfl ?_)
  exact mw_r1 rfl trivial (Nat.le_refl _) (Nat.le_refl _) rfl rfl
theorem c_O_act_noa (hn : zb_bodies m = nI n) (h50 : n ≤ 50) (b : Nat) (hb : b < n) (a xx : Int32) (ha : ¬ (0 ≤ a ∧ a ≤ nI 3)) : MC M_O_act 8 0 0 [.ref 39, .int (nI b), .int a, .int xx] (heapN N sc x m tl) (some (.int 0)) (heapN N sc x (zb_s m (zb_bodies m, zb_kind m, zb_trace m, nI 0, zb_kind m b, nI b)) tl) := by
  refine mc_of k1_O_act k2_O_act (Nat.le_of_ble_eq_true rfl) ?_
  repeat (refine mw_step rfl ?_)
  refine mw_call (c_O_isBody (m := zb_s m (zb_bodies m, zb_kind m, zb_trace m, nI 0, zb_ownKind m, zb_ownNumber m)) (nI b)) rfl rfl (Nat.le_of_ble_eq_true rfl) (Nat.le_refl _) (Nat.le_refl _) ?_
  refine mw_brF rfl (bI_ne (by rw [show zb_bodies (zb_s m (zb_bodies m, zb_kind m, zb_trace m, nI 0, zb_ownKind m, zb_ownNumber m)) = nI n from hn]; exact n_predI hb (by omega))) ?_
  repeat (refine mw_step rfl ?_)
  refine mw_ild rfl (rfl) (by omega) (by decide) ?_
  repeat (refine mw_step rfl ?_)
  refine mw_sw (t := 100) ?_ ?_
  · show (bif decide (a.toInt < 0) || decide (3 < a.toInt) then some ((31 : Int) + 69) else _) = some 100
    have : (decide (a.toInt < 0) || decide (3 < a.toInt)) = true := by
      rw [Bool.or_eq_true, decide_eq_true_iff, decide_eq_true_iff]
      rcases Int.lt_or_le a.toInt 0 with z | z
      · exact Or.inl z
      · rcases Int.lt_or_le 3 a.toInt with y | y
        · exact Or.inr y
        · exact absurd ⟨by rw [Int32.le_iff_toInt_le, Int32.toInt_zero]; exact z, by rw [Int32.le_iff_toInt_le, nI_toInt (by omega)]; exact y⟩ ha
    rw [this]
    rfl
  · repeat (refine mw_step rfl ?_)
    exact mw_r1 rfl trivial (Nat.le_refl _) (Nat.le_refl _) rfl rfl
end AB
/-- bounds of what was told -/
def rOK (c : Nat) (v : Int32) : Prop := k_least (c / 6) ≤ v ∧ v ≤ k_most (c / 6)
def TI (t : xTS) : Prop := ∃ dn kn, t.2.2.2.2.1 = nI dn ∧ t.2.2.2.2.2 = nI kn ∧ dn ≤ kn ∧ kn ≤ 40 ∧ (∀ c, c < 24 → rOK c (t.1 c)) ∧ ∀ i, i < kn → ∃ c, c < 24 ∧ t.2.1 i = nI c ∧ rOK c (t.2.2.1 i) ∧ rOK c (t.2.2.2.1 i)
def IvT (x : XS) (m : OS) : Prop := x.1 = tz m.1 ∧ TI x.1
def IvP (m : OS) (P : List PieceS) : Prop := zp_parts m = nI P.length ∧ P.length ≤ 8 ∧ ∀ (i : Nat) (p : PieceS), P[i]? = some p → zp_wood m i = i_wood p ∧ zp_place m i = i_place p ∧ ∃ lk th, lk < 64 ∧ th < 64 ∧ i_looked p = nI lk ∧ i_there p = nI th ∧ FW (zp_found m) i (wayB lk th)
def IvL (x : XS) (m : OS) (P : List PieceS) : Prop := ∃ T, LOK x T ∧ OLK m T ∧ ∀ (i : Nat) (p : PieceS), P[i]? = some p → KN T p
def IvF (x : XS) (m : OS) : Prop := xR_tape x = zt_tape m ∧ xR_len x = zt_tapeMany m ∧ ∃ n, n ≤ 120 ∧ xR_len x = nI n ∧ ∀ j, j < n → ¬ xR_tape x j = -1
def IvA (x : XS) (m : OS) : Prop := xP_from x = zq_from m ∧ xP_to x = zq_to m ∧ xP_houses x = zq_house m ∧ xP_many x = zq_papers m ∧ ∃ n, n ≤ 10 ∧ xP_many x = nI n ∧ ∀ i, i < n → ∃ a b h, a ≤ b ∧ b ≤ 29 ∧ h ≤ 9 ∧ xP_from x i = nI a ∧ xP_to x i = nI b ∧ xP_houses x i = nI h
def IvB (x : XS) (m : OS) : Prop := xB_kinds x = zb_kind m ∧ xB_many x = zb_bodies m ∧ xB_ran x = zb_trace m ∧ xB_runs x = zb_ran m ∧ ∃ n r, n ≤ 50 ∧ xB_many x = nI n ∧ r < 2 ^ 30 ∧ xB_runs x = nI r ∧ ∀ b, b < n → ∃ o, o ≤ 7 ∧ xB_kinds x b = nI o
def shR (n : Nat) (s h z : Int32) : Prop := (s = -2 ∧ z = -1) ∨ (∃ b, b < n ∧ b < 50 ∧ s = -1 ∧ h = nI b ∧ z = nI b) ∨ ∃ q, q ≤ 4 ∧ s = nI q ∧ z = nI (50 + q)
def IvH (x : XS) (m : OS) : Prop := xH_lens x = zs_many m ∧ xH_cells x = zs_items m ∧ ∃ n, xB_many x = nI n ∧ n ≤ 50 ∧ ∀ a, a ≤ 5 → shR n (xH_sorts x a) (xH_held x a) (zs_shelf m a) ∧ ∃ len, len ≤ 60 ∧ xH_lens x a = nI len
def IvI (x : XS) (m : OS) : Prop := xC_has x = zi_isKept m ∧ (xC_has x = 0 ∨ (xC_has x = 1 ∧ ∃ kc, kc ≤ 8 ∧ xC_kc x = nI kc ∧ zi_parts m = nI kc ∧ ∀ i, i < kc → ∃ lk th, lk < 64 ∧ th < 64 ∧ xC_kl x i = nI lk ∧ xC_kt x i = nI th ∧ FW (zi_image m) i (wayB lk th)))
def Inv (x : XS) (m : OS) (P : List PieceS) : Prop := IvT x m ∧ IvP m P ∧ IvL x m P ∧ IvF x m ∧ IvA x m ∧ IvB x m ∧ IvH x m ∧ IvI x m
/-- one call on both sides: an int, a long -/
def OPi (sc : Nat × (Nat → Int32)) (x : XS) (m : OS) (P : List PieceS) (M1 M2 : MD) (d1 d2 c1 s1 : Nat) (av : List Value) : Prop := ∃ r x' m' P', MC M1 d1 c1 s1 (.ref 5 :: av) (heap sc x m P) (some (.int r)) (heap sc x' m P') ∧ MC M2 d2 0 0 (.ref 39 :: av) (heap sc x' m P') (some (.int r)) (heap sc x' m' P') ∧ Inv x' m' P'
def OPl (sc : Nat × (Nat → Int32)) (x : XS) (m : OS) (P : List PieceS) (M1 M2 : MD) (d1 d2 c1 s1 : Nat) (av : List Value) : Prop := ∃ r x' m' P', MC M1 d1 c1 s1 (.ref 5 :: av) (heap sc x m P) (some (.long r)) (heap sc x' m P') ∧ MC M2 d2 0 0 (.ref 39 :: av) (heap sc x' m P') (some (.long r)) (heap sc x' m' P') ∧ Inv x' m' P'
section IV
variable {sc : Nat × (Nat → Int32)} {x x' : XS} {m m' : OS} {P P' : List PieceS} {T : Nat → Option Tx}
theorem Inv_OR (h : Inv x m P) (hr : OR m m') : Inv x m' P := by
  obtain ⟨s, w, o, rfl⟩ := hr
  exact h
theorem IvP_CR (h : IvP m P) (hc : CR T x x' P P') : IvP m P' := by
  obtain ⟨h1, h2, h3⟩ := h
  refine ⟨by rw [h1, hc.2.1], by rw [hc.2.1]; exact h2, fun i q hq => ?_⟩
  have hj : i < P.length := by
    have := (List.getElem?_eq_some_iff.mp hq).1
    have := hc.2.1
    omega
  obtain ⟨r, hr, b1, b2⟩ := hc.2.2 i P[i] (List.getElem?_eq_getElem hj)
  rw [hq] at hr
  cases hr
  obtain ⟨c1, c2, lk, th, c3, c4, c5, c6, c7⟩ := h3 i P[i] (List.getElem?_eq_getElem hj)
  exact ⟨c1.trans b1.1.symm, c2.trans b1.2.1.symm, lk, th, c3, c4, b1.2.2.1.trans c5, b1.2.2.2.trans c6, c7⟩
theorem Inv_CR (h : Inv x m P) (hL : LOK x T) (hO : OLK m T) (hc : CR T x x' P P') : Inv x' m P' := by
  obtain ⟨a1, a2, a3, a4, a5, a6, a7, a8⟩ := h
  have a2' := IvP_CR a2 hc
  obtain ⟨⟨k1, s1, w1, e1⟩, l1, p1⟩ := hc
  subst e1
  refine ⟨a1, a2', ⟨T, LOK_congr rfl rfl hL, hO, fun i q hq => ?_⟩, a4, a5, a6, a7, a8⟩
  have hj : i < P.length := by
    have := (List.getElem?_eq_some_iff.mp hq).1
    omega
  obtain ⟨r, hr, b1, b2⟩ := p1 i P[i] (List.getElem?_eq_getElem hj)
  rw [hq] at hr
  cases hr
  exact b2
/-- numbers told, as natural ones -/
def tN (x : XS) (a k : Nat) : Nat := if k < 6 then (xT_now x (6 * a + k)).toNatClampNeg else 0
theorem tN_ok (h : IvT x m) (a k : Nat) (ha : a < 4) (hk : k < 6) : xT_now x (6 * a + k) = nI (tN x a k) ∧ k_least a ≤ nI (tN x a k) ∧ nI (tN x a k) ≤ k_most a := by
  obtain ⟨-, dn, kn, h1, h2, h3, h4, h5, h6⟩ := h
  have q : k_least ((6 * a + k) / 6) ≤ xT_now x (6 * a + k) ∧ xT_now x (6 * a + k) ≤ k_most ((6 * a + k) / 6) := h5 (6 * a + k) (by omega)
  rw [show (6 * a + k) / 6 = a by omega] at q
  have h0 : 0 ≤ xT_now x (6 * a + k) := by
    refine Int32.le_trans ?_ q.1
    have : a = 0 ∨ a = 1 ∨ a = 2 ∨ a = 3 := by omega
    rcases this with rfl | rfl | rfl | rfl <;> decide
  obtain ⟨j, hj, e⟩ := nI_of (Int32.not_lt.mpr h0)
  have e2 : tN x a k = j := by rw [tN, if_pos hk, e, nI_clamp hj]
  rw [e2, ← e]
  exact ⟨rfl, q⟩
theorem tN_lt (h : IvT x m) (a k : Nat) (ha : a < 4) : tN x a k ≤ 99 := by
  by_cases hk : k < 6
  · obtain ⟨e, -, h2⟩ := tN_ok h a k ha hk
    have hb : tN x a k < 2 ^ 31 := by
      rw [tN, if_pos hk]
      exact Int32.toNatClampNeg_lt _
    have h3 : nI (tN x a k) ≤ nI 99 := by
      refine Int32.le_trans h2 ?_
      have : a = 0 ∨ a = 1 ∨ a = 2 ∨ a = 3 := by omega
      rcases this with rfl | rfl | rfl | rfl <;> decide
    exact (nI_leI hb (by omega)).mp h3
  · rw [tN, if_neg hk]
    omega
theorem tN_9 (h : IvT x m) (a k : Nat) (ha : a = 0 ∨ a = 2) : tN x a k ≤ 9 := by
  by_cases hk : k < 6
  · obtain ⟨e, -, h2⟩ := tN_ok h a k (by omega) hk
    have hb := tN_lt h a k (by omega)
    have h3 : nI (tN x a k) ≤ nI 9 := by
      refine Int32.le_trans h2 ?_
      rcases ha with rfl | rfl <;> decide
    exact (nI_leI (by omega) (by omega)).mp h3
  · rw [tN, if_neg hk]
    omega
theorem may_eq (h : IvT x m) : za_may m = xT_now x := (congrArg (fun t : xTS => t.1) h.1).symm
/-- all that calls need -/
theorem Inv_CI (h : Inv x m P) : ∃ T, LOK x T ∧ OLK m T ∧ CI T (tN x 0) x P ∧ OI T (tN x 0) P.length m ∧ VL x (tN x 1) ∧ OV m (tN x 1) ∧ MLx x (tN x 2) ∧ OMm m (tN x 2) ∧ CLx x (tN x 3) ∧ OCm m (tN x 3) ∧ (∀ (i : Nat) (p : PieceS), P[i]? = some p → nbO T m i = nbP T p ∧ ∃ lk th, lk < 64 ∧ th < 64 ∧ i_looked p = nI lk ∧ i_there p = nI th ∧ FW (zp_found m) i (wayB lk th)) := by
  obtain ⟨a1, a2, ⟨T, t1, t2, t3⟩, a4, a5, a6, a7, a8⟩ := h
  have em := may_eq a1
  have q : ∀ a, a < 4 → ∀ k, k < 6 → xT_now x (6 * a + k) = nI (tN x a k) := fun a ha k hk => (tN_ok a1 a k ha hk).1
  have q0 : BL x (tN x 0) := fun k hk => by have := q 0 (by omega) k hk; rw [show 6 * 0 + k = k by omega] at this; exact this
  refine ⟨T, t1, t2, ⟨t1, q0, fun k => tN_9 a1 0 k (Or.inl rfl), a2.2.1, fun j p hp => ?_⟩, ⟨t2, fun k hk => by rw [em]; exact q0 k hk, fun k => tN_9 a1 0 k (Or.inl rfl), a2.1, a2.2.1⟩, q 1 (by omega), fun k hk => by rw [em]; exact q 1 (by omega) k hk, q 2 (by omega), fun k hk => by rw [em]; exact q 2 (by omega) k hk, q 3 (by omega), fun k hk => by rw [em]; exact q 3 (by omega) k hk, fun i p hp => ?_⟩
  · obtain ⟨c1, c2, lk, th, c3, c4, c5, c6, c7⟩ := a2.2.2 j p hp
    exact ⟨t3 j p hp, lk, th, c3, c4, c5, c6⟩
  · obtain ⟨c1, c2, lk, th, c3, c4, c5, c6, c7⟩ := a2.2.2 i p hp
    exact ⟨by show nbW _ _ _ = nbW _ _ _; rw [c1, c2], lk, th, c3, c4, c5, c6, c7⟩
end IV
