/-! weights: the reference -/
theorem sN_split (f : Nat → Nat) (a : Nat) : ∀ b, sN f (a + b) = sN f a + sN (fun y => f (a + y)) b
  | 0 => rfl
  | b + 1 => by rw [show a + (b + 1) = a + b + 1 by omega, sN, sN, sN_split f a b]; omega
theorem sN_grp (f : Nat → Nat) : ∀ n, sN f (30 * n) = sN (fun k => sN (fun y => f (30 * k + y)) 30) n
  | 0 => rfl
  | n + 1 => by rw [show 30 * (n + 1) = 30 * n + 30 by omega, sN_split, sN_grp f n]; rfl
theorem sN_one (f : Nat → Nat) (k : Nat) : ∀ n, sN (fun j => if j = k then f j else 0) n = if k < n then f k else 0
  | 0 => rfl
  | n + 1 => by
    rw [sN, sN_one f k n]
    by_cases h : n = k
    · subst h
      rw [if_neg (by omega), if_pos rfl, if_pos (by omega), Nat.zero_add]
    · rw [if_neg h, Nat.add_zero]
      by_cases h2 : k < n
      · rw [if_pos h2, if_pos (by omega)]
      · rw [if_neg h2, if_neg (by omega)]
/-- a kind's sum of the weights so far -/
def psum (B : Nat → Nat) (nb : Nat → Nat → Nat) (way : Nat → Nat) (k t : Nat) : Nat := sN (fun q => if q / 30 = k then wt B nb way q else 0) t
theorem psum_end (B : Nat → Nat) (nb : Nat → Nat → Nat) (way : Nat → Nat) (k : Nat) (hk : k < 6) : psum B nb way k 180 = ks B nb way k := by
  unfold psum
  rw [show 180 = 30 * 6 from rfl, sN_grp]
  have e : ∀ j, j < 6 → sN (fun y => if (30 * j + y) / 30 = k then wt B nb way (30 * j + y) else 0) 30 = if j = k then ks B nb way j else 0 := by
    intro j _
    by_cases h : j = k
    · rw [if_pos h]
      exact sN_congr (fun y hy => if_pos (by omega))
    · rw [if_neg h]
      exact sN_0 (fun y hy => if_neg (by omega))
  rw [sN_congr e, sN_one, if_pos hk]
theorem al_end (B : Nat → Nat) (nb : Nat → Nat → Nat) (way : Nat → Nat) : sN (wt B nb way) 180 = al B nb way := sN_grp (wt B nb way) 6
abbrev oX (m : OS) (s : zcS) (w : zwS) : OS := zw_s (ztX m s) w
def OB (m : OS) (B : Nat → Nat) : Prop := ∀ k, k < 6 → za_may m k = nI (B k)
section OL2
variable {N : Nat} {sc : Nat × (Nat → Int32)} {x : XS} {m : OS} {tl : MH} {T : Nat → Option Tx} {B : Nat → Nat} {nb : Nat → Nat → Nat} {way : Nat → Nat}
def NV (T : Nat → Option Tx) (w p : Int32) (nm : Nat → Int32) (c : Nat) : Prop := ∀ q, q < c → nm q = nI (nbW T w p (q / 180) (q % 180))
theorem l_O_looks1 (hL : OLK m T) (p : Nat) (hp : p < 8) (a : Nat) (ha : a < 6) (wy : Nat → Int32) (wg kS : Nat → Int64) (aS : Int64) : ∀ r t s nm, t + r = 180 → NV T (zp_wood m p) (zp_place m p) nm (180 * a + t) → ∃ s' nm', NV T (zp_wood m p) (zp_place m p) nm' (180 * (a + 1)) ∧ ∀ {v : Option Value} {hT : MH}, MW M_O_looksAt 46 0 0 v hT 0 0 49 [(0, .ref 39), (1, .int (nI p)), (2, .int (nI a))] [] (heapN N sc x (oX m s' (nm', wy, wg, kS, aS)) tl) → MW M_O_looksAt 46 0 0 v hT 0 0 10 [(0, .ref 39), (1, .int (nI p)), (2, .int (nI a)), (3, .int (nI t))] [] (heapN N sc x (oX m s (nm, wy, wg, kS, aS)) tl) := by
  intro r
  induction r with
  | zero =>
    intro t s nm ht hv
    refine ⟨s, nm, by rw [show 180 * (a + 1) = 180 * a + t by omega]; exact hv, ?_⟩
    intro v hT K
    rw [show t = 180 by omega]
    repeat (refine mw_step rfl ?_)
    refine mw_brF rfl (by decide) ?_
    refine mw_pick [0, 1, 2] rfl ?_
    exact K
  | succ r ih =>
    intro t s nm ht hv
    have e1 : nI t / 30 = nI (t / 30) := pk_div (d := 30) (by omega) (by omega) (by omega)
    have e2 : nI t - nI t / 30 * 30 = nI (t % 30) := pk_rem (d := 30) (by omega) (by omega) (by omega)
    have e3 : (180 : Int32) * nI a + nI t = nI (180 * a + t) := by rw [show (180 : Int32) = nI 180 from rfl, pk_mul, nI_add]
    obtain ⟨s1, C⟩ := c_O_numberOf (N := N) (sc := sc) (x := x) (tl := tl) (m := oX m s (nm, wy, wg, kS, aS)) (T := T) (OLK_congr (m := m) rfl rfl hL) p a hp ha (nI (t / 30)) (nI (t % 30))
    have en : cl (lawV (T a) (nI (t / 30)) (nI (t % 30)) (zp_wood m p) (zp_place m p)) = nbW T (zp_wood m p) (zp_place m p) ((180 * a + t) / 180) ((180 * a + t) % 180) := by
      unfold nbW
      rw [show (180 * a + t) / 180 = a by omega, show (180 * a + t) % 180 = t by omega]
    rw [show zp_wood (oX m s (nm, wy, wg, kS, aS)) p = zp_wood m p from rfl, show zp_place (oX m s (nm, wy, wg, kS, aS)) p = zp_place m p from rfl, en] at C
    obtain ⟨s', nm', h1, K⟩ := ih (t + 1) s1 (upd nm (180 * a + t) (nI (nbW T (zp_wood m p) (zp_place m p) ((180 * a + t) / 180) ((180 * a + t) % 180)))) (by omega) (by
      intro q hq
      by_cases e : q = 180 * a + t
      · rw [e, upd_at]
      · rw [upd_ne e]
        exact hv q (by omega))
    refine ⟨s', nm', h1, ?_⟩
    intro v hT K2
    repeat (refine mw_step rfl ?_)
    refine mw_brT rfl (n_lt (b := 180) (by omega) (by omega)) ?_
    repeat (refine mw_step rfl ?_)
    refine mw_div rfl (by decide) ?_
    rw [e1]
    repeat (refine mw_step rfl ?_)
    refine mw_div rfl (by decide) ?_
    rw [e2]
    refine mw_call (C) rfl rfl (Nat.le_of_ble_eq_true rfl) (Nat.le_refl _) (Nat.le_refl _) ?_
    refine mw_ist rfl (e3) (by omega) (by decide) ?_
    repeat (refine mw_to 10 rfl rfl ?_)
    rw [nI_1]
    refine mw_pick [0, 1, 2, 3] rfl ?_
    exact K K2
theorem l_O_looks2 (hL : OLK m T) (p : Nat) (hp : p < 8) (wg kS : Nat → Int64) (aS : Int64) : ∀ r a s nm wy, a + r = 6 → NV T (zp_wood m p) (zp_place m p) nm (180 * a) → (∀ j, j < a → wy j = zp_found m (6 * p + j)) → ∃ s' nm' wy', NV T (zp_wood m p) (zp_place m p) nm' 1080 ∧ (∀ j, j < 6 → wy' j = zp_found m (6 * p + j)) ∧ MW M_O_looksAt 46 0 0 none (heapN N sc x (oX m s' (nm', wy', wg, kS, aS)) tl) 0 0 2 [(0, .ref 39), (1, .int (nI p)), (2, .int (nI a))] [] (heapN N sc x (oX m s (nm, wy, wg, kS, aS)) tl) := by
  intro r
  induction r with
  | zero =>
    intro a s nm wy ha hv hw
    have e6 : a = 6 := by omega
    subst e6
    refine ⟨s, nm, wy, hv, hw, ?_⟩
    repeat (refine mw_step rfl ?_)
    refine mw_brF rfl (by decide) ?_
    exact mw_r0 rfl (Nat.le_refl _) (Nat.le_refl _) rfl rfl
  | succ r ih =>
    intro a s nm wy ha hv hw
    have e3 : (6 : Int32) * nI p + nI a = nI (6 * p + a) := by rw [show (6 : Int32) = nI 6 from rfl, pk_mul, nI_add]
    obtain ⟨s1, nm1, h1, K1⟩ := l_O_looks1 (N := N) (sc := sc) (x := x) (tl := tl) hL p hp a (by omega) wy wg kS aS 180 0 s nm (by omega) hv
    obtain ⟨s2, nm2, wy2, h2, h3, K2⟩ := ih (a + 1) s1 nm1 (upd wy a (zp_found m (6 * p + a))) (by omega) h1 (by
      intro j hj
      by_cases e : j = a
      · rw [e, upd_at]
      · rw [upd_ne e]
        exact hw j (by omega))
    refine ⟨s2, nm2, wy2, h2, h3, ?_⟩
    repeat (refine mw_step rfl ?_)
    refine mw_brT rfl (n_lt (b := 6) (by omega) (by omega)) ?_
    repeat (refine mw_to 10 rfl rfl ?_)
    refine mw_pick [0, 1, 2, 3] rfl ?_
    refine K1 ?_
    repeat (refine mw_step rfl ?_)
    refine mw_ild rfl (e3) (by omega) (by decide) ?_
    refine mw_ist rfl (rfl) (by omega) (by decide) ?_
    repeat (refine mw_to 2 rfl rfl ?_)
    rw [nI_1]
    refine mw_pick [0, 1, 2] rfl ?_
    exact K2
theorem c_O_looksAt (hL : OLK m T) (p : Nat) (hp : p < 8) : ∃ s nm wy, NV T (zp_wood m p) (zp_place m p) nm 1080 ∧ (∀ j, j < 6 → wy j = zp_found m (6 * p + j)) ∧ MC M_O_looksAt 46 0 0 [.ref 39, .int (nI p)] (heapN N sc x m tl) none (heapN N sc x (oX m s (nm, wy, zw_weight m, zw_kindSum m, zw_allSum m)) tl) := by
  obtain ⟨s, nm, wy, h1, h2, K⟩ := l_O_looks2 (N := N) (sc := sc) (x := x) (tl := tl) hL p hp (zw_weight m) (zw_kindSum m) (zw_allSum m) 6 0 (zt_base m, zt_at m, zt_ends m, zt_fault m, zt_opened m, zt_names m) (zw_numbers m) (zw_way m) (by omega) (fun q hq => absurd hq (by omega)) (fun j hj => absurd hj (by omega))
  refine ⟨s, nm, wy, h1, h2, ?_⟩
  refine mc_of k1_O_looksAt k2_O_looksAt (Nat.le_of_ble_eq_true rfl) ?_
  repeat (refine mw_to 2 rfl rfl ?_)
  refine mw_pick [0, 1, 2] rfl ?_
  exact K
def smZ (f : Nat → Int64) (t : Nat) : Nat → Int64 := fun j => if j < t then 0 else f j
theorem smZ_1 (f : Nat → Int64) (t : Nat) : vp_updL (smZ f t) t 0 = smZ f (t + 1) := by
  funext j
  unfold vp_updL smZ
  by_cases h : j = t
  · rw [if_pos h, if_pos (by omega)]
  · rw [if_neg h]
    by_cases h2 : j < t
    · rw [if_pos h2, if_pos (by omega)]
    · rw [if_neg h2, if_neg (by omega)]
theorem smZ_0 (f : Nat → Int64) : smZ f 0 = f := by
  funext j
  exact if_neg (by omega)
/-- what weighs needs -/
def WIN (m : OS) (B : Nat → Nat) (nb : Nat → Nat → Nat) (way : Nat → Nat) : Prop := OB m B ∧ (∀ k, B k ≤ 9) ∧ (∀ j kt, nb j kt ≤ 100) ∧ (∀ j kt, j < 6 → kt < 180 → zw_numbers m (180 * j + kt) = nI (nb j kt)) ∧ (∀ j, j < 6 → zw_way m j = nI (way j) ∧ way j ≤ 2)
theorem l_O_weighs1 (hW : WIN m B nb way) (kt : Nat) (hkt : kt < 180) (b : Nat) {v : Option Value} {hT : MH} (K : MW M_O_weighs 0 0 0 v hT 0 0 118 [(0, .ref 39), (1, .int (nI kt)), (2, .long (lN (w_pr (fun j => nb j kt) way b 6)))] [] (heapN N sc x m tl)) : ∀ r t, t + r = 6 → MW M_O_weighs 0 0 0 v hT 0 0 49 [(0, .ref 39), (1, .int (nI kt)), (2, .long (lN (w_pr (fun j => nb j kt) way b t))), (4, .int (nI t))] [] (heapN N sc x m tl) := by
  intro r
  induction r with
  | zero =>
    intro t ht
    rw [show t = 6 by omega]
    repeat (refine mw_step rfl ?_)
    refine mw_brF rfl (by decide) ?_
    refine mw_pick [0, 1, 2] rfl ?_
    exact K
  | succ r ih =>
    intro t ht
    obtain ⟨w1, w0, w2, w3, w4⟩ := hW
    have hnb := w2 t kt
    have hwy := w4 t (by omega)
    have L := ih (t + 1) (by omega)
    rw [show w_pr (fun j => nb j kt) way b (t + 1) = w_pr (fun j => nb j kt) way b t * w_fc (way t) (nb t kt) from rfl, ← lN_mul] at L
    repeat (refine mw_step rfl ?_)
    refine mw_brT rfl (n_lt (b := 6) (by omega) (by omega)) ?_
    repeat (refine mw_step rfl ?_)
    refine mw_ild rfl (show (180 : Int32) * nI t + nI kt = nI (180 * t + kt) by rw [show (180 : Int32) = nI 180 from rfl, pk_mul, nI_add]) (by omega) (by decide) ?_
    rw [w3 t kt (by omega) hkt]
    repeat (refine mw_step rfl ?_)
    refine mw_ild rfl (rfl) (by omega) (by decide) ?_
    rw [hwy.1]
    by_cases h0 : way t = 0
    · rw [h0] at L ⊢
      rw [w_fc, if_pos rfl] at L
      refine mw_brT rfl (rfl) ?_
      repeat (refine mw_to 49 rfl rfl ?_)
      rw [nI_1]
      refine mw_pick [0, 1, 2, 4] rfl ?_
      exact L
    · refine mw_brF rfl (nI_ne0 (by omega) (by omega)) ?_
      repeat (refine mw_step rfl ?_)
      refine mw_ild rfl (rfl) (by omega) (by decide) ?_
      rw [hwy.1]
      repeat (refine mw_step rfl ?_)
      by_cases h1 : way t = 1
      · rw [h1] at L ⊢
        rw [w_fc, if_neg (by decide), if_pos rfl, ← nI_l (n := nb t kt) (by omega)] at L
        refine mw_brT rfl (rfl) ?_
        repeat (refine mw_to 49 rfl rfl ?_)
        rw [nI_1]
        refine mw_pick [0, 1, 2, 4] rfl ?_
        exact L
      · rw [w_fc, if_neg h0, if_neg h1, ← lN_sub hnb, ← nI_l (n := nb t kt) (by omega)] at L
        refine mw_brF rfl (fun e => h1 ((nI_eq (b := 1) (by omega) (by omega)).mp e)) ?_
        repeat (refine mw_to 49 rfl rfl ?_)
        rw [nI_1]
        refine mw_pick [0, 1, 2, 4] rfl ?_
        exact L
theorem l_O_weighs2 (s0 : zwS) (hW : WIN (zw_s m s0) B nb way) : ∀ r t wg kS, t + r = 180 → (∀ q, q < t → wg q = lN (wt B nb way q)) → (∀ k, k < 6 → kS k = lN (psum B nb way k t)) → ∃ wg' kS', (∀ q, q < 180 → wg' q = lN (wt B nb way q)) ∧ (∀ k, k < 6 → kS' k = lN (ks B nb way k)) ∧ MW M_O_weighs 0 0 0 none (heapN N sc x (zw_s m (s0.1, s0.2.1, wg', kS', lN (al B nb way))) tl) 0 0 28 [(0, .ref 39), (1, .int (nI t))] [] (heapN N sc x (zw_s m (s0.1, s0.2.1, wg, kS, lN (sN (wt B nb way) t))) tl) := by
  intro r
  induction r with
  | zero =>
    intro t wg kS ht h1 h2
    have e : t = 180 := by omega
    subst e
    refine ⟨wg, kS, h1, fun k hk => by rw [h2 k hk, psum_end _ _ _ _ hk], ?_⟩
    rw [al_end]
    repeat (refine mw_step rfl ?_)
    refine mw_brF rfl (by decide) ?_
    exact mw_r0 rfl (Nat.le_refl _) (Nat.le_refl _) rfl rfl
  | succ r ih =>
    intro t wg kS ht h1 h2
    obtain ⟨w1, w0, w2, w3, w4⟩ := id hW
    have e1 : nI t / 30 = nI (t / 30) := pk_div (d := 30) (by omega) (by omega) (by omega)
    have h9 := w0 (t / 30)
    have ew : w_pr (fun j => nb j t) way (B (t / 30)) 6 = wt B nb way t := rfl
    obtain ⟨wg', kS', g1, g2, K⟩ := ih (t + 1) (vp_updL wg t (lN (wt B nb way t))) (vp_updL kS (t / 30) (kS (t / 30) + lN (wt B nb way t))) (by omega) (by
      intro q hq
      by_cases e : q = t
      · rw [e, pk_uLs]
      · rw [pk_uLn e]
        exact h1 q (by omega)) (by
      intro k hk
      show _ = lN (sN (fun q => if q / 30 = k then wt B nb way q else 0) t + if t / 30 = k then wt B nb way t else 0)
      by_cases e : t / 30 = k
      · rw [e, pk_uLs, if_pos rfl, h2 k hk, lN_add]
        rfl
      · rw [pk_uLn (fun z => e z.symm), if_neg e, Nat.add_zero]
        exact h2 k hk)
    refine ⟨wg', kS', g1, g2, ?_⟩
    rw [sN, ← lN_add] at K
    repeat (refine mw_step rfl ?_)
    refine mw_brT rfl (n_lt (b := 180) (by omega) (by omega)) ?_
    repeat (refine mw_step rfl ?_)
    refine mw_div rfl (by decide) ?_
    refine mw_ild rfl (e1) (by omega) (by decide) ?_
    rw [show za_may (zw_s m (s0.1, s0.2.1, wg, kS, lN (sN (wt B nb way) t))) (t / 30) = nI (B (t / 30)) from w1 (t / 30) (by omega)]
    repeat (refine mw_to 49 rfl rfl ?_)
    rw [nI_l (by omega)]
    refine mw_pick [0, 1, 2, 4] rfl ?_
    refine l_O_weighs1 (m := zw_s m (s0.1, s0.2.1, wg, kS, lN (sN (wt B nb way) t))) (B := B) (nb := nb) (way := way) ⟨w1, w0, w2, w3, w4⟩ t (by omega) (B (t / 30)) ?_ 6 0 (by omega)
    rw [ew]
    repeat (refine mw_step rfl ?_)
    refine mw_lst rfl (rfl) (by omega) (by decide) ?_
    repeat (refine mw_step rfl ?_)
    refine mw_div rfl (by decide) ?_
    repeat (refine mw_step rfl ?_)
    refine mw_lld rfl (e1) (by omega) (by decide) ?_
    repeat (refine mw_step rfl ?_)
    refine mw_lst rfl (e1) (by omega) (by decide) ?_
    repeat (refine mw_to 28 rfl rfl ?_)
    rw [nI_1]
    refine mw_pick [0, 1] rfl ?_
    exact K
theorem l_O_weighs0 {v : Option Value} {hT : MH} (s0 : zwS) (K : MW M_O_weighs 0 0 0 v hT 0 0 26 [(0, .ref 39)] [] (heapN N sc x (zw_s m (s0.1, s0.2.1, s0.2.2.1, smZ s0.2.2.2.1 6, s0.2.2.2.2)) tl)) : ∀ r t, t + r = 6 → MW M_O_weighs 0 0 0 v hT 0 0 7 [(0, .ref 39), (1, .int (nI t))] [] (heapN N sc x (zw_s m (s0.1, s0.2.1, s0.2.2.1, smZ s0.2.2.2.1 t, s0.2.2.2.2)) tl) := by
  intro r
  induction r with
  | zero =>
    intro t ht
    rw [show t = 6 by omega]
    repeat (refine mw_step rfl ?_)
    refine mw_brF rfl (by decide) ?_
    refine mw_pick [0] rfl ?_
    exact K
  | succ r ih =>
    intro t ht
    have L := ih (t + 1) (by omega)
    rw [← smZ_1 s0.2.2.2.1 t] at L
    repeat (refine mw_step rfl ?_)
    refine mw_brT rfl (n_lt (b := 6) (by omega) (by omega)) ?_
    repeat (refine mw_step rfl ?_)
    refine mw_lst rfl (rfl) (by omega) (by decide) ?_
    repeat (refine mw_to 7 rfl rfl ?_)
    rw [nI_1]
    refine mw_pick [0, 1] rfl ?_
    exact L
theorem c_O_weighs (hW : WIN m B nb way) : ∃ wg kS, (∀ q, q < 180 → wg q = lN (wt B nb way q)) ∧ (∀ k, k < 6 → kS k = lN (ks B nb way k)) ∧ MC M_O_weighs 0 0 0 [.ref 39] (heapN N sc x m tl) none (heapN N sc x (zw_s m (zw_numbers m, zw_way m, wg, kS, lN (al B nb way))) tl) := by
  obtain ⟨wg, kS, g1, g2, K⟩ := l_O_weighs2 (N := N) (sc := sc) (x := x) (tl := tl) (m := m) (zw_numbers m, zw_way m, zw_weight m, zw_kindSum m, 0) (B := B) (nb := nb) (way := way) hW 180 0 (zw_weight m) (smZ (zw_kindSum m) 6) (by omega) (fun q hq => absurd hq (by omega)) (fun k hk => if_pos hk)
  refine ⟨wg, kS, g1, g2, ?_⟩
  have L := l_O_weighs0 (N := N) (sc := sc) (x := x) (tl := tl) (m := m) (zw_numbers m, zw_way m, zw_weight m, zw_kindSum m, 0) (v := none) (hT := heapN N sc x (zw_s m (zw_numbers m, zw_way m, wg, kS, lN (al B nb way))) tl) (by
    repeat (refine mw_to 28 rfl rfl ?_)
    refine mw_pick [0, 1] rfl ?_
    exact K) 6 0 (by omega)
  rw [smZ_0] at L
  refine mc_of k1_O_weighs k2_O_weighs (Nat.le_of_ble_eq_true rfl) ?_
  repeat (refine mw_to 7 rfl rfl ?_)
  refine mw_pick [0, 1] rfl ?_
  exact L
/-- what is found, as ways -/
def FW (f : Nat → Int32) (p : Nat) (way : Nat → Nat) : Prop := ∀ j, j < 6 → f (6 * p + j) = nI (way j) ∧ way j ≤ 2
/-- the reference's sums -/
def OSM (m : OS) (B : Nat → Nat) (nb : Nat → Nat → Nat) (way : Nat → Nat) : Prop := (∀ q, q < 180 → zw_weight m q = lN (wt B nb way q)) ∧ (∀ k, k < 6 → zw_kindSum m k = lN (ks B nb way k)) ∧ zw_allSum m = lN (al B nb way)
theorem NV_at {T : Nat → Option Tx} {w p : Int32} {nm : Nat → Int32} (h : NV T w p nm 1080) (j kt : Nat) (hj : j < 6) (hkt : kt < 180) : nm (180 * j + kt) = nI (nbW T w p j kt) := by
  rw [h _ (by omega), show (180 * j + kt) / 180 = j by omega, show (180 * j + kt) % 180 = kt by omega]
theorem c_O_weighsPart (hL : OLK m T) (hB : OB m B) (h9 : ∀ k, B k ≤ 9) (p : Nat) (hp : p < 8) (hf : FW (zp_found m) p way) : ∃ s w, OSM (oX m s w) B (nbW T (zp_wood m p) (zp_place m p)) way ∧ WIN (oX m s w) B (nbW T (zp_wood m p) (zp_place m p)) way ∧ MC M_O_weighsPart 47 0 0 [.ref 39, .int (nI p)] (heapN N sc x m tl) none (heapN N sc x (oX m s w) tl) := by
  obtain ⟨s, nm, wy, h1, h2, C⟩ := c_O_looksAt (N := N) (sc := sc) (x := x) (tl := tl) hL p hp
  have hW : WIN (oX m s (nm, wy, zw_weight m, zw_kindSum m, zw_allSum m)) B (nbW T (zp_wood m p) (zp_place m p)) way := ⟨hB, h9, fun j kt => nbW_le _ _ _ _ _, fun j kt hj hkt => NV_at h1 j kt hj hkt, fun j hj => ⟨(h2 j hj).trans (hf j hj).1, (hf j hj).2⟩⟩
  obtain ⟨wg, kS, g1, g2, D⟩ := c_O_weighs (N := N) (sc := sc) (x := x) (tl := tl) hW
  refine ⟨s, (nm, wy, wg, kS, lN (al B (nbW T (zp_wood m p) (zp_place m p)) way)), ⟨g1, g2, rfl⟩, hW, ?_⟩
  refine mc_of k1_O_weighsPart k2_O_weighsPart (Nat.le_of_ble_eq_true rfl) ?_
  repeat (refine mw_step rfl ?_)
  refine mw_call (C) rfl rfl (Nat.le_of_ble_eq_true rfl) (Nat.le_refl _) (Nat.le_refl _) ?_
  repeat (refine mw_step rfl ?_)
  refine mw_call (D) rfl rfl (Nat.le_of_ble_eq_true rfl) (Nat.le_refl _) (Nat.le_refl _) ?_
  exact mw_r0 rfl (Nat.le_refl _) (Nat.le_refl _) rfl rfl
theorem c_O_percentNow {tl : MH} (hO : OSM m B nb way) (hW : WOK B nb) (kd : Nat) (hkd : kd < 6) : MC M_O_percentNow 0 0 0 [.ref 39, .int (nI kd)] (heapN N sc x m tl) (some (.int (nI (ks B nb way kd * 100 / al B nb way)))) (heapN N sc x m tl) := by
  have h1 := al_le (way := way) hW
  have h2 := ks_le (way := way) hW kd
  refine mc_of k1_O_percentNow k2_O_percentNow (Nat.le_of_ble_eq_true rfl) ?_
  repeat (refine mw_step rfl ?_)
  rw [show zw_allSum m = lN (al B nb way) from hO.2.2]
  by_cases h0 : al B nb way = 0
  · refine mw_brT rfl (by rw [lg_eq0, h0]; rfl) ?_
    repeat (refine mw_step rfl ?_)
    exact mw_r1 rfl trivial (Nat.le_refl _) (Nat.le_refl _) (by rw [h0, Nat.div_zero]; rfl) rfl
  · refine mw_brF rfl (by rw [lg_eq0]; exact fun e => h0 ((pk_lEQ (b := 0) (by omega) (by omega)).mp e)) ?_
    repeat (refine mw_step rfl ?_)
    refine mw_lld rfl (rfl) (by omega) (by decide) ?_
    rw [hO.2.1 kd hkd]
    repeat (refine mw_step rfl ?_)
    rw [show zw_allSum m = lN (al B nb way) from hO.2.2]
    refine mw_div rfl (fun e => h0 ((pk_lEQ (b := 0) (by omega) (by omega)).mp e)) ?_
    rw [show (100 : Int64) = lN 100 from rfl, lN_mul, pk_lDiv (by omega) (by omega) (by omega), Nat.mul_comm 100]
    repeat (refine mw_step rfl ?_)
    rw [lN_i]
    exact mw_r1 rfl trivial (Nat.le_refl _) (Nat.le_refl _) rfl rfl
end OL2
