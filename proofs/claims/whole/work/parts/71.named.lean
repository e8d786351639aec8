/-! takeWay, namedBy, sumOver: the class -/
theorem wyK_one {B : Nat → Nat} {nb : Nat → Nat → Nat} (hn : ∀ j kt, nb j kt ≤ 100) (k set : Nat) (hs : set < 64) : wyK B nb (wayB 0 0) 63 k set = ks B nb (wayB 63 set) k := by
  have hS : SOK (wayB 0 0) 63 63 := ⟨by omega, by omega, fun _ _ h => h, fun j _ _ => by unfold wayB; rw [Nat.zero_testBit]; rfl⟩
  have h63 : ∀ w, w < 64 → w &&& 63 = w := by decide +kernel
  have e := mg_k (B := B) hn hS hs (h63 set hs) k
  rw [show cn 63 63 6 = 0 from rfl, Nat.pow_zero, Nat.one_mul] at e
  have e2 : sN (fun w => if w &&& 63 = set then wyK B nb (wayB 0 0) 63 k w else 0) 64 = wyK B nb (wayB 0 0) 63 k set := by
    rw [sN_congr (g := fun w => if w = set then wyK B nb (wayB 0 0) 63 k w else 0) (fun w hw => by rw [h63 w hw]), sN_one, if_pos hs]
  rw [← e2, e]
  exact ks_congr (fun j hj => by
    unfold wS wayB
    rw [if_pos (b63 j hj), if_pos (b63 j hj)]) k
theorem SOK_63 : SOK (wayB 0 0) 63 63 := ⟨by omega, by omega, fun _ _ h => h, fun j _ _ => by unfold wayB; rw [Nat.zero_testBit]; rfl⟩
section TW
variable {sc : Nat × (Nat → Int32)} {x : XS} {m : OS} {N : Nat} {tl : MH} {B : Nat → Nat} {nb : Nat → Nat → Nat} {way : Nat → Nat} {free : Nat}
def smW (f : Nat → Int64) (g : Nat → Int64) (t : Nat) : Nat → Int64 := fun j => if j < t then g j else f j
theorem smW_1 (f g : Nat → Int64) (t : Nat) : vp_updL (smW f g t) t (g t) = smW f g (t + 1) := by
  funext j
  unfold vp_updL smW
  by_cases h : j = t
  · rw [if_pos h, if_pos (by omega), h]
  · rw [if_neg h]
    by_cases h2 : j < t
    · rw [if_pos h2, if_pos (by omega)]
    · rw [if_neg h2, if_neg (by omega)]
theorem smW_0 (f g : Nat → Int64) : smW f g 0 = f := by
  funext j
  exact if_neg (by omega)
theorem l_S_take (W : Nat → Nat) (set : Nat) (hs : set < 64) (hw : ∀ k, k < 6 → xS_ways x (k * 64 + set) = lN (W k)) (f : Nat → Int64) : ∀ r t, t + r = 6 → MW M_S_takeWay 2 0 0 (some (.long (lN (sN W 6)))) (heapN N sc (xS_sums_s x (smW f (fun k => lN (W k)) 6)) m tl) 0 0 5 [(0, .ref 18), (1, .int (nI set)), (2, .long (lN (sN W t))), (4, .int (nI t))] [] (heapN N sc (xS_sums_s x (smW f (fun k => lN (W k)) t)) m tl) := by
  intro r
  induction r with
  | zero =>
    intro t ht
    rw [show t = 6 by omega]
    repeat (refine mw_step rfl ?_)
    refine mw_brF rfl (by decide) ?_
    repeat (refine mw_step rfl ?_)
    exact mw_r1 rfl trivial (Nat.le_refl _) (Nat.le_refl _) rfl rfl
  | succ r ih =>
    intro t ht
    have L := ih (t + 1) (by omega)
    rw [← smW_1 f (fun k => lN (W k)) t, show sN W (t + 1) = sN W t + W t from rfl, ← lN_add] at L
    repeat (refine mw_step rfl ?_)
    refine mw_brT rfl (n_lt (b := 6) (by omega) (by omega)) ?_
    repeat (refine mw_step rfl ?_)
    refine mw_call (c_isSet _ _) rfl rfl (Nat.le_of_ble_eq_true rfl) (Nat.le_refl _) (Nat.le_refl _) ?_
    refine mw_brF rfl (bI_ne (rng_in (by omega) (by decide))) ?_
    repeat (refine mw_step rfl ?_)
    refine mw_lld rfl (show nI t * 64 + nI set = nI (t * 64 + set) by rw [show (64 : Int32) = nI 64 from rfl, pk_mul, nI_add]) (by omega) (by decide) ?_
    rw [show xS_ways (xS_sums_s x (smW f (fun k => lN (W k)) t)) (t * 64 + set) = lN (W t) from hw t (by omega)]
    refine mw_lst rfl (rfl) (by omega) (by decide) ?_
    repeat (refine mw_step rfl ?_)
    refine mw_lld rfl (rfl) (by omega) (by decide) ?_
    rw [pk_uLs]
    repeat (refine mw_to 5 rfl rfl ?_)
    rw [nI_1]
    refine mw_pick [0, 1, 2, 4] rfl ?_
    exact L
theorem c_S_take (W : Nat → Nat) (set : Nat) (hs : set < 64) (hw : ∀ k, k < 6 → xS_ways x (k * 64 + set) = lN (W k)) : MC M_S_takeWay 2 0 0 [.ref 18, .int (nI set)] (heapN N sc x m tl) (some (.long (lN (sN W 6)))) (heapN N sc (xS_sums_s x (smW (xS_sums x) (fun k => lN (W k)) 6)) m tl) := by
  have L := l_S_take (N := N) (sc := sc) (x := x) (m := m) (tl := tl) W set hs hw (xS_sums x) 6 0 (by omega)
  rw [smW_0] at L
  refine mc_of k1_S_takeWay k2_S_takeWay (Nat.le_of_ble_eq_true rfl) ?_
  repeat (refine mw_to 5 rfl rfl ?_)
  refine mw_pick [0, 1, 2, 4] rfl ?_
  exact L
/-- a way of all six -/
theorem c_S_take63 (hn : ∀ j kt, nb j kt ≤ 100) (hY : WYS x B nb (wayB 0 0) 63) (set : Nat) (hs : set < 64) : ∃ sm : Nat → Int64, (∀ j, j < 6 → sm j = lN (ks B nb (wayB 63 set) j)) ∧ MC M_S_takeWay 2 0 0 [.ref 18, .int (nI set)] (heapN N sc x m tl) (some (.long (lN (al B nb (wayB 63 set))))) (heapN N sc (xS_sums_s x sm) m tl) :=
  ⟨smW (xS_sums x) (fun k => lN (ks B nb (wayB 63 set) k)) 6, fun j hj => if_pos hj, c_S_take (fun k => ks B nb (wayB 63 set) k) set hs (fun k hk => by rw [hY k set hk hs, wyK_one hn k set hs])⟩
theorem c_T_sumOver (a : Nat) (ha : a < 4) (Co : Nat → Nat) (hC : ∀ k, k < 6 → xT_now x (a * 6 + k) = nI (Co k)) (set : Nat) (hs : set < 64) : MC M_T_sumOver 1 0 0 [.ref 6, .int (nI a), .int (nI set)] (heapN N sc x m tl) (some (.int (nI (sN (fun j => if set.testBit j = true then Co j else 0) 6)))) (heapN N sc x m tl) := by
  have L : ∀ r t, t + r = 6 → MW M_T_sumOver 1 0 0 (some (.int (nI (sN (fun j => if set.testBit j = true then Co j else 0) 6)))) (heapN N sc x m tl) 0 0 5 [(0, .ref 6), (1, .int (nI a)), (2, .int (nI set)), (3, .int (nI (sN (fun j => if set.testBit j = true then Co j else 0) t))), (4, .int (nI t))] [] (heapN N sc x m tl) := by
    intro r
    induction r with
    | zero =>
      intro t ht
      rw [show t = 6 by omega]
      repeat (refine mw_step rfl ?_)
      refine mw_brF rfl (by decide) ?_
      repeat (refine mw_step rfl ?_)
      exact mw_r1 rfl trivial (Nat.le_refl _) (Nat.le_refl _) rfl rfl
    | succ r ih =>
      intro t ht
      have L := ih (t + 1) (by omega)
      rw [show sN (fun j => if set.testBit j = true then Co j else 0) (t + 1) = sN (fun j => if set.testBit j = true then Co j else 0) t + (if set.testBit t = true then Co t else 0) from rfl, ← nI_add] at L
      repeat (refine mw_step rfl ?_)
      refine mw_brT rfl (n_lt (b := 6) (by omega) (by omega)) ?_
      repeat (refine mw_step rfl ?_)
      refine mw_call (c_hasBit _ _ _) rfl rfl (Nat.le_of_ble_eq_true rfl) (Nat.le_refl _) (Nat.le_refl _) ?_
      by_cases h : set.testBit t = true
      · have G := c_T_get (N := N) (sc := sc) (x := x) (m := m) (tl := tl) a t (by omega)
        rw [hC t (by omega)] at G
        rw [if_pos h] at L
        refine mw_brF rfl (bI_ne ((b_has _ hs _ (by omega)).mpr h)) ?_
        repeat (refine mw_step rfl ?_)
        refine mw_call (G) rfl rfl (Nat.le_of_ble_eq_true rfl) (Nat.le_refl _) (Nat.le_refl _) ?_
        repeat (refine mw_to 5 rfl rfl ?_)
        rw [nI_1]
        refine mw_pick [0, 1, 2, 3, 4] rfl ?_
        exact L
      · rw [if_neg h] at L
        refine mw_brT rfl (bI_f (fun z => h ((b_has _ hs _ (by omega)).mp z))) ?_
        repeat (refine mw_to 5 rfl rfl ?_)
        rw [nI_1]
        refine mw_pick [0, 1, 2, 3, 4] rfl ?_
        exact L
  refine mc_of k1_T_sumOver k2_T_sumOver (Nat.le_of_ble_eq_true rfl) ?_
  repeat (refine mw_to 5 rfl rfl ?_)
  refine mw_pick [0, 1, 2, 3, 4] rfl ?_
  exact L 6 0 (by omega)
/-- merging: kinds below kd, and ways below t of kd -/
def mgP (W : Nat → Nat → Nat) (set kd t k v : Nat) : Nat := if k < kd then sN (fun w => if w &&& set = v then W k w else 0) 64 else if k = kd then sN (fun w => if w &&& set = v then W k w else 0) t else 0
theorem mgP_up {W : Nat → Nat → Nat} {set kd k v : Nat} : mgP W set kd 64 k v = mgP W set (kd + 1) 0 k v := by
  unfold mgP
  by_cases h1 : k < kd
  · rw [if_pos h1, if_pos (by omega)]
  · rw [if_neg h1]
    by_cases h2 : k = kd
    · rw [if_pos h2, if_pos (by omega)]
    · rw [if_neg h2, if_neg (by omega)]
      by_cases h3 : k = kd + 1
      · rw [if_pos h3]
        rfl
      · rw [if_neg h3]
theorem b_and63 : ∀ a, a < 64 → nI a &&& 63 = nI a := by decide +kernel
theorem l_S_mg1 (W : Nat → Nat → Nat) (set : Nat) (hs : set < 64) (hY : ∀ k s, k < 6 → s < 64 → xS_ways x (k * 64 + s) = lN (W k s)) (a2 : Int64) (kd : Nat) (hkd : kd < 6) : ∀ r t mg, t + r = 64 → (∀ k v, k < 6 → v < 64 → mg (k * 64 + v) = lN (mgP W set kd t k v)) → ∃ mg' : Nat → Int64, (∀ k v, k < 6 → v < 64 → mg' (k * 64 + v) = lN (mgP W set (kd + 1) 0 k v)) ∧ ∀ {v : Option Value} {hT : MH}, MW M_S_namedBy 1 0 0 v hT 0 0 68 [(0, .ref 18), (1, .int (nI set)), (2, .long a2), (4, .int (nI kd))] [] (heapN N sc (xS_merged_s x mg') m tl) → MW M_S_namedBy 1 0 0 v hT 0 0 21 [(0, .ref 18), (1, .int (nI set)), (2, .long a2), (4, .int (nI kd)), (5, .int (nI t))] [] (heapN N sc (xS_merged_s x mg) m tl) := by
  intro r
  induction r with
  | zero =>
    intro t mg ht h
    have e : t = 64 := by omega
    subst e
    refine ⟨mg, fun k v hk hv => by rw [h k v hk hv, mgP_up], ?_⟩
    intro v hT K
    repeat (refine mw_step rfl ?_)
    refine mw_brF rfl (by decide) ?_
    refine mw_pick [0, 1, 2, 4] rfl ?_
    exact K
  | succ r ih =>
    intro t mg ht h
    have hts : t &&& set < 64 := b_and_lt (by omega)
    have e0 : (nI t &&& nI set) &&& 63 = nI (t &&& set) := by rw [b_and t (by omega) set hs, b_and63 _ hts]
    have e1 : nI kd * 64 + (nI t &&& nI set &&& 63) = nI (kd * 64 + (t &&& set)) := by rw [e0, show (64 : Int32) = nI 64 from rfl, pk_mul, nI_add]
    have e2 : nI kd * 64 + nI t = nI (kd * 64 + t) := by rw [show (64 : Int32) = nI 64 from rfl, pk_mul, nI_add]
    have em := h kd (t &&& set) hkd hts
    obtain ⟨mg', k1, K⟩ := ih (t + 1) (vp_updL mg (kd * 64 + (t &&& set)) (lN (mgP W set kd t kd (t &&& set)) + lN (W kd t))) (by omega) (by
      intro k v hk hv
      by_cases e : k * 64 + v = kd * 64 + (t &&& set)
      · have q1 : k = kd := by omega
        have q2 : v = t &&& set := by omega
        rw [e, pk_uLs, lN_add, q1, q2]
        unfold mgP
        rw [if_neg (by omega), if_pos rfl, if_neg (by omega), if_pos rfl]
        show lN (_ + _) = lN (_ + if t &&& set = t &&& set then W kd t else 0)
        rw [if_pos rfl]
      · rw [pk_uLn e, h k v hk hv]
        unfold mgP
        by_cases q1 : k < kd
        · rw [if_pos q1, if_pos q1]
        · rw [if_neg q1, if_neg q1]
          by_cases q2 : k = kd
          · rw [if_pos q2, if_pos q2]
            show lN _ = lN (_ + if t &&& set = v then W k t else 0)
            rw [if_neg (fun z => e (by rw [q2, ← z])), Nat.add_zero]
          · rw [if_neg q2, if_neg q2])
    refine ⟨mg', k1, ?_⟩
    intro v hT K2
    repeat (refine mw_step rfl ?_)
    refine mw_brT rfl (n_lt (b := 64) (by omega) (by omega)) ?_
    repeat (refine mw_step rfl ?_)
    refine mw_lld rfl (e1) (by omega) (by decide) ?_
    rw [show xS_merged (xS_merged_s x mg) (kd * 64 + (t &&& set)) = lN (mgP W set kd t kd (t &&& set)) from em]
    repeat (refine mw_step rfl ?_)
    refine mw_lld rfl (e2) (by omega) (by decide) ?_
    rw [show xS_ways (xS_merged_s x mg) (kd * 64 + t) = lN (W kd t) from hY kd t hkd (by omega)]
    repeat (refine mw_step rfl ?_)
    refine mw_lst rfl (e1) (by omega) (by decide) ?_
    repeat (refine mw_to 21 rfl rfl ?_)
    rw [nI_1]
    refine mw_pick [0, 1, 2, 4, 5] rfl ?_
    exact K K2
theorem l_S_mg2 (W : Nat → Nat → Nat) (set : Nat) (hs : set < 64) (hY : ∀ k s, k < 6 → s < 64 → xS_ways x (k * 64 + s) = lN (W k s)) (a2 : Int64) : ∀ r kd mg, kd + r = 6 → (∀ k v, k < 6 → v < 64 → mg (k * 64 + v) = lN (mgP W set kd 0 k v)) → ∃ mg' : Nat → Int64, (∀ k v, k < 6 → v < 64 → mg' (k * 64 + v) = lN (sN (fun w => if w &&& set = v then W k w else 0) 64)) ∧ ∀ {v : Option Value} {hT : MH}, MW M_S_namedBy 1 0 0 v hT 0 0 74 [(0, .ref 18), (2, .long a2)] [] (heapN N sc (xS_merged_s x mg') m tl) → MW M_S_namedBy 1 0 0 v hT 0 0 11 [(0, .ref 18), (1, .int (nI set)), (2, .long a2), (4, .int (nI kd))] [] (heapN N sc (xS_merged_s x mg) m tl) := by
  intro r
  induction r with
  | zero =>
    intro kd mg hk h
    have e : kd = 6 := by omega
    subst e
    refine ⟨mg, fun k v hk hv => by rw [h k v hk hv, mgP, if_pos hk], ?_⟩
    intro v hT K
    repeat (refine mw_step rfl ?_)
    refine mw_brF rfl (by decide) ?_
    refine mw_pick [0, 2] rfl ?_
    exact K
  | succ r ih =>
    intro kd mg hk h
    obtain ⟨mg1, h1, K1⟩ := l_S_mg1 (N := N) (sc := sc) (x := x) (m := m) (tl := tl) W set hs hY a2 kd (by omega) 64 0 mg (by omega) h
    obtain ⟨mg2, h2, K2⟩ := ih (kd + 1) mg1 (by omega) h1
    refine ⟨mg2, h2, ?_⟩
    intro v hT K
    repeat (refine mw_step rfl ?_)
    refine mw_brT rfl (n_lt (b := 6) (by omega) (by omega)) ?_
    repeat (refine mw_to 21 rfl rfl ?_)
    refine mw_pick [0, 1, 2, 4, 5] rfl ?_
    refine K1 ?_
    repeat (refine mw_to 11 rfl rfl ?_)
    rw [nI_1]
    refine mw_pick [0, 1, 2, 4] rfl ?_
    exact K2 K
theorem l_S_mx (f : Nat → Nat) (v : Nat) (hv : v < 64) (hf : ∀ k, k < 6 → xS_merged x (k * 64 + v) = lN (f k)) (hb : ∀ k, k < 6 → f k < 2 ^ 62) (a2 a4 : Int64) {u : Option Value} {hT : MH} (K : MW M_S_namedBy 1 0 0 u hT 0 0 126 [(0, .ref 18), (2, .long a2), (4, .long a4), (6, .int (nI v)), (7, .long (lN (mx f 6)))] [] (heapN N sc x m tl)) : ∀ r t, t + r = 6 → MW M_S_namedBy 1 0 0 u hT 0 0 93 [(0, .ref 18), (2, .long a2), (4, .long a4), (6, .int (nI v)), (7, .long (lN (mx f t))), (9, .int (nI t))] [] (heapN N sc x m tl) := by
  have hmx : ∀ t, t ≤ 6 → mx f t < 2 ^ 62 := by
    intro t
    induction t with
    | zero => intro _; show (0 : Nat) < 2 ^ 62; decide
    | succ t ih =>
      intro h
      have := ih (by omega)
      have := hb t (by omega)
      rw [mx]
      omega
  intro r
  induction r with
  | zero =>
    intro t ht
    rw [show t = 6 by omega]
    repeat (refine mw_step rfl ?_)
    refine mw_brF rfl (by decide) ?_
    refine mw_pick [0, 2, 4, 6, 7] rfl ?_
    exact K
  | succ r ih =>
    intro t ht
    have L := ih (t + 1) (by omega)
    have b1 := hmx t (by omega)
    have b2 := hb t (by omega)
    repeat (refine mw_step rfl ?_)
    refine mw_brT rfl (n_lt (b := 6) (by omega) (by omega)) ?_
    repeat (refine mw_step rfl ?_)
    refine mw_lld rfl (show nI t * 64 + nI v = nI (t * 64 + v) by rw [show (64 : Int32) = nI 64 from rfl, pk_mul, nI_add]) (by omega) (by decide) ?_
    rw [hf t (by omega)]
    refine mw_call (c_J_maxL _ _ (by omega) (by omega)) rfl rfl (Nat.le_of_ble_eq_true rfl) (Nat.le_refl _) (Nat.le_refl _) ?_
    repeat (refine mw_to 93 rfl rfl ?_)
    rw [nI_1]
    refine mw_pick [0, 2, 4, 6, 7, 9] rfl ?_
    exact L
theorem l_S_best (g : Nat → Nat → Nat) (hf : ∀ k v, k < 6 → v < 64 → xS_merged x (k * 64 + v) = lN (g k v)) (hb : ∀ k v, k < 6 → v < 64 → g k v < 2 ^ 62) (a2 : Int64) {u : Option Value} {hT : MH} (K : MW M_S_namedBy 1 0 0 u hT 0 0 139 [(0, .ref 18), (2, .long a2), (4, .long (lN (sN (fun v => mx (fun k => g k v) 6) 64)))] [] (heapN N sc x m tl)) : ∀ r t, t + r = 64 → MW M_S_namedBy 1 0 0 u hT 0 0 80 [(0, .ref 18), (2, .long a2), (4, .long (lN (sN (fun v => mx (fun k => g k v) 6) t))), (6, .int (nI t))] [] (heapN N sc x m tl) := by
  intro r
  induction r with
  | zero =>
    intro t ht
    rw [show t = 64 by omega]
    repeat (refine mw_step rfl ?_)
    refine mw_brF rfl (by decide) ?_
    refine mw_pick [0, 2, 4] rfl ?_
    exact K
  | succ r ih =>
    intro t ht
    have L := ih (t + 1) (by omega)
    rw [show sN (fun v => mx (fun k => g k v) 6) (t + 1) = sN (fun v => mx (fun k => g k v) 6) t + mx (fun k => g k t) 6 from rfl, ← lN_add] at L
    repeat (refine mw_step rfl ?_)
    refine mw_brT rfl (n_lt (b := 64) (by omega) (by omega)) ?_
    repeat (refine mw_to 93 rfl rfl ?_)
    refine mw_pick [0, 2, 4, 6, 7, 9] rfl ?_
    refine l_S_mx (fun k => g k t) t (by omega) (fun k hk => hf k t hk (by omega)) (fun k hk => hb k t hk (by omega)) a2 _ ?_ 6 0 (by omega)
    repeat (refine mw_to 80 rfl rfl ?_)
    rw [nI_1]
    refine mw_pick [0, 2, 4, 6] rfl ?_
    exact L
end TW
section NB
variable {sc : Nat × (Nat → Int32)} {x : XS} {m : OS} {N : Nat} {tl : MH} {B : Nat → Nat} {nb : Nat → Nat → Nat} {way : Nat → Nat} {free set : Nat}
theorem mgW_le (hW : WOK B nb) (hS : SOK way free set) (k v : Nat) (hk : k < 6) (hv : v < 64) : sN (fun w => if w &&& set = v then wyK B nb way free k w else 0) 64 < 2 ^ 62 := by
  have h := bsC_le hW hS
  have h1 : mx (fun k => sN (fun w => if w &&& set = v then wyK B nb way free k w else 0) 64) 6 ≤ bsC B nb way free set := sN_mem (f := fun v => mx (fun k => sN (fun w => if w &&& set = v then wyK B nb way free k w else 0) 64) 6) hv
  rw [mx_am] at h1
  have h2 := am_max (fun k => sN (fun w => if w &&& set = v then wyK B nb way free k w else 0) 64) 5 k (by omega)
  have h3 : sN (fun w => if w &&& set = v then wyK B nb way free k w else 0) 64 ≤ 1620000000000000 := Nat.le_trans h2 (Nat.le_trans h1 h)
  omega
def sp_nmA (B : Nat → Nat) (nb : Nat → Nat → Nat) (way : Nat → Nat) (set : Nat) : Int32 := if al B nb way = 0 then -2 else nI (sp_nm B nb way set)
theorem c_S_namedBy (hW : WOK B nb) (hS : SOK way free set) (hY : WYS x B nb way free) : ∃ mg : Nat → Int64, MC M_S_namedBy 1 0 0 [.ref 18, .int (nI set), .long (lN (alC B nb way free))] (heapN N sc x m tl) (some (.int (sp_nmA B nb way set))) (heapN N sc (xS_merged_s x mg) m tl) := by
  have b1 := alC_le hW hS
  have b2 := bsC_le hW hS
  have F := c_J_fill_merged (N := N) (sc := sc) (m := m) (x := x) (tl := tl)
  obtain ⟨mg, h1, K⟩ := l_S_mg2 (N := N) (sc := sc) (x := x) (m := m) (tl := tl) (wyK B nb way free) set hS.2.1 hY (lN (alC B nb way free)) 6 0 (smZ (xS_merged x) 384) (by omega) (by
    intro k v hk hv
    rw [mgP, if_neg (by omega)]
    show (if k * 64 + v < 384 then (0 : Int64) else _) = _
    rw [if_pos (by omega)]
    by_cases e : k = 0
    · rw [if_pos e]
      rfl
    · rw [if_neg e]
      rfl)
  refine ⟨mg, ?_⟩
  refine mc_of k1_S_namedBy k2_S_namedBy (Nat.le_of_ble_eq_true rfl) ?_
  repeat (refine mw_step rfl ?_)
  refine mw_call (F) rfl rfl (Nat.le_of_ble_eq_true rfl) (Nat.le_refl _) (Nat.le_refl _) ?_
  repeat (refine mw_to 11 rfl rfl ?_)
  refine mw_pick [0, 1, 2, 4] rfl ?_
  refine K ?_
  repeat (refine mw_to 80 rfl rfl ?_)
  refine mw_pick [0, 2, 4, 6] rfl ?_
  refine l_S_best (x := xS_merged_s x mg) (fun k v => sN (fun w => if w &&& set = v then wyK B nb way free k w else 0) 64) h1 (fun k v hk hv => mgW_le hW hS k v hk hv) _ ?_ 64 0 (by omega)
  have hal : alC B nb way free = 0 ↔ al B nb way = 0 := by
    rw [alC_eq hW.2 hS]
    constructor
    · intro h
      rcases Nat.mul_eq_zero.mp h with z | z
      · exact absurd z (Nat.ne_of_gt (Nat.pow_pos (by omega)))
      · exact z
    · intro h
      rw [h, Nat.mul_zero]
  show MW _ _ _ _ _ _ _ _ _ [(0, .ref 18), (2, .long (lN (alC B nb way free))), (4, .long (lN (bsC B nb way free set)))] _ _
  unfold sp_nmA
  repeat (refine mw_step rfl ?_)
  by_cases h0 : al B nb way = 0
  · refine mw_brT rfl (by rw [lg_eq0, hal.mpr h0]; rfl) ?_
    repeat (refine mw_step rfl ?_)
    exact mw_r1 rfl trivial (Nat.le_refl _) (Nat.le_refl _) (by rw [if_pos h0]) rfl
  · have h0' : ¬ alC B nb way free = 0 := fun z => h0 (hal.mp z)
    refine mw_brF rfl (by rw [lg_eq0]; exact fun e => h0' ((pk_lEQ (b := 0) (by omega) (by omega)).mp e)) ?_
    repeat (refine mw_step rfl ?_)
    refine mw_div rfl (fun e => h0' ((pk_lEQ (b := 0) (by omega) (by omega)).mp e)) ?_
    rw [show (1000 : Int64) = lN 1000 from rfl, lN_mul, pk_lDiv (by omega) (by omega) (by omega), nm_eq hW.2 hS]
    repeat (refine mw_step rfl ?_)
    rw [lN_i]
    exact mw_r1 rfl trivial (Nat.le_refl _) (Nat.le_refl _) (by rw [if_neg h0]) rfl
end NB
