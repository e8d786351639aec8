/-! next: both sides -/
def up (way : Nat → Nat) (j w : Nat) : Nat → Nat := fun i => if i = j then w else way i
theorem w_pr_up {nbk way : Nat → Nat} {b j w : Nat} (h0 : way j = 0) : ∀ t, w_pr nbk (up way j w) b t = if j < t then w_pr nbk way b t * w_fc w (nbk j) else w_pr nbk way b t
  | 0 => by rw [if_neg (by omega)]; rfl
  | t + 1 => by
    rw [w_pr, w_pr, w_pr_up h0 t]
    by_cases e : t = j
    · subst e
      rw [if_neg (by omega), if_pos (by omega), show up way t w t = w from if_pos rfl, h0, show w_fc 0 (nbk t) = 1 from rfl, Nat.mul_one]
    · rw [show up way j w t = way t from if_neg e]
      by_cases h : j < t
      · rw [if_pos h, if_pos (by omega), Nat.mul_assoc, Nat.mul_comm (w_fc w (nbk j)), ← Nat.mul_assoc]
      · rw [if_neg h, if_neg (by omega)]
theorem wt_up {B : Nat → Nat} {nb : Nat → Nat → Nat} {way : Nat → Nat} {j w : Nat} (hj : j < 6) (h0 : way j = 0) (kt : Nat) : wt B nb (up way j w) kt = wt B nb way kt * w_fc w (nb j kt) := by
  unfold wt
  rw [w_pr_up h0 6, if_pos hj]
theorem al_up {B : Nat → Nat} {nb : Nat → Nat → Nat} {way : Nat → Nat} {j w : Nat} (hj : j < 6) (h0 : way j = 0) : al B nb (up way j w) = sN (fun kt => wt B nb way kt * w_fc w (nb j kt)) 180 := by
  rw [← al_end]
  exact sN_congr (fun kt _ => wt_up hj h0 kt)
theorem wayB_up1 {lk th i j : Nat} : wayB (lk ||| 2 ^ j) (th ||| 2 ^ j) i = up (wayB lk th) j 1 i := by
  unfold wayB up
  rw [Nat.testBit_or, Nat.testBit_or, Nat.testBit_two_pow]
  by_cases h : i = j
  · subst h
    rw [if_pos rfl, decide_eq_true rfl, Bool.or_true, Bool.or_true, if_pos rfl, if_pos rfl]
  · rw [if_neg h, decide_eq_false (fun z => h z.symm), Bool.or_false, Bool.or_false]
theorem wayB_up2 {lk th i j : Nat} (hi : i < 6) : wayB (lk ||| 2 ^ j) (th &&& (2 ^ j ^^^ 63)) i = up (wayB lk th) j 2 i := by
  unfold wayB up
  rw [Nat.testBit_or, b_tb_andn hi, Nat.testBit_two_pow]
  by_cases h : i = j
  · subst h
    rw [if_pos rfl, decide_eq_true rfl, Bool.or_true, Bool.not_true, Bool.and_false, if_pos rfl, if_neg (by decide)]
  · rw [if_neg h, decide_eq_false (fun z => h z.symm), Bool.or_false, Bool.not_false, Bool.and_true]
def MLx (x : XS) (Mi : Nat → Nat) : Prop := ∀ k, k < 6 → xT_now x (12 + k) = nI (Mi k)
def OMm (m : OS) (Mi : Nat → Nat) : Prop := ∀ k, k < 6 → za_may m (12 + k) = nI (Mi k)
def nxG (B Mi : Nat → Nat) (nb : Nat → Nat → Nat) (way : Nat → Nat) (j : Nat) : Nat := max (al B nb (up way j 1)) (al B nb (up way j 2)) * Mi j
abbrev nxC (way : Nat → Nat) : Nat → Prop := fun j => way j = 0
theorem nxG_le {B Mi : Nat → Nat} {nb : Nat → Nat → Nat} {way : Nat → Nat} (hW : WOK B nb) (hM : ∀ k, Mi k ≤ 9) (j : Nat) : nxG B Mi nb way j ≤ 14580000000000000 := by
  have h1 : max (al B nb (up way j 1)) (al B nb (up way j 2)) ≤ 1620000000000000 := Nat.max_le.mpr ⟨al_le hW, al_le hW⟩
  have := Nat.mul_le_mul h1 (hM j)
  unfold nxG
  omega
section NX
variable {sc : Nat × (Nat → Int32)} {x : XS} {m : OS} {P : List PieceS} {B Mi : Nat → Nat} {T : Nat → Option Tx} {k : Nat} {p : PieceS} {lk th : Nat}
theorem MLx_of {x' : XS} {P' : List PieceS} (h : MLx x Mi) (h1 : CR T x x' P P') : MLx x' Mi := by
  obtain ⟨⟨a1, a2, a3, rfl⟩, -⟩ := h1
  exact h
/-- weighing, as calls use it -/
theorem c_wG (hI : CI T B x P) (hp : P[k]? = some p) (lk th : Nat) (hlk : lk < 64) (hth : th < 64) : ∃ x' P' q, CR T x x' P P' ∧ P'[k]? = some q ∧ PSame p q ∧ MC M_S_weigh 4 0 0 [.ref 18, .ref (2 * k + 67), .int (nI lk), .int (nI th)] (heap sc x m P) (some (.long (lN (al B (nbP T p) (wayB lk th))))) (heap sc x' m P') := by
  have hk : k < P.length := (List.getElem?_eq_some_iff.mp hp).1
  obtain ⟨stk, q, sm, s1, s2, s3, s4, C⟩ := c_S_weigh (N := P.length) (sc := sc) (m := m) hI.1 hI.2.1 (WOK_of hI.2.2.1 _ _) hp (hI.2.2.2.2 k p hp).1 lk th hlk hth
  refine ⟨xsc x stk (sm, xS_ways x, xS_merged x, xS_prod x), P.set k q, q, CR_set hI hp s1 s2 _ _, set_get hk q, s1, ?_⟩
  unfold heap
  rw [List.length_set]
  exact C
theorem c_S_greater (hI : CI T B x P) (hp : P[k]? = some p) (hlk : lk < 64) (hth : th < 64) (el : i_looked p = nI lk) (et : i_there p = nI th) (j : Nat) (hj : j < 6) : ∃ x' P' q, CR T x x' P P' ∧ P'[k]? = some q ∧ PSame p q ∧ MC M_S_greaterSum 5 0 0 [.ref 18, .ref (2 * k + 67), .int (nI j)] (heap sc x m P) (some (.long (lN (max (al B (nbP T p) (up (wayB lk th) j 1)) (al B (nbP T p) (up (wayB lk th) j 2)))))) (heap sc x' m P') := by
  have h64 := p2_lt hj
  have hW : WOK B (nbP T p) := WOK_of hI.2.2.1 _ _
  have b1 := al_le (way := up (wayB lk th) j 1) hW
  have b2 := al_le (way := up (wayB lk th) j 2) hW
  obtain ⟨x1, P1, q1, h1, h2, h3, C1⟩ := c_wG (sc := sc) (m := m) hI hp (lk ||| 2 ^ j) (th ||| 2 ^ j) (b_or_lt hlk h64) (b_or_lt hth h64)
  obtain ⟨x2, P2, q2, g1, g2, g3, C2⟩ := c_wG (sc := sc) (m := m) (CI_of hI h1) h2 (lk ||| 2 ^ j) (th &&& (2 ^ j ^^^ 63)) (b_or_lt hlk h64) (b_and_lt hth)
  rw [show nbP T q1 = nbP T p from by show nbW _ _ _ = nbW _ _ _; rw [h3.1, h3.2.1]] at C2
  rw [al_congr (way' := up (wayB lk th) j 1) (fun i _ => wayB_up1)] at C1
  rw [al_congr (way' := up (wayB lk th) j 2) (fun i hi => wayB_up2 hi)] at C2
  refine ⟨x2, P2, q2, CR_trans h1 g1, g2, PSame_trans h3 g3, ?_⟩
  have hi0 := (heapN_gp (N := P.length) (sc := sc) (x := x) (m := m) hp).1
  have hi1 := (heapN_gp (N := P1.length) (sc := sc) (x := x1) (m := m) h2).1
  refine mc_of k1_S_greaterSum k2_S_greaterSum (Nat.le_of_ble_eq_true rfl) ?_
  unfold heap at C1 C2 ⊢
  repeat (refine mw_step rfl ?_)
  refine mw_getf rfl hi0 (by omega) rfl ?_
  repeat (refine mw_step rfl ?_)
  refine mw_getf rfl hi0 (by omega) rfl ?_
  repeat (refine mw_step rfl ?_)
  rw [el, et, b_sh j hj, b_or lk hlk _ h64, b_or th hth _ h64]
  refine mw_call (C1) rfl rfl (Nat.le_of_ble_eq_true rfl) (Nat.le_refl _) (Nat.le_refl _) ?_
  repeat (refine mw_step rfl ?_)
  refine mw_getf rfl hi1 (by omega) rfl ?_
  repeat (refine mw_step rfl ?_)
  refine mw_getf rfl hi1 (by omega) rfl ?_
  repeat (refine mw_step rfl ?_)
  rw [show i_looked q1 = nI lk from h3.2.2.1.trans el, show i_there q1 = nI th from h3.2.2.2.trans et, b_or lk hlk _ h64, b_andn th hth _ h64]
  refine mw_call (C2) rfl rfl (Nat.le_of_ble_eq_true rfl) (Nat.le_refl _) (Nat.le_refl _) ?_
  repeat (refine mw_step rfl ?_)
  refine mw_call (c_J_maxL _ _ (by omega) (by omega)) rfl rfl (Nat.le_of_ble_eq_true rfl) (Nat.le_refl _) (Nat.le_refl _) ?_
  exact mw_r1 rfl trivial (Nat.le_refl _) (Nat.le_refl _) rfl rfl
theorem l_C_next (nb : Nat → Nat → Nat) (hM : ∀ k, Mi k ≤ 9) (hlk : lk < 64) (hth : th < 64) : ∀ r t x P, CI T B x P → MLx x Mi → (∃ p, P[k]? = some p ∧ nb = nbP T p ∧ i_looked p = nI lk ∧ i_there p = nI th) → t + r = 6 → ∃ x' P', CR T x x' P P' ∧ MW M_C_next 6 0 0 (some (.int (sl (nxC (wayB lk th)) (nxG B Mi nb (wayB lk th)) 6).1)) (heap sc x' m P') 0 0 21 [(0, .ref 5), (2, .ref (2 * k + 67)), (3, .int (sl (nxC (wayB lk th)) (nxG B Mi nb (wayB lk th)) t).1), (4, .long (lN (sl (nxC (wayB lk th)) (nxG B Mi nb (wayB lk th)) t).2)), (6, .int (nI t))] [] (heap sc x m P) := by
  intro r
  induction r with
  | zero =>
    intro t x P hI hMx hp ht
    refine ⟨x, P, CR_refl hI, ?_⟩
    rw [show t = 6 by omega]
    unfold heap
    repeat (refine mw_step rfl ?_)
    refine mw_brF rfl (by decide) ?_
    repeat (refine mw_step rfl ?_)
    exact mw_r1 rfl trivial (Nat.le_refl _) (Nat.le_refl _) rfl rfl
  | succ r ih =>
    intro t x P hI hMx hp ht
    obtain ⟨p, hp, e, el, et⟩ := hp
    have hi0 := (heapN_gp (N := P.length) (sc := sc) (x := x) (m := m) hp).1
    have hW : WOK B nb := by rw [e]; exact WOK_of hI.2.2.1 _ _
    have hg := nxG_le (way := wayB lk th) hW hM
    have hway : wayB lk th t = 0 ↔ ¬ lk.testBit t = true := by
      unfold wayB
      by_cases h : lk.testBit t = true
      · rw [if_pos h]
        exact ⟨fun z => by split at z <;> omega, fun z => absurd h z⟩
      · rw [if_neg h]
        exact ⟨fun _ => h, fun _ => rfl⟩
    by_cases hb : lk.testBit t = true
    · obtain ⟨x2, P2, h2, K⟩ := ih (t + 1) x P hI hMx ⟨p, hp, e, el, et⟩ (by omega)
      refine ⟨x2, P2, h2, ?_⟩
      rw [sl_s (nxC (wayB lk th)) (nxG B Mi nb (wayB lk th)) t, if_neg (show ¬ nxC (wayB lk th) t from fun z => (hway.mp z) hb)] at K
      unfold heap at K ⊢
      repeat (refine mw_step rfl ?_)
      refine mw_brT rfl (n_lt (b := 6) (by omega) (by omega)) ?_
      repeat (refine mw_step rfl ?_)
      refine mw_getf rfl hi0 (by omega) rfl ?_
      rw [el]
      repeat (refine mw_step rfl ?_)
      refine mw_call (c_hasBit _ _ _) rfl rfl (Nat.le_of_ble_eq_true rfl) (Nat.le_refl _) (Nat.le_refl _) ?_
      refine mw_brF rfl (bI_ne ((b_has _ hlk _ (by omega)).mpr hb)) ?_
      repeat (refine mw_to 21 rfl rfl ?_)
      rw [nI_1]
      refine mw_pick [0, 2, 3, 4, 6] rfl ?_
      exact K
    · obtain ⟨x1, P1, q, h1, h2, h3, C⟩ := c_S_greater (sc := sc) (m := m) hI hp hlk hth el et t (by omega)
      obtain ⟨x2, P2, h4, K⟩ := ih (t + 1) x1 P1 (CI_of hI h1) (MLx_of hMx h1) ⟨q, h2, by rw [e]; show nbW _ _ _ = nbW _ _ _; rw [h3.1, h3.2.1], h3.2.2.1.trans el, h3.2.2.2.trans et⟩ (by omega)
      refine ⟨x2, P2, CR_trans h1 h4, ?_⟩
      rw [← e] at C
      have G := c_T_get (N := P1.length) (sc := sc) (x := x1) (m := m) (tl := pcells 67 P1) 2 t (by omega)
      rw [show 2 * 6 + t = 12 + t by omega, MLx_of hMx h1 t (by omega)] at G
      have b1 := hg t
      have b2 := sl_le (nxC (wayB lk th)) (nxG B Mi nb (wayB lk th)) hg t (by omega)
      have eg : lN (max (al B nb (up (wayB lk th) t 1)) (al B nb (up (wayB lk th) t 2))) * (nI (Mi t)).toInt64 = lN (nxG B Mi nb (wayB lk th) t) := by
        rw [nI_l (by have := hM t; omega), lN_mul]
        rfl
      rw [sl_s (nxC (wayB lk th)) (nxG B Mi nb (wayB lk th)) t, if_pos (show nxC (wayB lk th) t from hway.mpr hb)] at K
      unfold heap at C K ⊢
      repeat (refine mw_step rfl ?_)
      refine mw_brT rfl (n_lt (b := 6) (by omega) (by omega)) ?_
      repeat (refine mw_step rfl ?_)
      refine mw_getf rfl hi0 (by omega) rfl ?_
      rw [el]
      repeat (refine mw_step rfl ?_)
      refine mw_call (c_hasBit _ _ _) rfl rfl (Nat.le_of_ble_eq_true rfl) (Nat.le_refl _) (Nat.le_refl _) ?_
      refine mw_brT rfl (bI_f (fun z => hb ((b_has _ hlk _ (by omega)).mp z))) ?_
      repeat (refine mw_step rfl ?_)
      refine mw_call (C) rfl rfl (Nat.le_of_ble_eq_true rfl) (Nat.le_refl _) (Nat.le_refl _) ?_
      repeat (refine mw_step rfl ?_)
      refine mw_call (G) rfl rfl (Nat.le_of_ble_eq_true rfl) (Nat.le_refl _) (Nat.le_refl _) ?_
      repeat (refine mw_step rfl ?_)
      rw [eg]
      by_cases hn : (sl (nxC (wayB lk th)) (nxG B Mi nb (wayB lk th)) t).1 = -2
      · rw [if_pos (Or.inl hn)] at K
        refine mw_brT rfl (hn) ?_
        repeat (refine mw_to 21 rfl rfl ?_)
        rw [nI_1]
        refine mw_pick [0, 2, 3, 4, 6] rfl ?_
        exact K
      · refine mw_brF rfl (hn) ?_
        repeat (refine mw_step rfl ?_)
        by_cases hl : nxG B Mi nb (wayB lk th) t < (sl (nxC (wayB lk th)) (nxG B Mi nb (wayB lk th)) t).2
        · rw [if_pos (Or.inr hl)] at K
          refine mw_brT rfl (by rw [lg_lt0]; exact (pk_lLT (by omega) (by omega)).mpr hl) ?_
          repeat (refine mw_to 21 rfl rfl ?_)
          rw [nI_1]
          refine mw_pick [0, 2, 3, 4, 6] rfl ?_
          exact K
        · rw [if_neg (fun z => z.elim hn hl)] at K
          refine mw_brF rfl (by rw [lg_lt0]; exact fun z => hl ((pk_lLT (by omega) (by omega)).mp z)) ?_
          repeat (refine mw_to 21 rfl rfl ?_)
          rw [nI_1]
          refine mw_pick [0, 2, 3, 4, 6] rfl ?_
          exact K
theorem c_C_next_bad (h8 : P.length ≤ 8) (k : Int32) (h : ¬ ∃ j, j < P.length ∧ k = nI j) : MC M_C_next 6 0 0 [.ref 5, .int k] (heap sc x m P) (some (.int (-1))) (heap sc x m P) := by
  refine mc_of k1_C_next k2_C_next (Nat.le_of_ble_eq_true rfl) ?_
  unfold heap
  repeat (refine mw_step rfl ?_)
  refine mw_call (c_pieceAt_bad _ h8 h) rfl rfl (Nat.le_of_ble_eq_true rfl) (Nat.le_refl _) (Nat.le_refl _) ?_
  repeat (refine mw_step rfl ?_)
  exact mw_r1 rfl trivial (Nat.le_refl _) (Nat.le_refl _) rfl rfl
theorem c_C_next (hI : CI T B x P) (hMx : MLx x Mi) (hM : ∀ k, Mi k ≤ 9) (hp : P[k]? = some p) (hlk : lk < 64) (hth : th < 64) (el : i_looked p = nI lk) (et : i_there p = nI th) : ∃ x' P', CR T x x' P P' ∧ MC M_C_next 6 0 0 [.ref 5, .int (nI k)] (heap sc x m P) (some (.int (sl (nxC (wayB lk th)) (nxG B Mi (nbP T p) (wayB lk th)) 6).1)) (heap sc x' m P') := by
  have hk : k < P.length := (List.getElem?_eq_some_iff.mp hp).1
  obtain ⟨x', P', h1, K⟩ := l_C_next (sc := sc) (m := m) (k := k) (T := T) (B := B) (nbP T p) hM hlk hth 6 0 x P hI hMx ⟨p, hp, rfl, el, et⟩ (by omega)
  refine ⟨x', P', h1, ?_⟩
  refine mc_of k1_C_next k2_C_next (Nat.le_of_ble_eq_true rfl) ?_
  unfold heap at K ⊢
  repeat (refine mw_step rfl ?_)
  refine mw_call (c_pieceAt k hI.2.2.2.1 hk) rfl rfl (Nat.le_of_ble_eq_true rfl) (Nat.le_refl _) (Nat.le_refl _) ?_
  repeat (refine mw_to 21 rfl rfl ?_)
  refine mw_pick [0, 2, 3, 4, 6] rfl ?_
  exact K
end NX
section ONX
variable {N : Nat} {sc : Nat × (Nat → Int32)} {x : XS} {m : OS} {tl : MH} {T : Nat → Option Tx} {B Mi : Nat → Nat} {n k : Nat} {way : Nat → Nat} {nb : Nat → Nat → Nat}
theorem l_O_next1 (hW : WIN m B nb way) (hO : OSM m B nb way) (j : Nat) (hj : j < 6) (bst : Int32) (ls : Int64) {v : Option Value} {hT : MH} (K : MW M_O_next 48 0 0 v hT 0 0 117 [(0, .ref 39), (2, .int bst), (3, .long ls), (5, .int (nI j)), (6, .long (lN (sN (fun kt => wt B nb way kt * w_fc 1 (nb j kt)) 180))), (8, .long (lN (sN (fun kt => wt B nb way kt * w_fc 2 (nb j kt)) 180)))] [] (heapN N sc x m tl)) : ∀ r t, t + r = 180 → MW M_O_next 48 0 0 v hT 0 0 52 [(0, .ref 39), (2, .int bst), (3, .long ls), (5, .int (nI j)), (6, .long (lN (sN (fun kt => wt B nb way kt * w_fc 1 (nb j kt)) t))), (8, .long (lN (sN (fun kt => wt B nb way kt * w_fc 2 (nb j kt)) t))), (10, .int (nI t))] [] (heapN N sc x m tl) := by
  intro r
  induction r with
  | zero =>
    intro t ht
    rw [show t = 180 by omega]
    repeat (refine mw_step rfl ?_)
    refine mw_brF rfl (by decide) ?_
    refine mw_pick [0, 2, 3, 5, 6, 8] rfl ?_
    exact K
  | succ r ih =>
    intro t ht
    obtain ⟨w1, w0, w2, w3, w4⟩ := hW
    have hnb := w2 j t
    have L := ih (t + 1) (by omega)
    rw [show sN (fun kt => wt B nb way kt * w_fc 1 (nb j kt)) (t + 1) = sN (fun kt => wt B nb way kt * w_fc 1 (nb j kt)) t + wt B nb way t * nb j t from rfl, show sN (fun kt => wt B nb way kt * w_fc 2 (nb j kt)) (t + 1) = sN (fun kt => wt B nb way kt * w_fc 2 (nb j kt)) t + wt B nb way t * (100 - nb j t) from rfl, ← lN_add, ← lN_add, ← lN_mul, ← lN_mul, ← nI_l (n := 100 - nb j t) (by omega), ← pk_sub hnb, ← nI_l (n := nb j t) (by omega)] at L
    repeat (refine mw_step rfl ?_)
    refine mw_brT rfl (n_lt (b := 180) (by omega) (by omega)) ?_
    repeat (refine mw_step rfl ?_)
    refine mw_ild rfl (show (180 : Int32) * nI j + nI t = nI (180 * j + t) by rw [show (180 : Int32) = nI 180 from rfl, pk_mul, nI_add]) (by omega) (by decide) ?_
    rw [w3 j t hj (by omega)]
    repeat (refine mw_step rfl ?_)
    refine mw_lld rfl (rfl) (by omega) (by decide) ?_
    rw [hO.1 t (by omega)]
    repeat (refine mw_step rfl ?_)
    refine mw_lld rfl (rfl) (by omega) (by decide) ?_
    rw [hO.1 t (by omega)]
    repeat (refine mw_to 52 rfl rfl ?_)
    rw [nI_1]
    refine mw_pick [0, 2, 3, 5, 6, 8, 10] rfl ?_
    exact L
theorem l_O_next2 (hM : ∀ k, Mi k ≤ 9) (hMm : OMm m Mi) (hW : WIN m B nb way) (hO : OSM m B nb way) : ∀ r t, t + r = 6 → MW M_O_next 48 0 0 (some (.int (sl (nxC way) (nxG B Mi nb way) 6).1)) (heapN N sc x m tl) 0 0 23 [(0, .ref 39), (2, .int (sl (nxC way) (nxG B Mi nb way) t).1), (3, .long (lN (sl (nxC way) (nxG B Mi nb way) t).2)), (5, .int (nI t))] [] (heapN N sc x m tl) := by
  have hW2 : WOK B nb := ⟨hW.2.1, hW.2.2.1⟩
  have hg := nxG_le (way := way) hW2 hM
  intro r
  induction r with
  | zero =>
    intro t ht
    rw [show t = 6 by omega]
    repeat (refine mw_step rfl ?_)
    refine mw_brF rfl (by decide) ?_
    repeat (refine mw_step rfl ?_)
    exact mw_r1 rfl trivial (Nat.le_refl _) (Nat.le_refl _) rfl rfl
  | succ r ih =>
    intro t ht
    have L := ih (t + 1) (by omega)
    have hwy := hW.2.2.2.2 t (by omega)
    rw [sl_s (nxC way) (nxG B Mi nb way) t] at L
    have b1 := hg t
    have b2 := sl_le (nxC way) (nxG B Mi nb way) hg t (by omega)
    have a1 := al_le (way := up way t 1) hW2
    have a2 := al_le (way := up way t 2) hW2
    repeat (refine mw_step rfl ?_)
    refine mw_brT rfl (n_lt (b := 6) (by omega) (by omega)) ?_
    repeat (refine mw_step rfl ?_)
    refine mw_ild rfl (rfl) (by omega) (by decide) ?_
    rw [hwy.1]
    by_cases h0 : way t = 0
    · rw [if_pos (show nxC way t from h0)] at L
      refine mw_brT rfl (by rw [h0]; rfl) ?_
      repeat (refine mw_to 52 rfl rfl ?_)
      refine mw_pick [0, 2, 3, 5, 6, 8, 10] rfl ?_
      refine l_O_next1 hW hO t (by omega) _ _ ?_ 180 0 (by omega)
      rw [← al_up (B := B) (nb := nb) (way := way) (w := 1) (show t < 6 by omega) h0, ← al_up (B := B) (nb := nb) (way := way) (w := 2) (show t < 6 by omega) h0]
      have eg : lN (max (al B nb (up way t 1)) (al B nb (up way t 2))) * (nI (Mi t)).toInt64 = lN (nxG B Mi nb way t) := by
        rw [nI_l (by have := hM t; omega), lN_mul]
        rfl
      have F : MW M_O_next 48 0 0 (some (.int (sl (nxC way) (nxG B Mi nb way) 6).1)) (heapN N sc x m tl) 0 0 132 [(0, .ref 39), (2, .int (sl (nxC way) (nxG B Mi nb way) t).1), (3, .long (lN (sl (nxC way) (nxG B Mi nb way) t).2)), (5, .int (nI t))] [.long (lN (max (al B nb (up way t 1)) (al B nb (up way t 2))))] (heapN N sc x m tl) := by
        repeat (refine mw_step rfl ?_)
        refine mw_ild rfl (show (12 : Int32) + nI t = nI (12 + t) by rw [show (12 : Int32) = nI 12 from rfl, nI_add]) (by omega) (by decide) ?_
        rw [show za_may m (12 + t) = nI (Mi t) from hMm t (by omega)]
        repeat (refine mw_step rfl ?_)
        rw [eg]
        by_cases hn : (sl (nxC way) (nxG B Mi nb way) t).1 = -2
        · rw [if_pos (Or.inl hn)] at L
          refine mw_brT rfl ((sl_neg _ _ t (by omega)).mpr hn) ?_
          repeat (refine mw_to 23 rfl rfl ?_)
          rw [nI_1]
          refine mw_pick [0, 2, 3, 5] rfl ?_
          exact L
        · refine mw_brF rfl (fun z => hn ((sl_neg _ _ t (by omega)).mp z)) ?_
          repeat (refine mw_step rfl ?_)
          by_cases hl : nxG B Mi nb way t < (sl (nxC way) (nxG B Mi nb way) t).2
          · rw [if_pos (Or.inr hl)] at L
            refine mw_brT rfl (by rw [lg_lt0]; exact (pk_lLT (by omega) (by omega)).mpr hl) ?_
            repeat (refine mw_to 23 rfl rfl ?_)
            rw [nI_1]
            refine mw_pick [0, 2, 3, 5] rfl ?_
            exact L
          · rw [if_neg (fun z => z.elim hn hl)] at L
            refine mw_brF rfl (by rw [lg_lt0]; exact fun z => hl ((pk_lLT (by omega) (by omega)).mp z)) ?_
            repeat (refine mw_to 23 rfl rfl ?_)
            rw [nI_1]
            refine mw_pick [0, 2, 3, 5] rfl ?_
            exact L
      repeat (refine mw_step rfl ?_)
      by_cases h : al B nb (up way t 2) < al B nb (up way t 1)
      · refine mw_brT rfl (by rw [lg_gt0]; exact (pk_lLT (by omega) (by omega)).mpr h) ?_
        rw [Nat.max_eq_left (by omega)] at F
        repeat (refine mw_to 132 rfl rfl ?_)
        refine mw_pick [0, 2, 3, 5] rfl ?_
        exact F
      · refine mw_brF rfl (by rw [lg_gt0]; exact fun z => h ((pk_lLT (by omega) (by omega)).mp z)) ?_
        rw [Nat.max_eq_right (by omega)] at F
        repeat (refine mw_to 132 rfl rfl ?_)
        refine mw_pick [0, 2, 3, 5] rfl ?_
        exact F
    · rw [if_neg (show ¬ nxC way t from h0)] at L
      refine mw_brF rfl (nI_ne0 (by omega) (by omega)) ?_
      repeat (refine mw_to 23 rfl rfl ?_)
      rw [nI_1]
      refine mw_pick [0, 2, 3, 5] rfl ?_
      exact L
theorem c_O_next_bad (hI : OI T B n m) (k : Int32) (h : ¬ ∃ j, j < n ∧ k = nI j) : MC M_O_next 48 0 0 [.ref 39, .int k] (heapN N sc x m tl) (some (.int (-1))) (heapN N sc x m tl) := by
  refine mc_of k1_O_next k2_O_next (Nat.le_of_ble_eq_true rfl) ?_
  repeat (refine mw_step rfl ?_)
  refine mw_call (c_O_isPart _) rfl rfl (Nat.le_of_ble_eq_true rfl) (Nat.le_refl _) (Nat.le_refl _) ?_
  refine mw_brT rfl (bI_f (fun z => h (n_predN (by have := hI.2.2.2.2; omega) (by rw [hI.2.2.2.1] at z; exact z)))) ?_
  repeat (refine mw_step rfl ?_)
  exact mw_r1 rfl trivial (Nat.le_refl _) (Nat.le_refl _) rfl rfl
theorem c_O_next (hI : OI T B n m) (hM : ∀ k, Mi k ≤ 9) (hMm : OMm m Mi) (hk : k < n) (hf : FW (zp_found m) k way) : ∃ m', OR m m' ∧ MC M_O_next 48 0 0 [.ref 39, .int (nI k)] (heapN N sc x m tl) (some (.int (sl (nxC way) (nxG B Mi (nbO T m k) way) 6).1)) (heapN N sc x m' tl) := by
  obtain ⟨m', h1, h2, h3, C⟩ := c_oF (N := N) (sc := sc) (x := x) (tl := tl) hI hk hf
  have hMm' : OMm m' Mi := by
    obtain ⟨a1, a2, a3, rfl⟩ := h1
    exact hMm
  refine ⟨m', h1, ?_⟩
  refine mc_of k1_O_next k2_O_next (Nat.le_of_ble_eq_true rfl) ?_
  repeat (refine mw_step rfl ?_)
  refine mw_call (c_O_isPart _) rfl rfl (Nat.le_of_ble_eq_true rfl) (Nat.le_refl _) (Nat.le_refl _) ?_
  refine mw_brF rfl (bI_ne (isPart_of hI hk)) ?_
  repeat (refine mw_step rfl ?_)
  refine mw_call (C) rfl rfl (Nat.le_of_ble_eq_true rfl) (Nat.le_refl _) (Nat.le_refl _) ?_
  repeat (refine mw_to 23 rfl rfl ?_)
  refine mw_pick [0, 2, 3, 5] rfl ?_
  exact l_O_next2 hM hMm' h3 h2 6 0 (by omega)
end ONX
