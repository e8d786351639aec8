/-! percent, likeliest, when, likely: as they are called -/
theorem gB_al {B : Nat → Nat} {nb : Nat → Nat → Nat} {way : Nat → Nat} : (gB (ks B nb way) 6).1 = if al B nb way = 0 then -2 else nI (am (ks B nb way) 5) := by
  rw [gB_am (ks B nb way) 5]
  by_cases h : al B nb way = 0
  · rw [if_pos h, if_pos (am_0.mpr h)]
  · rw [if_neg h, if_neg (fun z => h (am_0.mp z))]
theorem gB_ks {B : Nat → Nat} {nb : Nat → Nat → Nat} {way : Nat → Nat} (kd : Nat) : (gB (wK B nb way kd) 30).1 = if ks B nb way kd = 0 then -2 else nI (am (wK B nb way kd) 29) := by
  rw [gB_am (wK B nb way kd) 29]
  by_cases h : ks B nb way kd = 0
  · rw [if_pos h, if_pos ((am_k0 kd).mpr h)]
  · rw [if_neg h, if_neg (fun z => h ((am_k0 kd).mp z))]
/-- what the calls answer -/
def sp_pct (B : Nat → Nat) (nb : Nat → Nat → Nat) (way : Nat → Nat) (kd : Nat) : Nat := ks B nb way kd * 100 / al B nb way
theorem sp_pct_le {B : Nat → Nat} {nb : Nat → Nat → Nat} {way : Nat → Nat} {kd : Nat} (hkd : kd < 6) : sp_pct B nb way kd ≤ 100 := by
  unfold sp_pct
  by_cases h : al B nb way = 0
  · rw [h, Nat.div_zero]; omega
  · have h1 : ks B nb way kd ≤ al B nb way := ks_al kd hkd
    have h2 : ks B nb way kd * 100 ≤ 100 * al B nb way := by omega
    exact Nat.div_le_of_le_mul (by omega)
def sp_ml (B : Nat → Nat) (nb : Nat → Nat → Nat) (way : Nat → Nat) : Int32 := if al B nb way = 0 then -2 else nI (am (ks B nb way) 5)
def sp_when (B : Nat → Nat) (nb : Nat → Nat → Nat) (way : Nat → Nat) (kd : Nat) (what : Int32) : Int32 := if ks B nb way kd = 0 then -2 else if what = 0 then nI (am (wK B nb way kd) 29) else if what = 1 then fr (wK B nb way kd) 30 else lr (wK B nb way kd) 30
def sp_lik (B : Nat → Nat) (nb : Nat → Nat → Nat) (way : Nat → Nat) (kd : Nat) (part : Int32) : Int64 := if ks B nb way kd = 0 then part.toInt64 else if part = 0 then lN (ks B nb way kd / Nat.gcd (ks B nb way kd) (al B nb way)) else lN (al B nb way / Nat.gcd (ks B nb way kd) (al B nb way))
def sp_pk (n : Nat) (pk : Int32) : Prop := (∃ k, k < n ∧ pk / 10 = nI k) ∧ (0 ≤ pk - pk / 10 * 10 ∧ pk - pk / 10 * 10 ≤ nI 5)
section C2
variable {sc : Nat × (Nat → Int32)} {x : XS} {m : OS} {P : List PieceS} {B : Nat → Nat} {T : Nat → Option Tx} {k : Nat} {p : PieceS} {lk th : Nat}
abbrev nbP (T : Nat → Option Tx) (p : PieceS) : Nat → Nat → Nat := nbW T (i_wood p) (i_place p)
theorem WOK_of (h9 : ∀ k, B k ≤ 9) (w pl : Int32) : WOK B (nbW T w pl) := ⟨h9, fun j kt => nbW_le _ _ _ _ _⟩
/-- weighing a piece, as calls use it -/
theorem c_wF (hI : CI T B x P) (hp : P[k]? = some p) (hlk : lk < 64) (hth : th < 64) (el : i_looked p = nI lk) (et : i_there p = nI th) : ∃ x' P' q, CR T x x' P P' ∧ P'[k]? = some q ∧ PSame p q ∧ KNs T q lk ∧ SMS x' (ks B (nbP T p) (wayB lk th)) ∧ MC M_S_weighFound 5 0 0 [.ref 18, .ref (2 * k + 67)] (heap sc x m P) (some (.long (lN (al B (nbP T p) (wayB lk th))))) (heap sc x' m P') := by
  have hk : k < P.length := (List.getElem?_eq_some_iff.mp hp).1
  obtain ⟨stk, q, sm, s1, s2, s3, s4, C⟩ := c_S_weighFound (N := P.length) (sc := sc) (m := m) hI.1 hI.2.1 (WOK_of hI.2.2.1 _ _) hp (hI.2.2.2.2 k p hp).1 lk th hlk hth el et
  refine ⟨xsc x stk (sm, xS_ways x, xS_merged x, xS_prod x), P.set k q, q, CR_set hI hp s1 s2 _ _, set_get hk q, s1, s3, s4, ?_⟩
  unfold heap
  rw [List.length_set]
  exact C
theorem c_C_percent_bad (h8 : P.length ≤ 8) (pk : Int32) (h : ¬ sp_pk P.length pk) : MC M_C_percent 7 0 0 [.ref 5, .int pk] (heap sc x m P) (some (.int (-1))) (heap sc x m P) := by
  refine mc_of k1_C_percent k2_C_percent (Nat.le_of_ble_eq_true rfl) ?_
  unfold heap
  repeat (refine mw_step rfl ?_)
  refine mw_div rfl (by decide) ?_
  by_cases hk : ∃ j, j < P.length ∧ pk / 10 = nI j
  · have hk' := hk
    obtain ⟨k, hk, e⟩ := hk
    rw [show pk / 10 = nI k from e]
    refine mw_call (c_pieceAt k h8 hk) rfl rfl (Nat.le_of_ble_eq_true rfl) (Nat.le_refl _) (Nat.le_refl _) ?_
    repeat (refine mw_step rfl ?_)
    refine mw_div rfl (by decide) ?_
    repeat (refine mw_step rfl ?_)
    refine mw_call (c_isKind _ _) rfl rfl (Nat.le_of_ble_eq_true rfl) (Nat.le_refl _) (Nat.le_refl _) ?_
    refine mw_br rfl (fun h1 => ?_) (fun h1 => ?_)
    · repeat (refine mw_step rfl ?_)
      exact mw_r1 rfl trivial (Nat.le_refl _) (Nat.le_refl _) rfl rfl
    · exact absurd ⟨hk', bI_of h1⟩ h
  · refine mw_call (c_pieceAt_bad _ h8 hk) rfl rfl (Nat.le_of_ble_eq_true rfl) (Nat.le_refl _) (Nat.le_refl _) ?_
    repeat (refine mw_step rfl ?_)
    refine mw_div rfl (by decide) ?_
    repeat (refine mw_step rfl ?_)
    exact mw_r1 rfl trivial (Nat.le_refl _) (Nat.le_refl _) rfl rfl
theorem c_S_percentFound (hI : CI T B x P) (hp : P[k]? = some p) (hlk : lk < 64) (hth : th < 64) (el : i_looked p = nI lk) (et : i_there p = nI th) (kd : Nat) (hkd : kd < 6) : ∃ x' P', CR T x x' P P' ∧ MC M_S_percentFound 6 0 0 [.ref 18, .ref (2 * k + 67), .int (nI kd)] (heap sc x m P) (some (.int (nI (sp_pct B (nbP T p) (wayB lk th) kd)))) (heap sc x' m P') := by
  obtain ⟨x', P', q, h1, h2, h3, h4, h5, C⟩ := c_wF (sc := sc) (m := m) hI hp hlk hth el et
  have hal : al B (nbP T p) (wayB lk th) ≤ 1620000000000000 := al_le (WOK_of hI.2.2.1 _ _)
  refine ⟨x', P', h1, ?_⟩
  refine mc_of k1_S_percentFound k2_S_percentFound (Nat.le_of_ble_eq_true rfl) ?_
  unfold heap at C ⊢
  repeat (refine mw_step rfl ?_)
  refine mw_call (C) rfl rfl (Nat.le_of_ble_eq_true rfl) (Nat.le_refl _) (Nat.le_refl _) ?_
  refine mw_call (c_S_percentOf h5 (al B (nbP T p) (wayB lk th)) kd hkd (by omega) (ks_al kd hkd)) rfl rfl (Nat.le_of_ble_eq_true rfl) (Nat.le_refl _) (Nat.le_refl _) ?_
  exact mw_r1 rfl trivial (Nat.le_refl _) (Nat.le_refl _) rfl rfl
theorem c_C_percent (hI : CI T B x P) (hp : P[k]? = some p) (hlk : lk < 64) (hth : th < 64) (el : i_looked p = nI lk) (et : i_there p = nI th) (pk : Int32) (kd : Nat) (e1 : pk / 10 = nI k) (e2 : pk - pk / 10 * 10 = nI kd) (hkd : kd < 6) : ∃ x' P', CR T x x' P P' ∧ MC M_C_percent 7 0 0 [.ref 5, .int pk] (heap sc x m P) (some (.int (nI (sp_pct B (nbP T p) (wayB lk th) kd)))) (heap sc x' m P') := by
  have hk : k < P.length := (List.getElem?_eq_some_iff.mp hp).1
  obtain ⟨x', P', h1, C⟩ := c_S_percentFound (sc := sc) (m := m) hI hp hlk hth el et kd hkd
  refine ⟨x', P', h1, ?_⟩
  refine mc_of k1_C_percent k2_C_percent (Nat.le_of_ble_eq_true rfl) ?_
  unfold heap at C ⊢
  repeat (refine mw_step rfl ?_)
  refine mw_div rfl (by decide) ?_
  rw [show pk / 10 = nI k from e1]
  refine mw_call (c_pieceAt k hI.2.2.2.1 hk) rfl rfl (Nat.le_of_ble_eq_true rfl) (Nat.le_refl _) (Nat.le_refl _) ?_
  repeat (refine mw_step rfl ?_)
  refine mw_div rfl (by decide) ?_
  rw [show pk - pk / 10 * 10 = nI kd from e2]
  repeat (refine mw_step rfl ?_)
  refine mw_call (c_isKind _ _) rfl rfl (Nat.le_of_ble_eq_true rfl) (Nat.le_refl _) (Nat.le_refl _) ?_
  refine mw_brF rfl (bI_ne (rng_in (by omega) (by decide))) ?_
  repeat (refine mw_step rfl ?_)
  refine mw_call (C) rfl rfl (Nat.le_of_ble_eq_true rfl) (Nat.le_refl _) (Nat.le_refl _) ?_
  exact mw_r1 rfl trivial (Nat.le_refl _) (Nat.le_refl _) rfl rfl
theorem c_C_likeliest_bad (h8 : P.length ≤ 8) (k : Int32) (h : ¬ ∃ j, j < P.length ∧ k = nI j) : MC M_C_likeliest 6 0 0 [.ref 5, .int k] (heap sc x m P) (some (.int (-1))) (heap sc x m P) := by
  refine mc_of k1_C_likeliest k2_C_likeliest (Nat.le_of_ble_eq_true rfl) ?_
  unfold heap
  repeat (refine mw_step rfl ?_)
  refine mw_call (c_pieceAt_bad _ h8 h) rfl rfl (Nat.le_of_ble_eq_true rfl) (Nat.le_refl _) (Nat.le_refl _) ?_
  repeat (refine mw_step rfl ?_)
  exact mw_r1 rfl trivial (Nat.le_refl _) (Nat.le_refl _) rfl rfl
theorem c_C_likeliest (hI : CI T B x P) (hp : P[k]? = some p) (hlk : lk < 64) (hth : th < 64) (el : i_looked p = nI lk) (et : i_there p = nI th) : ∃ x' P', CR T x x' P P' ∧ MC M_C_likeliest 6 0 0 [.ref 5, .int (nI k)] (heap sc x m P) (some (.int (sp_ml B (nbP T p) (wayB lk th)))) (heap sc x' m P') := by
  have hk : k < P.length := (List.getElem?_eq_some_iff.mp hp).1
  obtain ⟨x', P', q, h1, h2, h3, h4, h5, C⟩ := c_wF (sc := sc) (m := m) hI hp hlk hth el et
  refine ⟨x', P', h1, ?_⟩
  rw [sp_ml, ← gB_al]
  refine mc_of k1_C_likeliest k2_C_likeliest (Nat.le_of_ble_eq_true rfl) ?_
  unfold heap at C ⊢
  repeat (refine mw_step rfl ?_)
  refine mw_call (c_pieceAt k hI.2.2.2.1 hk) rfl rfl (Nat.le_of_ble_eq_true rfl) (Nat.le_refl _) (Nat.le_refl _) ?_
  repeat (refine mw_step rfl ?_)
  refine mw_call (C) rfl rfl (Nat.le_of_ble_eq_true rfl) (Nat.le_refl _) (Nat.le_refl _) ?_
  repeat (refine mw_step rfl ?_)
  refine mw_call (c_S_gk h5 (fun j _ => Nat.lt_of_le_of_lt (ks_le (WOK_of hI.2.2.1 (T := T) (i_wood p) (i_place p)) j) (by decide))) rfl rfl (Nat.le_of_ble_eq_true rfl) (Nat.le_refl _) (Nat.le_refl _) ?_
  exact mw_r1 rfl trivial (Nat.le_refl _) (Nat.le_refl _) rfl rfl
theorem c_C_when_bad (h8 : P.length ≤ 8) (pk what : Int32) (h : ¬ (sp_pk P.length pk ∧ (0 ≤ what ∧ what ≤ nI 2))) : MC M_C_when 6 0 0 [.ref 5, .int pk, .int what] (heap sc x m P) (some (.int (-1))) (heap sc x m P) := by
  refine mc_of k1_C_when k2_C_when (Nat.le_of_ble_eq_true rfl) ?_
  unfold heap
  repeat (refine mw_step rfl ?_)
  refine mw_div rfl (by decide) ?_
  by_cases hk : ∃ j, j < P.length ∧ pk / 10 = nI j
  · have hk' := hk
    obtain ⟨k, hk, e⟩ := hk
    rw [show pk / 10 = nI k from e]
    refine mw_call (c_pieceAt k h8 hk) rfl rfl (Nat.le_of_ble_eq_true rfl) (Nat.le_refl _) (Nat.le_refl _) ?_
    repeat (refine mw_step rfl ?_)
    refine mw_div rfl (by decide) ?_
    repeat (refine mw_step rfl ?_)
    refine mw_call (c_isKind _ _) rfl rfl (Nat.le_of_ble_eq_true rfl) (Nat.le_refl _) (Nat.le_refl _) ?_
    refine mw_br rfl (fun h1 => ?_) (fun h1 => ?_)
    · repeat (refine mw_step rfl ?_)
      exact mw_r1 rfl trivial (Nat.le_refl _) (Nat.le_refl _) rfl rfl
    · repeat (refine mw_step rfl ?_)
      refine mw_call (c_within _ _ _ _) rfl rfl (Nat.le_of_ble_eq_true rfl) (Nat.le_refl _) (Nat.le_refl _) ?_
      refine mw_br rfl (fun h2 => ?_) (fun h2 => ?_)
      · repeat (refine mw_step rfl ?_)
        exact mw_r1 rfl trivial (Nat.le_refl _) (Nat.le_refl _) rfl rfl
      · exact absurd ⟨⟨hk', bI_of h1⟩, bI_of h2⟩ h
  · refine mw_call (c_pieceAt_bad _ h8 hk) rfl rfl (Nat.le_of_ble_eq_true rfl) (Nat.le_refl _) (Nat.le_refl _) ?_
    repeat (refine mw_step rfl ?_)
    refine mw_div rfl (by decide) ?_
    repeat (refine mw_step rfl ?_)
    exact mw_r1 rfl trivial (Nat.le_refl _) (Nat.le_refl _) rfl rfl
theorem sp_when_0 {nb : Nat → Nat → Nat} {way : Nat → Nat} (kd : Nat) : (gB (wK B nb way kd) 30).1 = sp_when B nb way kd 0 := by
  rw [gB_ks, sp_when, if_pos (c := (0 : Int32) = 0) rfl]
theorem sp_when_1 {nb : Nat → Nat → Nat} {way : Nat → Nat} (kd : Nat) : f1 (wK B nb way kd) 30 0 = sp_when B nb way kd 1 := by
  rw [sp_when]
  by_cases h : ks B nb way kd = 0
  · rw [if_pos h]
    exact f1_none _ _ _ (fun j _ hj => sN_z (f := wK B nb way kd) h j (by omega))
  · rw [if_neg h, if_neg (by decide), if_pos rfl]
    obtain ⟨j, h1, h2⟩ := sN_pos (f := wK B nb way kd) h
    exact f1_fr _ 30 0 (by omega) (fun j hj => absurd hj (by omega)) ⟨j, by omega, by omega, h2⟩
theorem sp_when_2 {nb : Nat → Nat → Nat} {way : Nat → Nat} (kd : Nat) : l1 (wK B nb way kd) 30 = sp_when B nb way kd 2 := by
  rw [sp_when]
  by_cases h : ks B nb way kd = 0
  · rw [if_pos h]
    exact l1_none _ _ (fun j hj => sN_z (f := wK B nb way kd) h j (by omega))
  · rw [if_neg h, if_neg (by decide), if_neg (by decide)]
    exact l1_lr _ 30 (sN_pos (f := wK B nb way kd) h)
theorem n_012 (what : Int32) : (0 ≤ what ∧ what ≤ nI 2) ↔ (what = 0 ∨ what = 1 ∨ what = 2) := by
  constructor
  · intro h
    obtain ⟨j, hj, rfl⟩ := rng (by decide) h
    have : j = 0 ∨ j = 1 ∨ j = 2 := by omega
    rcases this with rfl | rfl | rfl
    · exact Or.inl rfl
    · exact Or.inr (Or.inl rfl)
    · exact Or.inr (Or.inr rfl)
  · rintro (rfl | rfl | rfl) <;> decide
theorem c_C_when (hI : CI T B x P) (hp : P[k]? = some p) (hlk : lk < 64) (hth : th < 64) (el : i_looked p = nI lk) (et : i_there p = nI th) (pk what : Int32) (kd : Nat) (e1 : pk / 10 = nI k) (e2 : pk - pk / 10 * 10 = nI kd) (hkd : kd < 6) (hw : 0 ≤ what ∧ what ≤ nI 2) : ∃ x' P', CR T x x' P P' ∧ MC M_C_when 6 0 0 [.ref 5, .int pk, .int what] (heap sc x m P) (some (.int (sp_when B (nbP T p) (wayB lk th) kd what))) (heap sc x' m P') := by
  have hk : k < P.length := (List.getElem?_eq_some_iff.mp hp).1
  obtain ⟨x', P', q, h1, h2, h3, h4, h5, C⟩ := c_wF (sc := sc) (m := m) hI hp hlk hth el et
  refine ⟨x', P', h1, ?_⟩
  have hI' := CI_of hI h1
  have hW : WOK B (nbW T (i_wood q) (i_place q)) := WOK_of hI.2.2.1 _ _
  have el' : i_looked q = nI lk := h3.2.2.1.trans el
  have et' : i_there q = nI th := h3.2.2.2.trans et
  have D0 := c_S_tg (N := P'.length) (sc := sc) (m := m) hI'.2.1 hW h2 hlk hth el' et' h4 kd hkd
  have D1 := c_S_ft (N := P'.length) (sc := sc) (m := m) hI'.2.1 hW h2 hlk hth el' et' h4 kd hkd
  have D2 := c_S_lt (N := P'.length) (sc := sc) (m := m) hI'.2.1 hW h2 hlk hth el' et' h4 kd hkd
  rw [h3.1, h3.2.1] at D0 D1 D2
  rw [sp_when_0] at D0
  rw [sp_when_1] at D1
  rw [sp_when_2] at D2
  have S : ∀ {v : Option Value} {hT : MH}, MW M_C_when 6 0 0 v hT 0 0 47 [(0, .ref 5), (2, .int what), (3, .ref (2 * k + 67)), (4, .int (nI kd))] [] (heapN P'.length sc x' m (pcells 67 P')) → MC M_C_when 6 0 0 [.ref 5, .int pk, .int what] (heapN P.length sc x m (pcells 67 P)) v hT := by
    intro v hT K
    refine mc_of k1_C_when k2_C_when (Nat.le_of_ble_eq_true rfl) ?_
    unfold heap at C
    repeat (refine mw_step rfl ?_)
    refine mw_div rfl (by decide) ?_
    rw [show pk / 10 = nI k from e1]
    refine mw_call (c_pieceAt k hI.2.2.2.1 hk) rfl rfl (Nat.le_of_ble_eq_true rfl) (Nat.le_refl _) (Nat.le_refl _) ?_
    repeat (refine mw_step rfl ?_)
    refine mw_div rfl (by decide) ?_
    rw [show pk - pk / 10 * 10 = nI kd from e2]
    repeat (refine mw_step rfl ?_)
    refine mw_call (c_isKind _ _) rfl rfl (Nat.le_of_ble_eq_true rfl) (Nat.le_refl _) (Nat.le_refl _) ?_
    refine mw_brF rfl (bI_ne (rng_in (by omega) (by decide))) ?_
    repeat (refine mw_step rfl ?_)
    refine mw_call (c_within _ _ _ _) rfl rfl (Nat.le_of_ble_eq_true rfl) (Nat.le_refl _) (Nat.le_refl _) ?_
    refine mw_brF rfl (bI_ne hw) ?_
    repeat (refine mw_step rfl ?_)
    refine mw_call (C) rfl rfl (Nat.le_of_ble_eq_true rfl) (Nat.le_refl _) (Nat.le_refl _) ?_
    repeat (refine mw_to 47 rfl rfl ?_)
    refine mw_pick [0, 2, 3, 4] rfl ?_
    exact K
  unfold heap
  refine S ?_
  rcases (n_012 what).mp hw with rfl | rfl | rfl
  · repeat (refine mw_step rfl ?_)
    refine mw_brT rfl (rfl) ?_
    repeat (refine mw_step rfl ?_)
    refine mw_call (D0) rfl rfl (Nat.le_of_ble_eq_true rfl) (Nat.le_refl _) (Nat.le_refl _) ?_
    exact mw_r1 rfl trivial (Nat.le_refl _) (Nat.le_refl _) rfl rfl
  · repeat (refine mw_step rfl ?_)
    refine mw_brF rfl (by decide) ?_
    repeat (refine mw_step rfl ?_)
    refine mw_brT rfl (rfl) ?_
    repeat (refine mw_step rfl ?_)
    refine mw_call (D1) rfl rfl (Nat.le_of_ble_eq_true rfl) (Nat.le_refl _) (Nat.le_refl _) ?_
    repeat (refine mw_step rfl ?_)
    exact mw_r1 rfl trivial (Nat.le_refl _) (Nat.le_refl _) rfl rfl
  · repeat (refine mw_step rfl ?_)
    refine mw_brF rfl (by decide) ?_
    repeat (refine mw_step rfl ?_)
    refine mw_brF rfl (by decide) ?_
    repeat (refine mw_step rfl ?_)
    refine mw_call (D2) rfl rfl (Nat.le_of_ble_eq_true rfl) (Nat.le_refl _) (Nat.le_refl _) ?_
    exact mw_r1 rfl trivial (Nat.le_refl _) (Nat.le_refl _) rfl rfl
theorem c_C_likely_bad (h8 : P.length ≤ 8) (pk what : Int32) (h : ¬ (sp_pk P.length pk ∧ (0 ≤ what ∧ what ≤ nI 1))) : MC M_C_likely 6 0 0 [.ref 5, .int pk, .int what] (heap sc x m P) (some (.long (-9223372036854775808))) (heap sc x m P) := by
  refine mc_of k1_C_likely k2_C_likely (Nat.le_of_ble_eq_true rfl) ?_
  unfold heap
  repeat (refine mw_step rfl ?_)
  refine mw_div rfl (by decide) ?_
  by_cases hk : ∃ j, j < P.length ∧ pk / 10 = nI j
  · have hk' := hk
    obtain ⟨k, hk, e⟩ := hk
    rw [show pk / 10 = nI k from e]
    refine mw_call (c_pieceAt k h8 hk) rfl rfl (Nat.le_of_ble_eq_true rfl) (Nat.le_refl _) (Nat.le_refl _) ?_
    repeat (refine mw_step rfl ?_)
    refine mw_div rfl (by decide) ?_
    repeat (refine mw_step rfl ?_)
    refine mw_call (c_isKind _ _) rfl rfl (Nat.le_of_ble_eq_true rfl) (Nat.le_refl _) (Nat.le_refl _) ?_
    refine mw_br rfl (fun h1 => ?_) (fun h1 => ?_)
    · repeat (refine mw_step rfl ?_)
      exact mw_r1 rfl trivial (Nat.le_refl _) (Nat.le_refl _) rfl rfl
    · repeat (refine mw_step rfl ?_)
      refine mw_call (c_within _ _ _ _) rfl rfl (Nat.le_of_ble_eq_true rfl) (Nat.le_refl _) (Nat.le_refl _) ?_
      refine mw_br rfl (fun h2 => ?_) (fun h2 => ?_)
      · repeat (refine mw_step rfl ?_)
        exact mw_r1 rfl trivial (Nat.le_refl _) (Nat.le_refl _) rfl rfl
      · exact absurd ⟨⟨hk', bI_of h1⟩, bI_of h2⟩ h
  · refine mw_call (c_pieceAt_bad _ h8 hk) rfl rfl (Nat.le_of_ble_eq_true rfl) (Nat.le_refl _) (Nat.le_refl _) ?_
    repeat (refine mw_step rfl ?_)
    refine mw_div rfl (by decide) ?_
    repeat (refine mw_step rfl ?_)
    exact mw_r1 rfl trivial (Nat.le_refl _) (Nat.le_refl _) rfl rfl
theorem c_C_likely (hI : CI T B x P) (hp : P[k]? = some p) (hlk : lk < 64) (hth : th < 64) (el : i_looked p = nI lk) (et : i_there p = nI th) (pk what : Int32) (kd : Nat) (e1 : pk / 10 = nI k) (e2 : pk - pk / 10 * 10 = nI kd) (hkd : kd < 6) (hw : 0 ≤ what ∧ what ≤ nI 1) : ∃ x' P', CR T x x' P P' ∧ MC M_C_likely 6 0 0 [.ref 5, .int pk, .int what] (heap sc x m P) (some (.long (sp_lik B (nbP T p) (wayB lk th) kd what))) (heap sc x' m P') := by
  have hk : k < P.length := (List.getElem?_eq_some_iff.mp hp).1
  obtain ⟨x', P', q, h1, h2, h3, h4, h5, C⟩ := c_wF (sc := sc) (m := m) hI hp hlk hth el et
  refine ⟨x', P', h1, ?_⟩
  have hW : WOK B (nbP T p) := WOK_of hI.2.2.1 _ _
  have b1 := al_le (way := wayB lk th) hW
  have b2 := ks_le (way := wayB lk th) hW kd
  have b3 : ks B (nbP T p) (wayB lk th) kd ≤ al B (nbP T p) (wayB lk th) := ks_al kd hkd
  have S : ∀ {v : Option Value} {hT : MH}, MW M_C_likely 6 0 0 v hT 0 0 71 [(2, .int what), (5, .long (lN (al B (nbP T p) (wayB lk th)))), (7, .long (lN (ks B (nbP T p) (wayB lk th) kd))), (9, .long (lN (Nat.gcd (al B (nbP T p) (wayB lk th)) (ks B (nbP T p) (wayB lk th) kd))))] [] (heapN P'.length sc x' m (pcells 67 P')) → MC M_C_likely 6 0 0 [.ref 5, .int pk, .int what] (heapN P.length sc x m (pcells 67 P)) v hT := by
    intro v hT K
    refine mc_of k1_C_likely k2_C_likely (Nat.le_of_ble_eq_true rfl) ?_
    unfold heap at C
    repeat (refine mw_step rfl ?_)
    refine mw_div rfl (by decide) ?_
    rw [show pk / 10 = nI k from e1]
    refine mw_call (c_pieceAt k hI.2.2.2.1 hk) rfl rfl (Nat.le_of_ble_eq_true rfl) (Nat.le_refl _) (Nat.le_refl _) ?_
    repeat (refine mw_step rfl ?_)
    refine mw_div rfl (by decide) ?_
    rw [show pk - pk / 10 * 10 = nI kd from e2]
    repeat (refine mw_step rfl ?_)
    refine mw_call (c_isKind _ _) rfl rfl (Nat.le_of_ble_eq_true rfl) (Nat.le_refl _) (Nat.le_refl _) ?_
    refine mw_brF rfl (bI_ne (rng_in (by omega) (by decide))) ?_
    repeat (refine mw_step rfl ?_)
    refine mw_call (c_within _ _ _ _) rfl rfl (Nat.le_of_ble_eq_true rfl) (Nat.le_refl _) (Nat.le_refl _) ?_
    refine mw_brF rfl (bI_ne hw) ?_
    repeat (refine mw_step rfl ?_)
    refine mw_call (C) rfl rfl (Nat.le_of_ble_eq_true rfl) (Nat.le_refl _) (Nat.le_refl _) ?_
    repeat (refine mw_step rfl ?_)
    refine mw_lld rfl (rfl) (by omega) (by decide) ?_
    rw [h5 kd hkd]
    repeat (refine mw_step rfl ?_)
    refine mw_call (c_C_gd _ _ (by omega) (by omega)) rfl rfl (Nat.le_of_ble_eq_true rfl) (Nat.le_refl _) (Nat.le_refl _) ?_
    repeat (refine mw_to 71 rfl rfl ?_)
    refine mw_pick [2, 5, 7, 9] rfl ?_
    exact K
  unfold heap
  refine S ?_
  generalize hA : al B (nbP T p) (wayB lk th) = A at *
  generalize hS : ks B (nbP T p) (wayB lk th) kd = s at *
  have hlik : sp_lik B (nbP T p) (wayB lk th) kd what = if s = 0 then what.toInt64 else if what = 0 then lN (s / Nat.gcd s A) else lN (A / Nat.gcd s A) := by rw [sp_lik, hA, hS]
  rw [hlik, Nat.gcd_comm s A]
  by_cases hs : s = 0
  · rw [if_pos hs, hs, Nat.gcd_zero_right]
    repeat (refine mw_step rfl ?_)
    by_cases hA0 : A = 0
    · refine mw_brT rfl (by rw [lg_eq0, hA0]; rfl) ?_
      repeat (refine mw_step rfl ?_)
      exact mw_r1 rfl trivial (Nat.le_refl _) (Nat.le_refl _) rfl rfl
    · refine mw_brF rfl (by rw [lg_eq0]; exact fun e => hA0 ((pk_lEQ (b := 0) (by omega) (by omega)).mp e)) ?_
      repeat (refine mw_step rfl ?_)
      rcases (n_01 what).mp hw with rfl | rfl
      · refine mw_brT rfl (rfl) ?_
        repeat (refine mw_step rfl ?_)
        refine mw_div rfl (fun e => hA0 ((pk_lEQ (b := 0) (by omega) (by omega)).mp e)) ?_
        rw [pk_lDiv (by omega) (by omega) (by omega), Nat.zero_div]
        repeat (refine mw_step rfl ?_)
        exact mw_r1 rfl trivial (Nat.le_refl _) (Nat.le_refl _) rfl rfl
      · refine mw_brF rfl (by decide) ?_
        repeat (refine mw_step rfl ?_)
        refine mw_div rfl (fun e => hA0 ((pk_lEQ (b := 0) (by omega) (by omega)).mp e)) ?_
        rw [pk_lDiv (by omega) (by omega) (by omega), Nat.div_self (by omega)]
        exact mw_r1 rfl trivial (Nat.le_refl _) (Nat.le_refl _) rfl rfl
  · rw [if_neg hs]
    have hg : 0 < Nat.gcd A s := Nat.gcd_pos_of_pos_right _ (by omega)
    have hg2 : Nat.gcd A s ≤ s := Nat.gcd_le_right _ (by omega)
    repeat (refine mw_step rfl ?_)
    refine mw_brF rfl (by rw [lg_eq0]; exact fun e => by have := (pk_lEQ (b := 0) (by omega) (by omega)).mp e; omega) ?_
    repeat (refine mw_step rfl ?_)
    rcases (n_01 what).mp hw with rfl | rfl
    · refine mw_brT rfl (rfl) ?_
      repeat (refine mw_step rfl ?_)
      refine mw_div rfl (fun e => by have := (pk_lEQ (b := 0) (by omega) (by omega)).mp e; omega) ?_
      rw [pk_lDiv (by omega) (by omega) (by omega)]
      repeat (refine mw_step rfl ?_)
      exact mw_r1 rfl trivial (Nat.le_refl _) (Nat.le_refl _) (by rw [if_pos rfl]) rfl
    · refine mw_brF rfl (by decide) ?_
      repeat (refine mw_step rfl ?_)
      refine mw_div rfl (fun e => by have := (pk_lEQ (b := 0) (by omega) (by omega)).mp e; omega) ?_
      rw [pk_lDiv (by omega) (by omega) (by omega)]
      exact mw_r1 rfl trivial (Nat.le_refl _) (Nat.le_refl _) (by rw [if_neg (by decide)]) rfl
end C2
