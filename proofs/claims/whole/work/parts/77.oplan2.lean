/-! named, plan: the reference, as called -/
section OQ
variable {N : Nat} {sc : Nat × (Nat → Int32)} {x : XS} {m : OS} {tl : MH} {T : Nat → Option Tx} {B Mi : Nat → Nat} {n k : Nat} {nb : Nat → Nat → Nat} {lk th : Nat}
theorem c_O_named_bad (hI : OI T B n m) (k mk : Int32) (h : ¬ ((∃ j, j < n ∧ k = nI j) ∧ (0 ≤ mk ∧ mk ≤ nI 63))) : MC M_O_named 48 0 0 [.ref 39, .int k, .int mk] (heapN N sc x m tl) (some (.int (-1))) (heapN N sc x m tl) := by
  refine mc_of k1_O_named k2_O_named (Nat.le_of_ble_eq_true rfl) ?_
  repeat (refine mw_step rfl ?_)
  refine mw_call (c_O_isPart _) rfl rfl (Nat.le_of_ble_eq_true rfl) (Nat.le_refl _) (Nat.le_refl _) ?_
  refine mw_br rfl (fun h1 => ?_) (fun h1 => ?_)
  · repeat (refine mw_step rfl ?_)
    exact mw_r1 rfl trivial (Nat.le_refl _) (Nat.le_refl _) rfl rfl
  · repeat (refine mw_step rfl ?_)
    refine mw_call (c_withinO32 _ mk 0 (nI 63)) rfl rfl (Nat.le_of_ble_eq_true rfl) (Nat.le_refl _) (Nat.le_refl _) ?_
    refine mw_br rfl (fun h2 => ?_) (fun h2 => ?_)
    · repeat (refine mw_step rfl ?_)
      exact mw_r1 rfl trivial (Nat.le_refl _) (Nat.le_refl _) rfl rfl
    · exact absurd ⟨n_predN (by have := hI.2.2.2.2; omega) (by have := bI_of h1; rw [hI.2.2.2.1] at this; exact this), bI_of h2⟩ h
theorem FW_of {m' : OS} {way : Nat → Nat} (h : FW (zp_found m) k way) (hr : OR m m') : FW (zp_found m') k way := by
  obtain ⟨s, w, o, rfl⟩ := hr
  exact h
theorem c_O_named (hI : OI T B n m) (hk : k < n) (hlk : lk < 64) (hf : FW (zp_found m) k (wayB lk th)) (mk : Nat) (hmk : mk < 64) : ∃ m', OR m m' ∧ MC M_O_named 48 0 0 [.ref 39, .int (nI k), .int (nI mk)] (heapN N sc x m tl) (some (.int (sp_nmA B (nbO T m k) (wayB lk th) (mk &&& (lk ^^^ 63))))) (heapN N sc x m' tl) := by
  have h8 := hI.2.2.2.2
  obtain ⟨m1, h1, h2, h3, C⟩ := c_oF (N := N) (sc := sc) (x := x) (tl := tl) hI hk hf
  have hW : WOK B (nbO T m k) := WOK_of hI.2.2.1 _ _
  have b1 := al_le (way := wayB lk th) hW
  have hu := unl_lt (wayB lk th) 6
  have eu := unl_lk (th := th) hlk hmk
  have E : ∀ {v : Option Value} {hT : MH}, MW M_O_named 48 0 0 v hT 0 0 27 [(0, .ref 39), (1, .int (nI k)), (2, .int (nI mk))] [] (heapN N sc x m1 tl) → MC M_O_named 48 0 0 [.ref 39, .int (nI k), .int (nI mk)] (heapN N sc x m tl) v hT := by
    intro v hT K
    refine mc_of k1_O_named k2_O_named (Nat.le_of_ble_eq_true rfl) ?_
    repeat (refine mw_step rfl ?_)
    refine mw_call (c_O_isPart _) rfl rfl (Nat.le_of_ble_eq_true rfl) (Nat.le_refl _) (Nat.le_refl _) ?_
    refine mw_brF rfl (bI_ne (isPart_of hI hk)) ?_
    repeat (refine mw_step rfl ?_)
    refine mw_call (c_withinO32 _ (nI mk) 0 (nI 63)) rfl rfl (Nat.le_of_ble_eq_true rfl) (Nat.le_refl _) (Nat.le_refl _) ?_
    refine mw_brF rfl (bI_ne (rng_in (by omega) (by decide))) ?_
    repeat (refine mw_step rfl ?_)
    refine mw_call (C) rfl rfl (Nat.le_of_ble_eq_true rfl) (Nat.le_refl _) (Nat.le_refl _) ?_
    refine mw_pick [0, 1, 2] rfl ?_
    exact K
  by_cases h0 : al B (nbO T m k) (wayB lk th) = 0
  · refine ⟨m1, h1, E ?_⟩
    repeat (refine mw_step rfl ?_)
    rw [show zw_allSum m1 = lN (al B (nbO T m k) (wayB lk th)) from h2.2.2]
    refine mw_brT rfl (by rw [lg_eq0, h0]; rfl) ?_
    repeat (refine mw_step rfl ?_)
    exact mw_r1 rfl trivial (Nat.le_refl _) (Nat.le_refl _) (by rw [sp_nmA, if_pos h0]) rfl
  · obtain ⟨m2, h4, h5, D⟩ := c_O_namedBy (N := N) (sc := sc) (x := x) (tl := tl) hW.2 hI.2.2.1 k (mk &&& (lk ^^^ 63)) (by omega) (SOK_lk (th := th) hlk hmk) h3.1 h3.2.2.2.1 (FW_of hf h1) h0
    refine ⟨m2, OR_trans h1 h4, E ?_⟩
    repeat (refine mw_step rfl ?_)
    rw [show zw_allSum m1 = lN (al B (nbO T m k) (wayB lk th)) from h2.2.2]
    refine mw_brF rfl (by rw [lg_eq0]; exact fun e => h0 ((pk_lEQ (b := 0) (by omega) (by omega)).mp e)) ?_
    repeat (refine mw_step rfl ?_)
    refine mw_call (c_O_unlooked (FW_of hf h1) (by omega)) rfl rfl (Nat.le_of_ble_eq_true rfl) (Nat.le_refl _) (Nat.le_refl _) ?_
    repeat (refine mw_step rfl ?_)
    rw [show zw_allSum m1 = lN (al B (nbO T m k) (wayB lk th)) from h2.2.2, b_and mk hmk _ hu, eu]
    refine mw_call (D) rfl rfl (Nat.le_of_ble_eq_true rfl) (Nat.le_refl _) (Nat.le_refl _) ?_
    exact mw_r1 rfl trivial (Nat.le_refl _) (Nat.le_refl _) (by rw [sp_nmA, if_neg h0]) rfl
/-- the reference's plan, so far -/
def plO (z : Nat × Int32 × Nat) : Int32 × Int32 := if z.2.1 = -1 then (-1, 0) else (nI z.1, z.2.1)
theorem m1_lt {a : Nat} (ha : a ≤ 1000) : (-1 : Int32) < nI a := by
  rw [Int32.lt_iff_toInt_lt, nI_toInt (by omega)]
  have : (-1 : Int32).toInt = -1 := rfl
  omega
/-- sets that may be planned alone have a name -/
def gP2 (B : Nat → Nat) (nb : Nat → Nat → Nat) (way : Nat → Nat) (free : Nat) : Nat → Nat := fun s => if s &&& (free ^^^ 63) = 0 then sp_nm B nb way s else 0
theorem gP2_eq {c : Nat → Prop} [DecidablePred c] {g g' mi : Nat → Nat} (h : ∀ j, c j → g j = g' j) : ∀ t, plB c g mi t = plB c g' mi t
  | 0 => rfl
  | t + 1 => by
    rw [plB_s, plB_s, gP2_eq h t]
    by_cases hc : c t
    · rw [if_pos hc, if_pos hc, h t hc]
    · rw [if_neg hc, if_neg hc]
theorem l_O_plan (hnb : ∀ j kt, nb j kt ≤ 100) (h9 : ∀ k, B k ≤ 9) (hM : ∀ k, Mi k ≤ 9) {way : Nat → Nat} (free : Nat) (hfr : free < 64) (hw : ∀ j, j < 6 → free.testBit j = true → way j = 0) (p mm : Nat) (hp : p < 8) (hmm : mm ≤ 54) (h0 : ¬ al B nb way = 0) : ∀ r t m, OB m B → OMm m Mi → LKm m nb → FW (zp_found m) p way → t + r = 64 → ∃ m', OR m m' ∧ MW M_O_plan 48 0 0 (some (.int (plO (plB (plC free Mi mm) (gP2 B nb way free) (sOv Mi) 64)).1)) (heapN N sc x m' tl) 0 0 60 [(0, .ref 39), (1, .int (nI p)), (2, .int (nI mm)), (3, .long (lN (al B nb way))), (5, .int (nI free)), (6, .int (plO (plB (plC free Mi mm) (gP2 B nb way free) (sOv Mi) t)).1), (7, .int (plO (plB (plC free Mi mm) (gP2 B nb way free) (sOv Mi) t)).2), (8, .int (nI t))] [] (heapN N sc x m tl) := by
  have hW : WOK B nb := ⟨h9, hnb⟩
  have hg : ∀ j, j < 64 → gP2 B nb way free j ≤ 1000 := by
    intro j hj
    unfold gP2
    by_cases hs : j &&& (free ^^^ 63) = 0
    · rw [if_pos hs]
      exact sp_nm_le (B := B) hnb (SOK_sub (way := way) hfr hj hw hs)
    · rw [if_neg hs]
      omega
  intro r
  induction r with
  | zero =>
    intro t m hB hMm hL hf ht
    refine ⟨m, OR_refl m, ?_⟩
    rw [show t = 64 by omega]
    repeat (refine mw_step rfl ?_)
    refine mw_brF rfl (by decide) ?_
    repeat (refine mw_step rfl ?_)
    exact mw_r1 rfl trivial (Nat.le_refl _) (Nat.le_refl _) rfl rfl
  | succ r ih =>
    intro t m hB hMm hL hf ht
    have bm := sOv_le hM t
    have hlt : t &&& (free ^^^ 63) < 64 := b_and_lt (by omega)
    by_cases hc : plC free Mi mm t
    · have hS := SOK_sub (way := way) hfr (show t < 64 by omega) hw hc.1
      obtain ⟨m1, h1, h2, D⟩ := c_O_namedBy (N := N) (sc := sc) (x := x) (tl := tl) hnb h9 p t hp (SOK_s hS) hB hL hf h0
      have hMm1 : OMm m1 Mi := by
        obtain ⟨a1, a2, a3, rfl⟩ := h1
        exact hMm
      have hB1 : OB m1 B := by
        obtain ⟨a1, a2, a3, rfl⟩ := h1
        exact hB
      obtain ⟨m2, h3, K⟩ := ih (t + 1) m1 hB1 hMm1 h2 (FW_of hf h1) (by omega)
      refine ⟨m2, OR_trans h1 h3, ?_⟩
      have eg : sp_nm B nb way t = gP2 B nb way free t := (if_pos hc.1).symm
      have gt := hg t (by omega)
      rw [eg] at D
      rw [plB_s (plC free Mi mm) (gP2 B nb way free) (sOv Mi) t, if_pos (show plC free Mi mm t from hc)] at K
      have en : plO (t, nI (gP2 B nb way free t), sOv Mi t) = (nI t, nI (gP2 B nb way free t)) := if_neg (n_neq (by omega) (by decide))
      repeat (refine mw_step rfl ?_)
      refine mw_brT rfl (n_lt (b := 64) (by omega) (by omega)) ?_
      repeat (refine mw_step rfl ?_)
      refine mw_brT rfl (by rw [b_andn t (by omega) free hfr, hc.1]; rfl) ?_
      repeat (refine mw_step rfl ?_)
      refine mw_call (c_O_minutesOf hMm t (by omega)) rfl rfl (Nat.le_of_ble_eq_true rfl) (Nat.le_refl _) (Nat.le_refl _) ?_
      repeat (refine mw_step rfl ?_)
      refine mw_brF rfl (n_nlt hc.2 (by omega)) ?_
      repeat (refine mw_step rfl ?_)
      refine mw_call (D) rfl rfl (Nat.le_of_ble_eq_true rfl) (Nat.le_refl _) (Nat.le_refl _) ?_
      repeat (refine mw_step rfl ?_)
      rcases plB_c (plC free Mi mm) (gP2 B nb way free) (sOv Mi) t with z | ⟨j, hj, z⟩
      · rw [z, if_pos (Or.inl (m1_lt gt)), en] at K
        rw [z, show plO (0, -1, 0) = (-1, 0) from rfl]
        refine mw_brT rfl (by decide) ?_
        repeat (refine mw_to 60 rfl rfl ?_)
        rw [nI_1]
        refine mw_pick [0, 1, 2, 3, 5, 6, 7, 8] rfl ?_
        exact K
      · have gj := hg j (by omega)
        have bj := sOv_le hM j
        have ej : plO (j, nI (gP2 B nb way free j), sOv Mi j) = (nI j, nI (gP2 B nb way free j)) := if_neg (n_neq (by omega) (by decide))
        rw [z] at K
        rw [z, ej]
        refine mw_brF rfl (nI_pos (by omega)) ?_
        repeat (refine mw_step rfl ?_)
        by_cases g1 : nI (gP2 B nb way free j) < nI (gP2 B nb way free t)
        · rw [if_pos (Or.inl g1), en] at K
          refine mw_brT rfl (g1) ?_
          repeat (refine mw_to 60 rfl rfl ?_)
          rw [nI_1]
          refine mw_pick [0, 1, 2, 3, 5, 6, 7, 8] rfl ?_
          exact K
        · refine mw_brF rfl (g1) ?_
          repeat (refine mw_step rfl ?_)
          by_cases g2 : nI (gP2 B nb way free t) = nI (gP2 B nb way free j)
          · refine mw_brT rfl (g2) ?_
            repeat (refine mw_step rfl ?_)
            refine mw_call (c_O_minutesOf hMm1 t (by omega)) rfl rfl (Nat.le_of_ble_eq_true rfl) (Nat.le_refl _) (Nat.le_refl _) ?_
            repeat (refine mw_step rfl ?_)
            refine mw_call (c_O_minutesOf hMm1 j (by omega)) rfl rfl (Nat.le_of_ble_eq_true rfl) (Nat.le_refl _) (Nat.le_refl _) ?_
            by_cases g3 : sOv Mi t < sOv Mi j
            · rw [if_pos (Or.inr ⟨g2, g3⟩), en] at K
              refine mw_brT rfl (n_lt g3 (by omega)) ?_
              repeat (refine mw_to 60 rfl rfl ?_)
              rw [nI_1]
              refine mw_pick [0, 1, 2, 3, 5, 6, 7, 8] rfl ?_
              exact K
            · rw [if_neg (fun y => y.elim g1 (fun y => g3 y.2)), ej] at K
              refine mw_brF rfl (n_nlt (by omega) (by omega)) ?_
              repeat (refine mw_to 60 rfl rfl ?_)
              rw [nI_1]
              refine mw_pick [0, 1, 2, 3, 5, 6, 7, 8] rfl ?_
              exact K
          · rw [if_neg (fun y => y.elim g1 (fun y => g2 y.1)), ej] at K
            refine mw_brF rfl (g2) ?_
            repeat (refine mw_to 60 rfl rfl ?_)
            rw [nI_1]
            refine mw_pick [0, 1, 2, 3, 5, 6, 7, 8] rfl ?_
            exact K
    · obtain ⟨m2, h3, K⟩ := ih (t + 1) m hB hMm hL hf (by omega)
      refine ⟨m2, h3, ?_⟩
      rw [plB_s (plC free Mi mm) (gP2 B nb way free) (sOv Mi) t, if_neg (show ¬ plC free Mi mm t from hc)] at K
      repeat (refine mw_step rfl ?_)
      refine mw_brT rfl (n_lt (b := 64) (by omega) (by omega)) ?_
      repeat (refine mw_step rfl ?_)
      by_cases g1 : t &&& (free ^^^ 63) = 0
      · refine mw_brT rfl (by rw [b_andn t (by omega) free hfr, g1]; rfl) ?_
        repeat (refine mw_step rfl ?_)
        refine mw_call (c_O_minutesOf hMm t (by omega)) rfl rfl (Nat.le_of_ble_eq_true rfl) (Nat.le_refl _) (Nat.le_refl _) ?_
        repeat (refine mw_step rfl ?_)
        refine mw_brT rfl (n_lt (a := mm) (b := sOv Mi t) (by have : ¬ sOv Mi t ≤ mm := fun z => hc ⟨g1, z⟩; omega) (by omega)) ?_
        repeat (refine mw_to 60 rfl rfl ?_)
        rw [nI_1]
        refine mw_pick [0, 1, 2, 3, 5, 6, 7, 8] rfl ?_
        exact K
      · refine mw_brF rfl (by rw [b_andn t (by omega) free hfr]; exact nI_ne0 (by omega) (by omega)) ?_
        repeat (refine mw_to 60 rfl rfl ?_)
        rw [nI_1]
        refine mw_pick [0, 1, 2, 3, 5, 6, 7, 8] rfl ?_
        exact K
theorem c_O_plan_bad (hI : OI T B n m) (k mk : Int32) (h : ¬ ((∃ j, j < n ∧ k = nI j) ∧ (0 ≤ mk ∧ mk ≤ nI 54))) : MC M_O_plan 48 0 0 [.ref 39, .int k, .int mk] (heapN N sc x m tl) (some (.int (-1))) (heapN N sc x m tl) := by
  refine mc_of k1_O_plan k2_O_plan (Nat.le_of_ble_eq_true rfl) ?_
  repeat (refine mw_step rfl ?_)
  refine mw_call (c_O_isPart _) rfl rfl (Nat.le_of_ble_eq_true rfl) (Nat.le_refl _) (Nat.le_refl _) ?_
  refine mw_br rfl (fun h1 => ?_) (fun h1 => ?_)
  · repeat (refine mw_step rfl ?_)
    exact mw_r1 rfl trivial (Nat.le_refl _) (Nat.le_refl _) rfl rfl
  · repeat (refine mw_step rfl ?_)
    refine mw_call (c_withinO32 _ mk 0 (nI 54)) rfl rfl (Nat.le_of_ble_eq_true rfl) (Nat.le_refl _) (Nat.le_refl _) ?_
    refine mw_br rfl (fun h2 => ?_) (fun h2 => ?_)
    · repeat (refine mw_step rfl ?_)
      exact mw_r1 rfl trivial (Nat.le_refl _) (Nat.le_refl _) rfl rfl
    · exact absurd ⟨n_predN (by have := hI.2.2.2.2; omega) (by have := bI_of h1; rw [hI.2.2.2.1] at this; exact this), bI_of h2⟩ h
theorem c_O_plan (hI : OI T B n m) (hMm : OMm m Mi) (hM : ∀ k, Mi k ≤ 9) (hk : k < n) (hlk : lk < 64) (hf : FW (zp_found m) k (wayB lk th)) (mm : Nat) (hmm : mm ≤ 54) : ∃ m', OR m m' ∧ MC M_O_plan 48 0 0 [.ref 39, .int (nI k), .int (nI mm)] (heapN N sc x m tl) (some (.int (sp_plan B Mi (nbO T m k) (wayB lk th) (63 &&& (lk ^^^ 63)) mm))) (heapN N sc x m' tl) := by
  have h8 := hI.2.2.2.2
  obtain ⟨m1, h1, h2, h3, C⟩ := c_oF (N := N) (sc := sc) (x := x) (tl := tl) hI hk hf
  have hMm1 : OMm m1 Mi := by
    obtain ⟨a1, a2, a3, rfl⟩ := h1
    exact hMm
  have hW : WOK B (nbO T m k) := WOK_of hI.2.2.1 _ _
  have b1 := al_le (way := wayB lk th) hW
  have hset : 63 &&& (lk ^^^ 63) < 64 := b_and_lt (by omega)
  have hS := SOK_lk (lk := lk) (th := th) (set := 63) hlk (by omega)
  have E : ∀ {v : Option Value} {hT : MH}, MW M_O_plan 48 0 0 v hT 0 0 27 [(0, .ref 39), (1, .int (nI k)), (2, .int (nI mm))] [] (heapN N sc x m1 tl) → MC M_O_plan 48 0 0 [.ref 39, .int (nI k), .int (nI mm)] (heapN N sc x m tl) v hT := by
    intro v hT K
    refine mc_of k1_O_plan k2_O_plan (Nat.le_of_ble_eq_true rfl) ?_
    repeat (refine mw_step rfl ?_)
    refine mw_call (c_O_isPart _) rfl rfl (Nat.le_of_ble_eq_true rfl) (Nat.le_refl _) (Nat.le_refl _) ?_
    refine mw_brF rfl (bI_ne (isPart_of hI hk)) ?_
    repeat (refine mw_step rfl ?_)
    refine mw_call (c_withinO32 _ (nI mm) 0 (nI 54)) rfl rfl (Nat.le_of_ble_eq_true rfl) (Nat.le_refl _) (Nat.le_refl _) ?_
    refine mw_brF rfl (bI_ne (rng_in hmm (by decide))) ?_
    repeat (refine mw_step rfl ?_)
    refine mw_call (C) rfl rfl (Nat.le_of_ble_eq_true rfl) (Nat.le_refl _) (Nat.le_refl _) ?_
    refine mw_pick [0, 1, 2] rfl ?_
    exact K
  by_cases h0 : al B (nbO T m k) (wayB lk th) = 0
  · refine ⟨m1, h1, E ?_⟩
    repeat (refine mw_step rfl ?_)
    rw [show zw_allSum m1 = lN (al B (nbO T m k) (wayB lk th)) from h2.2.2]
    refine mw_brT rfl (by rw [lg_eq0, h0]; rfl) ?_
    repeat (refine mw_step rfl ?_)
    exact mw_r1 rfl trivial (Nat.le_refl _) (Nat.le_refl _) (by rw [sp_plan, if_pos h0]) rfl
  · obtain ⟨m2, h4, K⟩ := l_O_plan (N := N) (sc := sc) (x := x) (tl := tl) hW.2 hI.2.2.1 hM (63 &&& (lk ^^^ 63)) hset hS.2.2.2 k mm (by omega) hmm h0 64 0 m1 h3.1 hMm1 h3.2.2.2.1 (FW_of hf h1) (by omega)
    refine ⟨m2, OR_trans h1 h4, E ?_⟩
    have hgl : ∀ j, gP2 B (nbO T m k) (wayB lk th) (63 &&& (lk ^^^ 63)) j ≤ 1000 ∨ 64 ≤ j := fun j => by
      by_cases hj : j < 64
      · left
        unfold gP2
        by_cases hs : j &&& ((63 &&& (lk ^^^ 63)) ^^^ 63) = 0
        · rw [if_pos hs]
          exact sp_nm_le (B := B) hW.2 (SOK_sub (way := wayB lk th) hset hj hS.2.2.2 hs)
        · rw [if_neg hs]
          omega
      · right
        omega
    have ep : sp_plan B Mi (nbO T m k) (wayB lk th) (63 &&& (lk ^^^ 63)) mm = (plO (plB (plC (63 &&& (lk ^^^ 63)) Mi mm) (gP2 B (nbO T m k) (wayB lk th) (63 &&& (lk ^^^ 63))) (sOv Mi) 64)).1 := by
      rw [sp_plan, if_neg h0, gP2_eq (g := plG B (nbO T m k) (wayB lk th)) (g' := gP2 B (nbO T m k) (wayB lk th) (63 &&& (lk ^^^ 63))) (fun j hj => (if_pos hj.1).symm) 64]
      have hc0 : plC (63 &&& (lk ^^^ 63)) Mi mm 0 := ⟨Nat.zero_and _, by
        show sN (fun j => if (0 : Nat).testBit j = true then Mi j else 0) 6 ≤ mm
        rw [sN_0 (fun j _ => if_neg (by rw [Nat.zero_testBit]; decide))]
        exact Nat.zero_le _⟩
      have hne : ∀ t, t ≤ 63 → ∃ j, j < t + 1 ∧ plB (plC (63 &&& (lk ^^^ 63)) Mi mm) (gP2 B (nbO T m k) (wayB lk th) (63 &&& (lk ^^^ 63))) (sOv Mi) (t + 1) = (j, nI (gP2 B (nbO T m k) (wayB lk th) (63 &&& (lk ^^^ 63)) j), sOv Mi j) := by
        intro t
        induction t with
        | zero =>
          intro _
          refine ⟨0, by omega, ?_⟩
          have g0 := (hgl 0).resolve_right (by omega)
          rw [plB_s, if_pos hc0]
          exact if_pos (Or.inl (m1_lt g0))
        | succ t ih =>
          intro ht
          obtain ⟨j, hj, e⟩ := ih (by omega)
          rw [plB_s]
          split
          · split
            · exact ⟨t + 1, by omega, rfl⟩
            · exact ⟨j, by omega, e⟩
          · exact ⟨j, by omega, e⟩
      obtain ⟨j, hj, e⟩ := hne 63 (by omega)
      have gj := (hgl j).resolve_right (by omega)
      rw [e, plO, if_neg (n_neq (by omega) (by decide))]
    rw [ep]
    repeat (refine mw_step rfl ?_)
    rw [show zw_allSum m1 = lN (al B (nbO T m k) (wayB lk th)) from h2.2.2]
    refine mw_brF rfl (by rw [lg_eq0]; exact fun e => h0 ((pk_lEQ (b := 0) (by omega) (by omega)).mp e)) ?_
    repeat (refine mw_step rfl ?_)
    refine mw_call (c_O_unlooked (FW_of hf h1) (by omega)) rfl rfl (Nat.le_of_ble_eq_true rfl) (Nat.le_refl _) (Nat.le_refl _) ?_
    rw [unl_63 hlk, show zw_allSum m1 = lN (al B (nbO T m k) (wayB lk th)) from h2.2.2]
    repeat (refine mw_to 60 rfl rfl ?_)
    refine mw_pick [0, 1, 2, 3, 5, 6, 7, 8] rfl ?_
    exact K
end OQ
