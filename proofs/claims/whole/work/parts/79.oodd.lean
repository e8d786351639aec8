/-! odd: the reference -/
def SD (sd : Nat → Nat) (c : Nat) (C : Nat → Nat) : Prop := (∀ i s, i < c → (sd i ≤ s ↔ i < C s)) ∧ ∀ s, C s ≤ c
theorem SD_ins {sd sd' : Nat → Nat} {c j v : Nat} {C C' : Nat → Nat} (h : SD sd c C) (hC : ∀ s, C' s = C s + if v ≤ s then 1 else 0) (hj : j ≤ c) (h1 : ∀ i, i < j → sd' i = sd i) (h2 : sd' j = v) (h3 : ∀ i, j < i → i ≤ c → sd' i = sd (i - 1)) (h4 : 0 < j → sd (j - 1) ≤ v) (h5 : ∀ i, j ≤ i → i < c → v < sd i) : SD sd' (c + 1) C' := by
  obtain ⟨a, b⟩ := h
  refine ⟨fun i s hi => ?_, fun s => ?_⟩
  · rw [hC s]
    by_cases e1 : i < j
    · rw [h1 i e1, a i s (by omega)]
      by_cases hv : v ≤ s
      · rw [if_pos hv]
        refine ⟨fun z => by omega, fun z => ?_⟩
        have q1 := (a (j - 1) v (by omega)).mp (h4 (by omega))
        have q2 := (a i v (by omega)).mpr (by omega)
        exact (a i s (by omega)).mp (by omega)
      · rw [if_neg hv, Nat.add_zero]
    · by_cases e2 : i = j
      · subst e2
        rw [h2]
        by_cases hv : v ≤ s
        · rw [if_pos hv]
          refine ⟨fun _ => ?_, fun _ => hv⟩
          by_cases h0 : 0 < i
          · have := (a (i - 1) s (by omega)).mp (Nat.le_trans (h4 h0) hv)
            omega
          · omega
        · rw [if_neg hv, Nat.add_zero]
          refine ⟨fun z => absurd z hv, fun z => ?_⟩
          have := b s
          have hic : i < c := by omega
          have q := (a i s hic).mpr z
          have := h5 i (Nat.le_refl _) hic
          omega
      · rw [h3 i (by omega) (by omega), a (i - 1) s (by omega)]
        by_cases hv : v ≤ s
        · rw [if_pos hv]
          omega
        · rw [if_neg hv, Nat.add_zero]
          refine ⟨fun z => ?_, fun z => by omega⟩
          have q := (a (i - 1) s (by omega)).mpr z
          have := h5 (i - 1) (by omega) (by omega)
          omega
  · rw [hC s]
    have := b s
    split <;> omega
def oWO (B : Nat → Nat) (nbF : Nat → Nat → Nat → Nat) (wyF : Nat → Nat → Nat) (i : Nat) : Int32 := if oD B nbF wyF i = true then nI (oV B nbF wyF i) else -1
section OOX
variable {N : Nat} {sc : Nat × (Nat → Int32)} {x : XS} {m : OS} {tl : MH} {T : Nat → Option Tx} {B : Nat → Nat} {n : Nat} {nbF : Nat → Nat → Nat → Nat} {wyF : Nat → Nat → Nat}
/-- where a new one goes -/
theorem l_O_ins (tw : Nat → Int32) (p c v : Nat) (hp : p < 8) (hc : c ≤ 7) (hv : v < 30) (htw : tw p = nI v) (sd : Nat → Nat) (hsd : ∀ i, i < c → sd i < 30) : ∀ j so, j ≤ c → (∀ i, i < j → so i = nI (sd i)) → (∀ i, j < i → i ≤ c → so i = nI (sd (i - 1))) → (∀ i, j ≤ i → i < c → v < sd i) → ∃ j' so', j' ≤ c ∧ (∀ i, i < j' → so' i = nI (sd i)) ∧ so' j' = nI v ∧ (∀ i, j' < i → i ≤ c → so' i = nI (sd (i - 1))) ∧ (0 < j' → sd (j' - 1) ≤ v) ∧ (∀ i, j' ≤ i → i < c → v < sd i) ∧ ∀ {u : Option Value} {hT : MH}, MW M_O_odd 48 0 0 u hT 0 0 115 [(0, .ref 39), (1, .int (nI c)), (2, .int (nI p))] [] (heapN N sc x (zo_s m (tw, so')) tl) → MW M_O_odd 48 0 0 u hT 0 0 62 [(0, .ref 39), (1, .int (nI c)), (2, .int (nI p)), (3, .int (nI j))] [] (heapN N sc x (zo_s m (tw, so)) tl) := by
  intro j
  induction j with
  | zero =>
    intro so hj g1 g2 g3
    refine ⟨0, upd so 0 (nI v), hj, fun i hi => absurd hi (by omega), upd_at _ _ _, fun i h1 h2 => by rw [upd_ne (by omega)]; exact g2 i h1 h2, fun z => absurd z (by omega), g3, ?_⟩
    intro u hT K
    repeat (refine mw_step rfl ?_)
    refine mw_brF rfl (by decide) ?_
    repeat (refine mw_step rfl ?_)
    refine mw_ild rfl (rfl) (by omega) (by decide) ?_
    rw [show zo_trueWhen (zo_s m (tw, so)) p = nI v from htw]
    refine mw_ist rfl (show nI 0 = nI 0 from rfl) (by omega) (by decide) ?_
    refine mw_pick [0, 1, 2] rfl ?_
    exact K
  | succ j ih =>
    intro so hj g1 g2 g3
    have e1 : nI (j + 1) - 1 = nI j := nI_pred j
    have bj := hsd j (by omega)
    by_cases hgt : v < sd j
    · obtain ⟨j', so', k1, k2, k3, k4, k5, k6, K⟩ := ih (upd so (j + 1) (nI (sd j))) (by omega) (fun i hi => by rw [upd_ne (by omega)]; exact g1 i (by omega)) (fun i h1 h2 => by
        by_cases e : i = j + 1
        · rw [e, upd_at]
          rfl
        · rw [upd_ne e]
          exact g2 i (by omega) h2) (fun i h1 h2 => by
        by_cases e : i = j
        · rw [e]; exact hgt
        · exact g3 i (by omega) h2)
      refine ⟨j', so', k1, k2, k3, k4, k5, k6, ?_⟩
      intro u hT K2
      repeat (refine mw_step rfl ?_)
      refine mw_brT rfl (n_lt (a := 0) (by omega) (by omega)) ?_
      repeat (refine mw_step rfl ?_)
      refine mw_ild rfl (e1) (by omega) (by decide) ?_
      rw [show zo_sorted (zo_s m (tw, so)) j = nI (sd j) from g1 j (by omega)]
      repeat (refine mw_step rfl ?_)
      refine mw_ild rfl (rfl) (by omega) (by decide) ?_
      rw [show zo_trueWhen (zo_s m (tw, so)) p = nI v from htw]
      refine mw_brT rfl (n_lt hgt (by omega)) ?_
      repeat (refine mw_step rfl ?_)
      refine mw_ild rfl (e1) (by omega) (by decide) ?_
      rw [show zo_sorted (zo_s m (tw, so)) j = nI (sd j) from g1 j (by omega)]
      refine mw_ist rfl (rfl) (by omega) (by decide) ?_
      repeat (refine mw_to 62 rfl rfl ?_)
      rw [show nI (j + 1) + (-1) = nI j from pk_m1 j]
      refine mw_pick [0, 1, 2, 3] rfl ?_
      exact K K2
    · refine ⟨j + 1, upd so (j + 1) (nI v), hj, fun i hi => by rw [upd_ne (by omega)]; exact g1 i hi, upd_at _ _ _, fun i h1 h2 => by rw [upd_ne (by omega)]; exact g2 i h1 h2, fun _ => by show sd j ≤ v; omega, g3, ?_⟩
      intro u hT K
      repeat (refine mw_step rfl ?_)
      refine mw_brT rfl (n_lt (a := 0) (by omega) (by omega)) ?_
      repeat (refine mw_step rfl ?_)
      refine mw_ild rfl (e1) (by omega) (by decide) ?_
      rw [show zo_sorted (zo_s m (tw, so)) j = nI (sd j) from g1 j (by omega)]
      repeat (refine mw_step rfl ?_)
      refine mw_ild rfl (rfl) (by omega) (by decide) ?_
      rw [show zo_trueWhen (zo_s m (tw, so)) p = nI v from htw]
      refine mw_brF rfl (n_nlt (by omega) (by omega)) ?_
      repeat (refine mw_step rfl ?_)
      refine mw_ild rfl (rfl) (by omega) (by decide) ?_
      rw [show zo_trueWhen (zo_s m (tw, so)) p = nI v from htw]
      refine mw_ist rfl (rfl) (by omega) (by decide) ?_
      refine mw_pick [0, 1, 2] rfl ?_
      exact K
theorem l_O_odd1 : ∀ r t m, OI T B n m → OF2 T n m nbF wyF → (∀ i, i < t → zo_trueWhen m i = oWO B nbF wyF i) → (∃ sd, (∀ i, i < cT B nbF wyF t → zo_sorted m i = nI (sd i) ∧ sd i < 30) ∧ SD sd (cT B nbF wyF t) (cL B nbF wyF t)) → t + r = n → ∃ m', OR m m' ∧ (∀ i, i < n → zo_trueWhen m' i = oWO B nbF wyF i) ∧ (∃ sd, (∀ i, i < cT B nbF wyF n → zo_sorted m' i = nI (sd i) ∧ sd i < 30) ∧ SD sd (cT B nbF wyF n) (cL B nbF wyF n)) ∧ ∀ {v : Option Value} {hT : MH}, MW M_O_odd 48 0 0 v hT 0 0 124 [(0, .ref 39), (1, .int (nI (cT B nbF wyF n)))] [] (heapN N sc x m' tl) → MW M_O_odd 48 0 0 v hT 0 0 4 [(0, .ref 39), (1, .int (nI (cT B nbF wyF t))), (2, .int (nI t))] [] (heapN N sc x m tl) := by
  intro r
  induction r with
  | zero =>
    intro t m hI hF h1 h2 ht
    have e : t = n := by omega
    subst e
    refine ⟨m, OR_refl m, h1, h2, ?_⟩
    intro v hT K
    have h8 := hI.2.2.2.2
    repeat (refine mw_step rfl ?_)
    rw [hI.2.2.2.1]
    refine mw_brF rfl (n_nlt (by omega) (by omega)) ?_
    refine mw_pick [0, 1] rfl ?_
    exact K
  | succ r ih =>
    intro t m hI hF h1 h2 ht
    have h8 := hI.2.2.2.2
    obtain ⟨q1, q2⟩ := hF t (by omega)
    obtain ⟨s, w, g1, g2, C⟩ := c_O_weighsPart (N := N) (sc := sc) (x := x) (tl := tl) hI.1 hI.2.1 hI.2.2.1 t (by omega) q2
    rw [← q1] at g1 g2
    have hW : WOK B (nbF t) := OF2_WOK hI hF t (by omega)
    have hal := al_le (way := wyF t) hW
    have hle := am_le (ks B (nbF t) (wyF t)) 5
    have hv := oV_le B nbF wyF t
    have hct := cT_le B nbF wyF t
    have E := c_O_mostOf (N := N) (sc := sc) (x := x) (tl := tl) (m := oX m s w) g1.2.1 (fun j _ => ks_lt hW j)
    have F := c_O_whenNow (N := N) (sc := sc) (x := x) (tl := tl) (m := oX m s w) (f := wK B (nbF t) (wyF t) 0) 0 (by omega) (fun y hy => g1.1 _ (by omega)) (fun y => Nat.lt_of_le_of_lt (wt_le hW _) (by decide))
    have S : ∀ {v : Option Value} {hT : MH}, MW M_O_odd 48 0 0 v hT 0 0 48 [(0, .ref 39), (1, .int (nI (cT B nbF wyF t))), (2, .int (nI t))] [] (heapN N sc x (zo_s (oX m s w) (upd (zo_trueWhen m) t (oWO B nbF wyF t), zo_sorted m)) tl) → MW M_O_odd 48 0 0 v hT 0 0 4 [(0, .ref 39), (1, .int (nI (cT B nbF wyF t))), (2, .int (nI t))] [] (heapN N sc x m tl) := by
      intro v hT K
      repeat (refine mw_step rfl ?_)
      rw [hI.2.2.2.1]
      refine mw_brT rfl (n_lt (by omega) (by omega)) ?_
      repeat (refine mw_step rfl ?_)
      refine mw_call (C) rfl rfl (Nat.le_of_ble_eq_true rfl) (Nat.le_refl _) (Nat.le_refl _) ?_
      repeat (refine mw_step rfl ?_)
      rw [show zw_allSum (oX m s w) = lN (al B (nbF t) (wyF t)) from g1.2.2]
      by_cases d1 : al B (nbF t) (wyF t) = 0
      · have hd : ¬ oD B nbF wyF t = true := fun z => ((oD_iff t).mp z).1 d1
        rw [oWO, if_neg hd] at K
        refine mw_brF rfl (by rw [lg_gt0]; exact fun z => by have := (pk_lLT (a := 0) (by omega) (by omega)).mp z; omega) ?_
        repeat (refine mw_step rfl ?_)
        refine mw_ist rfl (rfl) (by omega) (by decide) ?_
        refine mw_pick [0, 1, 2] rfl ?_
        exact K
      · refine mw_brT rfl (by rw [lg_gt0]; exact (pk_lLT (a := 0) (by omega) (by omega)).mpr (by omega)) ?_
        repeat (refine mw_step rfl ?_)
        refine mw_call (E) rfl rfl (Nat.le_of_ble_eq_true rfl) (Nat.le_refl _) (Nat.le_refl _) ?_
        by_cases d2 : am (ks B (nbF t) (wyF t)) 5 = 0
        · have hd : oD B nbF wyF t = true := (oD_iff t).mpr ⟨d1, d2⟩
          rw [oWO, if_pos hd] at K
          refine mw_brT rfl (by rw [d2]; rfl) ?_
          repeat (refine mw_step rfl ?_)
          refine mw_call (F) rfl rfl (Nat.le_of_ble_eq_true rfl) (Nat.le_refl _) (Nat.le_refl _) ?_
          repeat (refine mw_step rfl ?_)
          refine mw_ist rfl (rfl) (by omega) (by decide) ?_
          refine mw_pick [0, 1, 2] rfl ?_
          exact K
        · have hd : ¬ oD B nbF wyF t = true := fun z => d2 ((oD_iff t).mp z).2
          rw [oWO, if_neg hd] at K
          refine mw_brF rfl (nI_ne0 (by omega) (by omega)) ?_
          repeat (refine mw_step rfl ?_)
          refine mw_ist rfl (rfl) (by omega) (by decide) ?_
          refine mw_pick [0, 1, 2] rfl ?_
          exact K
    have tw' : ∀ i, i < t + 1 → upd (zo_trueWhen m) t (oWO B nbF wyF t) i = oWO B nbF wyF i := by
      intro i hi
      by_cases e : i = t
      · rw [e, upd_at]
      · rw [upd_ne e]
        exact h1 i (by omega)
    obtain ⟨sd, sd1, sd2⟩ := h2
    have ect : cT B nbF wyF (t + 1) = cT B nbF wyF t + (if oD B nbF wyF t = true then 1 else 0) := rfl
    have ecl : ∀ s, cL B nbF wyF (t + 1) s = cL B nbF wyF t s + (if oD B nbF wyF t = true ∧ oV B nbF wyF t ≤ s then 1 else 0) := fun s => rfl
    by_cases hd : oD B nbF wyF t = true
    · have eW : oWO B nbF wyF t = nI (oV B nbF wyF t) := if_pos hd
      rw [if_pos hd] at ect
      obtain ⟨j, so', k1, k2, k3, k4, k5, k6, KI⟩ := l_O_ins (N := N) (sc := sc) (x := x) (tl := tl) (m := oX m s w) (upd (zo_trueWhen m) t (oWO B nbF wyF t)) t (cT B nbF wyF t) (oV B nbF wyF t) (by omega) (by omega) (by omega) (by rw [upd_at, eW]) sd (fun i hi => (sd1 i hi).2) (cT B nbF wyF t) (zo_sorted m) (Nat.le_refl _) (fun i hi => (sd1 i hi).1) (fun i a b => absurd a (by omega)) (fun i a b => absurd b (by omega))
      let sd' : Nat → Nat := fun i => if i < j then sd i else if i = j then oV B nbF wyF t else sd (i - 1)
      have s1 : ∀ i, i < j → sd' i = sd i := fun i hi => if_pos hi
      have s2 : sd' j = oV B nbF wyF t := by show (if j < j then sd j else if j = j then oV B nbF wyF t else sd (j - 1)) = _; rw [if_neg (by omega), if_pos rfl]
      have s3 : ∀ i, j < i → i ≤ cT B nbF wyF t → sd' i = sd (i - 1) := fun i a _ => by show (if i < j then sd i else if i = j then oV B nbF wyF t else sd (i - 1)) = _; rw [if_neg (by omega), if_neg (by omega)]
      have hSD : SD sd' (cT B nbF wyF t + 1) (cL B nbF wyF (t + 1)) := SD_ins sd2 (fun s => by
        rw [ecl]
        by_cases hs : oV B nbF wyF t ≤ s
        · rw [if_pos ⟨hd, hs⟩, if_pos hs]
        · rw [if_neg (fun z => hs z.2), if_neg hs]) k1 s1 s2 s3 k5 k6
      obtain ⟨m2, p1, p2, p3, K⟩ := ih (t + 1) (zo_s (oX m s w) (upd (zo_trueWhen m) t (oWO B nbF wyF t), so')) (OI_of hI ⟨s, w, _, rfl⟩) (OF2_of hF ⟨s, w, _, rfl⟩) tw' ⟨sd', by
        intro i hi
        rw [ect] at hi
        by_cases a : i < j
        · rw [s1 i a]
          exact ⟨k2 i a, (sd1 i (by omega)).2⟩
        · by_cases b : i = j
          · rw [b, s2]
            exact ⟨k3, by omega⟩
          · rw [s3 i (by omega) (by omega)]
            exact ⟨k4 i (by omega) (by omega), (sd1 (i - 1) (by omega)).2⟩, by rw [ect]; exact hSD⟩ (by omega)
      refine ⟨m2, OR_trans ⟨s, w, _, rfl⟩ p1, p2, p3, ?_⟩
      intro v hT K2
      have KK := K K2
      rw [ect] at KK
      refine S ?_
      repeat (refine mw_step rfl ?_)
      refine mw_ild rfl (rfl) (by omega) (by decide) ?_
      rw [show zo_trueWhen (zo_s (oX m s w) (upd (zo_trueWhen m) t (oWO B nbF wyF t), zo_sorted m)) t = oWO B nbF wyF t from upd_at _ _ _, eW]
      refine mw_brF rfl (nI_pos (by omega)) ?_
      repeat (refine mw_to 62 rfl rfl ?_)
      refine mw_pick [0, 1, 2, 3] rfl ?_
      rw [eW] at KI KK
      refine KI ?_
      repeat (refine mw_to 4 rfl rfl ?_)
      rw [nI_1, nI_1]
      refine mw_pick [0, 1, 2] rfl ?_
      exact KK
    · have eW : oWO B nbF wyF t = -1 := if_neg hd
      rw [if_neg hd] at ect
      obtain ⟨m2, p1, p2, p3, K⟩ := ih (t + 1) (zo_s (oX m s w) (upd (zo_trueWhen m) t (oWO B nbF wyF t), zo_sorted m)) (OI_of hI ⟨s, w, _, rfl⟩) (OF2_of hF ⟨s, w, _, rfl⟩) tw' ⟨sd, by
        intro i hi
        rw [ect] at hi
        exact sd1 i hi, by
        rw [ect]
        refine ⟨fun i s hi => ?_, fun s => ?_⟩
        · rw [ecl, if_neg (fun z => hd z.1)]
          exact sd2.1 i s hi
        · rw [ecl, if_neg (fun z => hd z.1)]
          exact sd2.2 s⟩ (by omega)
      refine ⟨m2, OR_trans ⟨s, w, _, rfl⟩ p1, p2, p3, ?_⟩
      intro v hT K2
      have KK := K K2
      rw [ect] at KK
      refine S ?_
      repeat (refine mw_step rfl ?_)
      refine mw_ild rfl (rfl) (by omega) (by decide) ?_
      rw [show zo_trueWhen (zo_s (oX m s w) (upd (zo_trueWhen m) t (oWO B nbF wyF t), zo_sorted m)) t = oWO B nbF wyF t from upd_at _ _ _, eW]
      rw [eW] at KK
      refine mw_brT rfl (m1_neg) ?_
      repeat (refine mw_to 4 rfl rfl ?_)
      rw [nI_1]
      refine mw_pick [0, 1, 2] rfl ?_
      exact KK
theorem l_O_odd2 (hI : OI T B n m) (htw : ∀ i, i < n → zo_trueWhen m i = oWO B nbF wyF i) (mdn : Nat) (hmd : mdn < 30) (hmed : ¬ cT B nbF wyF n = 0 → zo_sorted m ((cT B nbF wyF n - 1) / 2) = nI mdn) : ∀ r t, t + r = n → MW M_O_odd 48 0 0 (some (.int (nI (oBt B nbF wyF mdn n)))) (heapN N sc x m tl) 0 0 128 [(0, .ref 39), (1, .int (nI (cT B nbF wyF n))), (2, .int (nI (oBt B nbF wyF mdn t))), (3, .int (nI t))] [] (heapN N sc x m tl) := by
  have h8 := hI.2.2.2.2
  have hct := cT_le B nbF wyF n
  intro r
  induction r with
  | zero =>
    intro t ht
    rw [show t = n by omega]
    repeat (refine mw_step rfl ?_)
    rw [hI.2.2.2.1]
    refine mw_brF rfl (n_nlt (by omega) (by omega)) ?_
    repeat (refine mw_step rfl ?_)
    exact mw_r1 rfl trivial (Nat.le_refl _) (Nat.le_refl _) rfl rfl
  | succ r ih =>
    intro t ht
    have L := ih (t + 1) (by omega)
    have hlt : oBt B nbF wyF mdn t < 256 := Nat.lt_of_lt_of_le (oBt_lt B nbF wyF mdn t) (Nat.pow_le_pow_right (n := 2) (by omega) (show t ≤ 8 by omega))
    have hv := oV_le B nbF wyF t
    rw [show oBt B nbF wyF mdn (t + 1) = if oFar B nbF wyF mdn t = true then oBt B nbF wyF mdn t ||| 2 ^ t else oBt B nbF wyF mdn t from rfl] at L
    repeat (refine mw_step rfl ?_)
    rw [hI.2.2.2.1]
    refine mw_brT rfl (n_lt (by omega) (by omega)) ?_
    repeat (refine mw_step rfl ?_)
    refine mw_ild rfl (rfl) (by omega) (by decide) ?_
    rw [htw t (by omega)]
    by_cases hd : oD B nbF wyF t = true
    · have eW : oWO B nbF wyF t = nI (oV B nbF wyF t) := if_pos hd
      have hc0 : ¬ cT B nbF wyF n = 0 := by
        intro z
        have := sN_z (f := fun i => if oD B nbF wyF i = true then 1 else 0) z t (by omega)
        rw [if_pos hd] at this
        omega
      rw [eW]
      refine mw_brF rfl (nI_pos (by omega)) ?_
      repeat (refine mw_step rfl ?_)
      refine mw_ild rfl (rfl) (by omega) (by decide) ?_
      rw [htw t (by omega), eW]
      repeat (refine mw_step rfl ?_)
      refine mw_div rfl (by decide) ?_
      refine mw_ild rfl (n_half _ (by omega)) (by omega) (by decide) ?_
      rw [hmed hc0]
      repeat (refine mw_step rfl ?_)
      have hf := n_farO (oV B nbF wyF t) (by omega) mdn hmd
      have he : oFar B nbF wyF mdn t = true ↔ (mdn + 2 < oV B nbF wyF t ∨ oV B nbF wyF t + 2 < mdn) := by
        unfold oFar
        rw [hd, Bool.true_and, Bool.or_eq_true, decide_eq_true_iff, decide_eq_true_iff]
      by_cases x1 : mdn + 2 < oV B nbF wyF t
      · rw [if_pos (he.mpr (Or.inl x1))] at L
        refine mw_brT rfl (hf.1.mpr x1) ?_
        repeat (refine mw_to 128 rfl rfl ?_)
        rw [nI_1, b8_sh t (by omega), b8_or _ hlt t (by omega)]
        refine mw_pick [0, 1, 2, 3] rfl ?_
        exact L
      · refine mw_brF rfl (fun z => x1 (hf.1.mp z)) ?_
        repeat (refine mw_step rfl ?_)
        by_cases x2 : oV B nbF wyF t + 2 < mdn
        · rw [if_pos (he.mpr (Or.inr x2))] at L
          refine mw_brT rfl (hf.2.mpr x2) ?_
          repeat (refine mw_to 128 rfl rfl ?_)
          rw [nI_1, b8_sh t (by omega), b8_or _ hlt t (by omega)]
          refine mw_pick [0, 1, 2, 3] rfl ?_
          exact L
        · rw [if_neg (fun z => (he.mp z).elim x1 x2)] at L
          refine mw_brF rfl (fun z => x2 (hf.2.mp z)) ?_
          repeat (refine mw_to 128 rfl rfl ?_)
          rw [nI_1, b8_or0 _ hlt]
          refine mw_pick [0, 1, 2, 3] rfl ?_
          exact L
    · have hx : ¬ oFar B nbF wyF mdn t = true := by
        unfold oFar
        intro z
        rw [Bool.and_eq_true] at z
        exact hd z.1
      rw [if_neg hx] at L
      rw [oWO, if_neg hd]
      refine mw_brT rfl (m1_neg) ?_
      repeat (refine mw_step rfl ?_)
      refine mw_brF rfl (by decide) ?_
      repeat (refine mw_step rfl ?_)
      refine mw_brF rfl (by decide) ?_
      repeat (refine mw_to 128 rfl rfl ?_)
      rw [nI_1, b8_or0 _ hlt]
      refine mw_pick [0, 1, 2, 3] rfl ?_
      exact L
theorem c_O_odd (hI : OI T B n m) (hF : OF2 T n m nbF wyF) : ∃ m', OR m m' ∧ MC M_O_odd 48 0 0 [.ref 39] (heapN N sc x m tl) (some (.int (nI (oBt B nbF wyF (oM B nbF wyF n) n)))) (heapN N sc x m' tl) := by
  have h8 := hI.2.2.2.2
  obtain ⟨m', h1, h2, ⟨sd, s1, s2⟩, K⟩ := l_O_odd1 (N := N) (sc := sc) (x := x) (tl := tl) n 0 m hI hF (fun i hi => absurd hi (by omega)) ⟨fun _ => 0, fun i hi => absurd hi (by show ¬ i < 0; omega), fun i s hi => absurd hi (by show ¬ i < 0; omega), fun s => Nat.le_refl _⟩ (by omega)
  refine ⟨m', h1, ?_⟩
  have hct := cT_le B nbF wyF n
  refine mc_of k1_O_odd k2_O_odd (Nat.le_of_ble_eq_true rfl) ?_
  repeat (refine mw_to 4 rfl rfl ?_)
  refine mw_pick [0, 1, 2] rfl ?_
  refine K ?_
  repeat (refine mw_to 128 rfl rfl ?_)
  refine mw_pick [0, 1, 2, 3] rfl ?_
  refine l_O_odd2 (OI_of hI h1) h2 (oM B nbF wyF n) (md_lt 30 0 (by omega)) (fun hc => ?_) n 0 (by omega)
  have hk : (cT B nbF wyF n - 1) / 2 < cT B nbF wyF n := by omega
  have e : oM B nbF wyF n = sd ((cT B nbF wyF n - 1) / 2) := md_eq (fun t => by
    rw [cE_cL]
    exact (s2.1 _ t hk).symm) 30 0 (by omega) (by have := (s1 _ hk).2; omega)
  rw [e]
  exact (s1 _ hk).1
end OOX
