/-! number, on both sides -/
abbrev zcS : Type := Int32 × Int32 × Int32 × Int32 × Int32 × (Nat → Int32)
abbrev ztX (m : OS) (s : zcS) : OS := zt_s m (zt_tape m, zt_tapeMany m, zt_text m, zt_textMany m, s.1, s.2.1, s.2.2.1, s.2.2.2.1, s.2.2.2.2.1, s.2.2.2.2.2)
/-- the reference's laws -/
def OLK (m : OS) (T : Nat → Option Tx) : Prop := ∀ a, a < 6 → (T a = none ∧ zt_textMany m a = -1) ∨ ∃ n t, n ≤ 120 ∧ T a = some t ∧ zt_textMany m a = nI n ∧ p_text (txR n (fun j => zt_text m (120 * a + j))) n = .inr t
theorem OLK_congr {m m' : OS} (h1 : zt_text m' = zt_text m) (h2 : zt_textMany m' = zt_textMany m) {T : Nat → Option Tx} (h : OLK m T) : OLK m' T := by
  intro a ha
  rw [h1, h2]
  exact h a ha
section NO
variable {N : Nat} {sc : Nat × (Nat → Int32)} {x : XS} {m : OS} {tl : MH} {P : List PieceS}
theorem c_O_numberOf {T : Nat → Option Tx} (hL : OLK m T) (p a : Nat) (hp : p < 8) (ha : a < 6) (k y : Int32) : ∃ s : zcS, MC M_O_numberOf 45 0 0 [.ref 39, .int (nI p), .int (nI a), .int k, .int y] (heapN N sc x m tl) (some (.int (nI (cl (lawV (T a) k y (zp_wood m p) (zp_place m p)))))) (heapN N sc x (ztX m s) tl) := by
  rcases hL a ha with ⟨e1, e2⟩ | ⟨n, t, hn, e1, e2, e3⟩
  · refine ⟨(zt_base m, zt_at m, zt_ends m, zt_fault m, zt_opened m, zt_names m), ?_⟩
    rw [e1]
    refine mc_of k1_O_numberOf k2_O_numberOf (Nat.le_of_ble_eq_true rfl) ?_
    repeat (refine mw_step rfl ?_)
    refine mw_ild rfl (rfl) (by omega) (by decide) ?_
    rw [e2]
    refine mw_brT rfl (m1_neg) ?_
    repeat (refine mw_step rfl ?_)
    exact mw_r1 rfl trivial (Nat.le_refl _) (Nat.le_refl _) (by rw [show cl (lawV none k y (zp_wood m p) (zp_place m p)) = 50 from rfl]; rfl) rfl
  · have hX := txR_ok n hn (fun j => zt_text m (120 * a + j))
    have C := c_O_workOut (N := N) (sc := sc) (x := x) (tl := tl) (m := zt_names_s m (upd (upd (upd (upd (zt_names m) 0 y) 1 k) 2 (zp_wood m p)) 3 (zp_place m p))) hX (c_O_byteX a ha hn)
    rw [e3] at C
    obtain ⟨a', C⟩ := C
    have ev : envO (zt_names_s m (upd (upd (upd (upd (zt_names m) 0 y) 1 k) 2 (zp_wood m p)) 3 (zp_place m p))) = x_env y k (zp_wood m p) (zp_place m p) := rfl
    rw [ev] at C
    refine ⟨(nI (120 * a), a', nI n, -1, nI 0, upd (upd (upd (upd (zt_names m) 0 y) 1 k) 2 (zp_wood m p)) 3 (zp_place m p)), ?_⟩
    rw [e1]
    show MC _ _ _ _ _ _ (some (.int (nI (cl (T_val (x_env y k (zp_wood m p) (zp_place m p)) (t.1 :: t.2)))))) _
    refine mc_of k1_O_numberOf k2_O_numberOf (Nat.le_of_ble_eq_true rfl) ?_
    repeat (refine mw_step rfl ?_)
    refine mw_ild rfl (rfl) (by omega) (by decide) ?_
    rw [e2]
    refine mw_brF rfl (nI_pos (by omega)) ?_
    repeat (refine mw_step rfl ?_)
    refine mw_ist rfl (show (0 : Int32) = nI 0 from rfl) (by omega) (by decide) ?_
    repeat (refine mw_step rfl ?_)
    refine mw_ist rfl (show (1 : Int32) = nI 1 from rfl) (by omega) (by decide) ?_
    repeat (refine mw_step rfl ?_)
    refine mw_ild rfl (rfl) (by omega) (by decide) ?_
    refine mw_ist rfl (show (2 : Int32) = nI 2 from rfl) (by omega) (by decide) ?_
    repeat (refine mw_step rfl ?_)
    refine mw_ild rfl (rfl) (by omega) (by decide) ?_
    refine mw_ist rfl (show (3 : Int32) = nI 3 from rfl) (by omega) (by decide) ?_
    repeat (refine mw_step rfl ?_)
    refine mw_ild rfl (rfl) (by omega) (by decide) ?_
    rw [show (120 : Int32) * nI a = nI (120 * a) by rw [show (120 : Int32) = nI 120 from rfl, pk_mul], show zt_textMany m a = nI n from e2]
    refine mw_call (C) rfl rfl (Nat.le_of_ble_eq_true rfl) (Nat.le_refl _) (Nat.le_refl _) ?_
    repeat (refine mw_step rfl ?_)
    by_cases h1 : T_val (x_env y k (zp_wood m p) (zp_place m p)) (t.1 :: t.2) < 0
    · refine mw_brT rfl (h1) ?_
      repeat (refine mw_step rfl ?_)
      exact mw_r1 rfl trivial (Nat.le_refl _) (Nat.le_refl _) (by rw [cl, if_pos h1]; rfl) rfl
    · refine mw_brF rfl (h1) ?_
      repeat (refine mw_step rfl ?_)
      by_cases h2 : 100 < T_val (x_env y k (zp_wood m p) (zp_place m p)) (t.1 :: t.2)
      · refine mw_brT rfl (h2) ?_
        repeat (refine mw_step rfl ?_)
        exact mw_r1 rfl trivial (Nat.le_refl _) (Nat.le_refl _) (by rw [cl, if_neg h1, if_pos h2]; rfl) rfl
      · refine mw_brF rfl (h2) ?_
        repeat (refine mw_step rfl ?_)
        exact mw_r1 rfl trivial (Nat.le_refl _) (Nat.le_refl _) (by
          obtain ⟨j, hj, e⟩ := nI_of h1
          rw [cl, if_neg h1, if_neg h2, e, nI_clamp hj]) rfl
def sp_kt (kt : Int32) : Prop := (0 ≤ kt / 100 ∧ kt / 100 ≤ nI 5) ∧ (0 ≤ kt - kt / 100 * 100 ∧ kt - kt / 100 * 100 ≤ nI 29)
theorem sp_kt_nn {kt : Int32} (h : sp_kt kt) : ¬ kt < 0 := by
  intro z
  rcases dm_neg kt 100 (by decide) (by decide) z with h3 | h3
  · exact m_nlt h.1.1 h3
  · exact m_nlt h.2.1 h3
theorem c_O_number_bad {n : Nat} (hp : zp_parts m = nI n) (hn : n ≤ 8) (pm kt : Int32) (h : ¬ (sp_pm n pm ∧ sp_kt kt)) : MC M_O_number 46 0 0 [.ref 39, .int pm, .int kt] (heapN N sc x m tl) (some (.int (-1))) (heapN N sc x m tl) := by
  have : Decidable (sp_pm n pm) := Classical.propDecidable _
  refine mc_of k1_O_number k2_O_number (Nat.le_of_ble_eq_true rfl) ?_
  repeat (refine mw_step rfl ?_)
  refine mw_call (c_O_isPm hp hn pm) rfl rfl (Nat.le_of_ble_eq_true rfl) (Nat.le_refl _) (Nat.le_refl _) ?_
  refine mw_br rfl (fun h1 => ?_) (fun h1 => ?_)
  · repeat (refine mw_step rfl ?_)
    exact mw_r1 rfl trivial (Nat.le_refl _) (Nat.le_refl _) rfl rfl
  · repeat (refine mw_step rfl ?_)
    refine mw_br rfl (fun h2 => ?_) (fun h2 => ?_)
    · repeat (refine mw_step rfl ?_)
      exact mw_r1 rfl trivial (Nat.le_refl _) (Nat.le_refl _) rfl rfl
    · repeat (refine mw_step rfl ?_)
      refine mw_div rfl (by decide) ?_
      refine mw_call (c_O_isKind _ _) rfl rfl (Nat.le_of_ble_eq_true rfl) (Nat.le_refl _) (Nat.le_refl _) ?_
      refine mw_br rfl (fun h3 => ?_) (fun h3 => ?_)
      · repeat (refine mw_step rfl ?_)
        exact mw_r1 rfl trivial (Nat.le_refl _) (Nat.le_refl _) rfl rfl
      · repeat (refine mw_step rfl ?_)
        refine mw_div rfl (by decide) ?_
        repeat (refine mw_step rfl ?_)
        refine mw_br rfl (fun h4 => ?_) (fun h4 => ?_)
        · refine absurd ⟨bI_of h1, bI_of h3, ?_, ?_⟩ h
          · obtain ⟨j, hj, rfl⟩ := nI_of h2
            rw [show nI j - nI j / 100 * 100 = nI (j % 100) from pk_rem (d := 100) (by omega) (by omega) (by omega)]
            exact nI_pos' (by omega)
          · exact n_lt30.mp h4
        · repeat (refine mw_step rfl ?_)
          exact mw_r1 rfl trivial (Nat.le_refl _) (Nat.le_refl _) rfl rfl
theorem c_O_number {n : Nat} (hp : zp_parts m = nI n) (hn : n ≤ 8) {T : Nat → Option Tx} (hL : OLK m T) (pm kt : Int32) (k j kd y : Nat) (hk : k < n) (e1 : pm / 10 = nI k) (e2 : pm - pm / 10 * 10 = nI j) (hj : j < 6) (e3 : kt / 100 = nI kd) (hkd : kd < 6) (e4 : kt - kt / 100 * 100 = nI y) (hy : y < 30) : ∃ s : zcS, MC M_O_number 46 0 0 [.ref 39, .int pm, .int kt] (heapN N sc x m tl) (some (.int (nI (nbW T (zp_wood m k) (zp_place m k) j (30 * kd + y))))) (heapN N sc x (ztX m s) tl) := by
  have : Decidable (sp_pm n pm) := Classical.propDecidable _
  obtain ⟨s, C⟩ := c_O_numberOf (N := N) (sc := sc) (x := x) (tl := tl) hL k j (by omega) hj (nI kd) (nI y)
  have en : nbW T (zp_wood m k) (zp_place m k) j (30 * kd + y) = cl (lawV (T j) (nI kd) (nI y) (zp_wood m k) (zp_place m k)) := by
    unfold nbW
    rw [show (30 * kd + y) / 30 = kd by omega, show (30 * kd + y) % 30 = y by omega]
  have hpm : sp_pm n pm := ⟨⟨k, hk, e1⟩, by rw [e2]; exact rng_in (by omega) (by decide)⟩
  have hkt : sp_kt kt := ⟨by rw [e3]; exact rng_in (by omega) (by decide), by rw [e4]; exact rng_in (by omega) (by decide)⟩
  refine ⟨s, ?_⟩
  rw [en]
  refine mc_of k1_O_number k2_O_number (Nat.le_of_ble_eq_true rfl) ?_
  repeat (refine mw_step rfl ?_)
  refine mw_call (c_O_isPm hp hn pm) rfl rfl (Nat.le_of_ble_eq_true rfl) (Nat.le_refl _) (Nat.le_refl _) ?_
  refine mw_brF rfl (bI_ne hpm) ?_
  repeat (refine mw_step rfl ?_)
  refine mw_brF rfl (sp_kt_nn hkt) ?_
  repeat (refine mw_step rfl ?_)
  refine mw_div rfl (by decide) ?_
  refine mw_call (c_O_isKind _ _) rfl rfl (Nat.le_of_ble_eq_true rfl) (Nat.le_refl _) (Nat.le_refl _) ?_
  refine mw_brF rfl (bI_ne hkt.1) ?_
  repeat (refine mw_step rfl ?_)
  refine mw_div rfl (by decide) ?_
  repeat (refine mw_step rfl ?_)
  refine mw_brT rfl (by rw [show kt - kt / 100 * 100 = nI y from e4]; exact n_lt (b := 30) (by omega) (by omega)) ?_
  repeat (refine mw_step rfl ?_)
  refine mw_div rfl (by decide) ?_
  repeat (refine mw_step rfl ?_)
  refine mw_div rfl (by decide) ?_
  repeat (refine mw_step rfl ?_)
  refine mw_div rfl (by decide) ?_
  repeat (refine mw_step rfl ?_)
  refine mw_div rfl (by decide) ?_
  rw [show pm - pm / 10 * 10 = nI j from e2, show kt - kt / 100 * 100 = nI y from e4, show pm / 10 = nI k from e1, show kt / 100 = nI kd from e3]
  refine mw_call (C) rfl rfl (Nat.le_of_ble_eq_true rfl) (Nat.le_refl _) (Nat.le_refl _) ?_
  exact mw_r1 rfl trivial (Nat.le_refl _) (Nat.le_refl _) rfl rfl
theorem c_C_number_bad (h8 : P.length ≤ 8) (pm kt : Int32) (h : ¬ (sp_pm P.length pm ∧ sp_kt kt)) : MC M_C_number 4 0 0 [.ref 5, .int pm, .int kt] (heap sc x m P) (some (.int (-1))) (heap sc x m P) := by
  refine mc_of k1_C_number k2_C_number (Nat.le_of_ble_eq_true rfl) ?_
  unfold heap
  repeat (refine mw_step rfl ?_)
  refine mw_div rfl (by decide) ?_
  by_cases hk : ∃ j, j < P.length ∧ pm / 10 = nI j
  · have hk' := hk
    obtain ⟨k, hk, e⟩ := hk
    rw [show pm / 10 = nI k from e]
    refine mw_call (c_pieceAt k h8 hk) rfl rfl (Nat.le_of_ble_eq_true rfl) (Nat.le_refl _) (Nat.le_refl _) ?_
    repeat (refine mw_step rfl ?_)
    refine mw_div rfl (by decide) ?_
    repeat (refine mw_step rfl ?_)
    refine mw_div rfl (by decide) ?_
    repeat (refine mw_step rfl ?_)
    refine mw_div rfl (by decide) ?_
    repeat (refine mw_step rfl ?_)
    refine mw_call (c_isMark _ _) rfl rfl (Nat.le_of_ble_eq_true rfl) (Nat.le_refl _) (Nat.le_refl _) ?_
    refine mw_br rfl (fun h1 => ?_) (fun h1 => ?_)
    · repeat (refine mw_step rfl ?_)
      exact mw_r1 rfl trivial (Nat.le_refl _) (Nat.le_refl _) rfl rfl
    · repeat (refine mw_step rfl ?_)
      refine mw_call (c_isKind _ _) rfl rfl (Nat.le_of_ble_eq_true rfl) (Nat.le_refl _) (Nat.le_refl _) ?_
      refine mw_br rfl (fun h2 => ?_) (fun h2 => ?_)
      · repeat (refine mw_step rfl ?_)
        exact mw_r1 rfl trivial (Nat.le_refl _) (Nat.le_refl _) rfl rfl
      · repeat (refine mw_step rfl ?_)
        refine mw_call (c_isTime _ _) rfl rfl (Nat.le_of_ble_eq_true rfl) (Nat.le_refl _) (Nat.le_refl _) ?_
        refine mw_br rfl (fun h3 => ?_) (fun h3 => ?_)
        · repeat (refine mw_step rfl ?_)
          exact mw_r1 rfl trivial (Nat.le_refl _) (Nat.le_refl _) rfl rfl
        · exact absurd ⟨⟨hk', bI_of h1⟩, bI_of h2, bI_of h3⟩ h
  · refine mw_call (c_pieceAt_bad _ h8 hk) rfl rfl (Nat.le_of_ble_eq_true rfl) (Nat.le_refl _) (Nat.le_refl _) ?_
    repeat (refine mw_step rfl ?_)
    refine mw_div rfl (by decide) ?_
    repeat (refine mw_step rfl ?_)
    refine mw_div rfl (by decide) ?_
    repeat (refine mw_step rfl ?_)
    refine mw_div rfl (by decide) ?_
    repeat (refine mw_step rfl ?_)
    exact mw_r1 rfl trivial (Nat.le_refl _) (Nat.le_refl _) rfl rfl
theorem c_C_number (h8 : P.length ≤ 8) {T : Nat → Option Tx} (hL : LOK x T) (pm kt : Int32) (k j kd y : Nat) {p : PieceS} (hp : P[k]? = some p) (hK : KN T p) (e1 : pm / 10 = nI k) (e2 : pm - pm / 10 * 10 = nI j) (hj : j < 6) (e3 : kt / 100 = nI kd) (hkd : kd < 6) (e4 : kt - kt / 100 * 100 = nI y) (hy : y < 30) : ∃ stk q, PSame p q ∧ KN T q ∧ MC M_C_number 4 0 0 [.ref 5, .int pm, .int kt] (heap sc x m P) (some (.int (nI (nbW T (i_wood p) (i_place p) j (30 * kd + y))))) (heap sc (xW_stack_s x stk) m (P.set k q)) := by
  have hk : k < P.length := (List.getElem?_eq_some_iff.mp hp).1
  have h64 : 2 ^ j < 64 := Nat.pow_lt_pow_right (a := 2) (by omega) hj
  obtain ⟨stk, q, s1, s2, s3, C⟩ := c_I_learn (N := P.length) (sc := sc) (m := m) hL hp hK (2 ^ j) h64
  refine ⟨stk, q, s1, s2, ?_⟩
  have hpi := (heapN_gp (N := P.length) (sc := sc) (x := x) (m := m) hp).1
  have hq := set_get hk q
  have hi := (heapN_gp (N := P.length) (sc := sc) (x := xW_stack_s x stk) (m := m) hq).1
  have hn := (heapN_gp (N := P.length) (sc := sc) (x := xW_stack_s x stk) (m := m) hq).2
  have ev : i_num q ((j * 6 + kd) * 30 + y) = nI (nbW T (i_wood p) (i_place p) j (30 * kd + y)) := by
    rw [show (j * 6 + kd) * 30 + y = 180 * j + (30 * kd + y) by omega, s3 j (30 * kd + y) hj (by omega) (Nat.testBit_two_pow_self), s1.1, s1.2.1]
  unfold heap
  rw [List.length_set, ← ev]
  refine mc_of k1_C_number k2_C_number (Nat.le_of_ble_eq_true rfl) ?_
  repeat (refine mw_step rfl ?_)
  refine mw_div rfl (by decide) ?_
  rw [show pm / 10 = nI k from e1]
  refine mw_call (c_pieceAt k h8 hk) rfl rfl (Nat.le_of_ble_eq_true rfl) (Nat.le_refl _) (Nat.le_refl _) ?_
  repeat (refine mw_step rfl ?_)
  refine mw_div rfl (by decide) ?_
  repeat (refine mw_step rfl ?_)
  refine mw_div rfl (by decide) ?_
  repeat (refine mw_step rfl ?_)
  refine mw_div rfl (by decide) ?_
  repeat (refine mw_step rfl ?_)
  rw [show pm - pm / 10 * 10 = nI j from e2, show kt - kt / 100 * 100 = nI y from e4, show kt / 100 = nI kd from e3]
  refine mw_call (c_isMark _ _) rfl rfl (Nat.le_of_ble_eq_true rfl) (Nat.le_refl _) (Nat.le_refl _) ?_
  refine mw_brF rfl (bI_ne (rng_in (by omega) (by decide))) ?_
  repeat (refine mw_step rfl ?_)
  refine mw_call (c_isKind _ _) rfl rfl (Nat.le_of_ble_eq_true rfl) (Nat.le_refl _) (Nat.le_refl _) ?_
  refine mw_brF rfl (bI_ne (rng_in (by omega) (by decide))) ?_
  repeat (refine mw_step rfl ?_)
  refine mw_call (c_isTime _ _) rfl rfl (Nat.le_of_ble_eq_true rfl) (Nat.le_refl _) (Nat.le_refl _) ?_
  refine mw_brF rfl (bI_ne (rng_in (by omega) (by decide))) ?_
  repeat (refine mw_step rfl ?_)
  rw [b_sh j hj]
  refine mw_callP C rfl rfl hpi (by omega) rfl (Nat.le_of_ble_eq_true rfl) (Nat.le_refl _) (Nat.le_refl _) ?_
  repeat (refine mw_step rfl ?_)
  refine mw_callP (c_I_numberAt hi (by omega) hn j kd y (by omega)) rfl rfl hi (by omega) rfl (Nat.le_of_ble_eq_true rfl) (Nat.le_refl _) (Nat.le_refl _) ?_
  exact mw_r1 rfl trivial (Nat.le_refl _) (Nat.le_refl _) rfl rfl
end NO
