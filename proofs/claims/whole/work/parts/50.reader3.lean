/-! the reader: openings, lines, a text -/
section RG
variable {N : Nat} {sc : Nat × (Nat → Int32)} {x : XS} {m : OS} {tl : MH} {n : Nat}
theorem c_R_op1 (hn : xR_len x = nI n) (h120 : n ≤ 120) (c : Int32) (hc : c = 40 ∨ c = 33 ∨ c = 45) (o d d' : Nat) (ho : o < 6) (hd : d' + 1 ≤ d) (hd2 : 2 ≤ d) (a s : Nat) (cd : Nat → Int32) (ha : a < n) (ht : txR n (xR_tape x) a = c) {h' : MH} (C : MC M_R_opened d' 0 0 [.ref 15, .int c, .int (nI (o + 1))] (hR N sc x m tl (nI (a + 1)) s cd (-1)) none h') : MC M_R_operand d 0 0 [.ref 15, .int (nI o)] (hR N sc x m tl (nI a) s cd (-1)) none h' := by
  have hs : sg n (xR_tape x) a = c := by rw [sg_t (by rw [ht]; rcases hc with rfl | rfl | rfl <;> decide), ht]
  refine mc_of k1_R_operand k2_R_operand (Nat.le_of_ble_eq_true rfl) ?_
  repeat (refine mw_step rfl ?_)
  refine mw_call (c_R_sign hn h120 a (by omega) s cd (-1)) rfl rfl (by omega) (Nat.le_refl _) (Nat.le_refl _) ?_
  rw [hs]
  repeat (refine mw_step rfl ?_)
  refine mw_brT rfl (m1_neg) ?_
  repeat (refine mw_step rfl ?_)
  refine mw_call (c_R_isDigit _ _) rfl rfl (by omega) (Nat.le_refl _) (Nat.le_refl _) ?_
  rw [← nI_1 a] at C
  rcases hc with rfl | rfl | rfl
  · refine mw_brT rfl (bI_f (by decide)) ?_
    repeat (refine mw_step rfl ?_)
    refine mw_brF rfl (by decide) ?_
    repeat (refine mw_step rfl ?_)
    refine mw_brF rfl (by decide) ?_
    repeat (refine mw_step rfl ?_)
    refine mw_brF rfl (by decide) ?_
    repeat (refine mw_step rfl ?_)
    refine mw_brF rfl (by decide) ?_
    repeat (refine mw_step rfl ?_)
    refine mw_brT rfl (n_lt (b := 6) ho (by omega)) ?_
    repeat (refine mw_step rfl ?_)
    refine mw_brT rfl (rfl) ?_
    repeat (refine mw_step rfl ?_)
    rw [nI_1]
    refine mw_call (C) rfl rfl (by omega) (Nat.le_refl _) (Nat.le_refl _) ?_
    repeat (refine mw_step rfl ?_)
    exact mw_r0 rfl (Nat.le_refl _) (Nat.le_refl _) rfl rfl
  · refine mw_brT rfl (bI_f (by decide)) ?_
    repeat (refine mw_step rfl ?_)
    refine mw_brF rfl (by decide) ?_
    repeat (refine mw_step rfl ?_)
    refine mw_brF rfl (by decide) ?_
    repeat (refine mw_step rfl ?_)
    refine mw_brF rfl (by decide) ?_
    repeat (refine mw_step rfl ?_)
    refine mw_brF rfl (by decide) ?_
    repeat (refine mw_step rfl ?_)
    refine mw_brT rfl (n_lt (b := 6) ho (by omega)) ?_
    repeat (refine mw_step rfl ?_)
    refine mw_brF rfl (by decide) ?_
    repeat (refine mw_step rfl ?_)
    refine mw_brT rfl (rfl) ?_
    repeat (refine mw_step rfl ?_)
    rw [nI_1]
    refine mw_call (C) rfl rfl (by omega) (Nat.le_refl _) (Nat.le_refl _) ?_
    repeat (refine mw_step rfl ?_)
    exact mw_r0 rfl (Nat.le_refl _) (Nat.le_refl _) rfl rfl
  · refine mw_brT rfl (bI_f (by decide)) ?_
    repeat (refine mw_step rfl ?_)
    refine mw_brF rfl (by decide) ?_
    repeat (refine mw_step rfl ?_)
    refine mw_brF rfl (by decide) ?_
    repeat (refine mw_step rfl ?_)
    refine mw_brF rfl (by decide) ?_
    repeat (refine mw_step rfl ?_)
    refine mw_brF rfl (by decide) ?_
    repeat (refine mw_step rfl ?_)
    refine mw_brT rfl (n_lt (b := 6) ho (by omega)) ?_
    repeat (refine mw_step rfl ?_)
    refine mw_brF rfl (by decide) ?_
    repeat (refine mw_step rfl ?_)
    refine mw_brF rfl (by decide) ?_
    repeat (refine mw_step rfl ?_)
    refine mw_brT rfl (rfl) ?_
    repeat (refine mw_step rfl ?_)
    rw [nI_1]
    refine mw_call (C) rfl rfl (by omega) (Nat.le_refl _) (Nat.le_refl _) ?_
    repeat (refine mw_step rfl ?_)
    exact mw_r0 rfl (Nat.le_refl _) (Nat.le_refl _) rfl rfl
theorem c_R_op (hn : xR_len x = nI n) (h120 : n ≤ 120) : ∀ q, q ≤ 6 → RF M_R_operand (2 + 8 * q) [.ref 15, .int (nI (6 - q))] N sc x m tl n (p_op (txR n (xR_tape x)) q) := by
  intro q
  induction q with
  | zero =>
    intro _ a s cd ha hs
    exact c_R_base hn h120 6 2 (by omega) (by omega) a s cd ha hs (Or.inl rfl)
  | succ q ih =>
    intro hq a s cd ha hs
    have hop := p_op_ok (txR_ok n h120 (xR_tape x)) q
    have hlv := p_lv_ok (txR_ok n h120 (xR_tape x)) hop 5
    have IH := ih (by omega)
    have ho : 6 - q = 6 - (q + 1) + 1 := by omega
    rw [p_op, p_step]
    by_cases h1 : txR n (xR_tape x) a = 40
    · rw [if_pos h1]
      have hlt := tx_lt (txR_ok n h120 (xR_tape x)) (show ¬ txR n (xR_tape x) a = 0 by rw [h1]; decide)
      have C := c_R_lv hn h120 (6 - q) (2 + 8 * q) (by omega) hop IH (by omega) 5 (by omega) (a + 1) s cd hlt (by omega)
      have L := hlv (a + 1) hlt
      split
      · next f e1 =>
        rw [e1] at C L
        have hf : f ≤ n := L
        obtain ⟨a', s', cd', q1, C⟩ := C
        refine ⟨a' + 1, s', cd', q1, c_R_op1 (d' := 2 + 8 * q + 1 + 5 + 1) hn h120 40 (Or.inl rfl) (6 - (q + 1)) _ (by omega) (by omega) (by omega) a s cd hlt h1 ?_⟩
        rw [ho] at C
        refine mc_of k1_R_opened k2_R_opened (Nat.le_of_ble_eq_true rfl) ?_
        repeat (refine mw_step rfl ?_)
        refine mw_brT rfl (rfl) ?_
        repeat (refine mw_step rfl ?_)
        refine mw_call (C) rfl rfl (by omega) (Nat.le_refl _) (Nat.le_refl _) ?_
        repeat (refine mw_step rfl ?_)
        refine mw_brF rfl (nI_pos (by omega)) ?_
        repeat (refine mw_step rfl ?_)
        exact mw_r0 rfl (Nat.le_refl _) (Nat.le_refl _) rfl rfl
      · next b e e1 =>
        rw [e1] at C L
        have hb : b ≤ n := L.2.1
        rw [ho] at C
        by_cases h2 : txR n (xR_tape x) b = 41
        · rw [if_pos h2]
          show MC _ _ _ _ _ _ _ _
          refine c_R_op1 (d' := 2 + 8 * q + 1 + 5 + 1) hn h120 40 (Or.inl rfl) (6 - (q + 1)) _ (by omega) (by omega) (by omega) a s cd hlt h1 ?_
          refine mc_of k1_R_opened k2_R_opened (Nat.le_of_ble_eq_true rfl) ?_
          repeat (refine mw_step rfl ?_)
          refine mw_brT rfl (rfl) ?_
          repeat (refine mw_step rfl ?_)
          refine mw_call (C) rfl rfl (by omega) (Nat.le_refl _) (Nat.le_refl _) ?_
          repeat (refine mw_step rfl ?_)
          refine mw_brT rfl (m1_neg) ?_
          repeat (refine mw_step rfl ?_)
          refine mw_call (c_R_sign hn h120 b (by omega) _ _ _) rfl rfl (by omega) (Nat.le_refl _) (Nat.le_refl _) ?_
          repeat (refine mw_step rfl ?_)
          refine mw_brT rfl ((sg_eq (by decide) (by decide)).mpr h2) ?_
          repeat (refine mw_step rfl ?_)
          exact mw_r0 rfl (Nat.le_refl _) (Nat.le_refl _) rfl (by show heapN _ _ _ _ _ = _; rw [← nI_1 b]; rfl)
        · rw [if_neg h2]
          refine ⟨nI b + 1, s + e.1.length, x_wr cd s e.1, by have : e.1.length ≤ b - (a + 1) := L.2.2.2; have := L.1; omega, ?_⟩
          refine c_R_op1 (d' := 2 + 8 * q + 1 + 5 + 1) hn h120 40 (Or.inl rfl) (6 - (q + 1)) _ (by omega) (by omega) (by omega) a s cd hlt h1 ?_
          refine mc_of k1_R_opened k2_R_opened (Nat.le_of_ble_eq_true rfl) ?_
          repeat (refine mw_step rfl ?_)
          refine mw_brT rfl (rfl) ?_
          repeat (refine mw_step rfl ?_)
          refine mw_call (C) rfl rfl (by omega) (Nat.le_refl _) (Nat.le_refl _) ?_
          repeat (refine mw_step rfl ?_)
          refine mw_brT rfl (m1_neg) ?_
          repeat (refine mw_step rfl ?_)
          refine mw_call (c_R_sign hn h120 b (by omega) _ _ _) rfl rfl (by omega) (Nat.le_refl _) (Nat.le_refl _) ?_
          repeat (refine mw_step rfl ?_)
          refine mw_brF rfl (fun z => h2 ((sg_eq (by decide) (by decide)).mp z)) ?_
          repeat (refine mw_step rfl ?_)
          exact mw_r0 rfl (Nat.le_refl _) (Nat.le_refl _) rfl rfl
    · rw [if_neg h1]
      have U : ∀ (c c' : Int32) (f : Ex → Ex) (hc : c = 40 ∨ c = 33 ∨ c = 45) (h2 : txR n (xR_tape x) a = c) (hf : ∀ e : Ex, (f e).1 = e.1 ++ [c']) (hE : (c = 33 ∧ c' = -33) ∨ (c = 45 ∧ c' = -126)), RZ s cd (match p_op (txR n (xR_tape x)) q (a + 1) with
          | .inl f => .inl f
          | .inr (b, e) => .inr (b, f e)) fun a' s' cd' f' => MC M_R_operand (2 + 8 * (q + 1)) 0 0 [.ref 15, .int (nI (6 - (q + 1)))] (hR N sc x m tl (nI a) s cd (-1)) none (hR N sc x m tl a' s' cd' f') := by
        intro c c' f hc h2 hf hE
        have hlt := tx_lt (txR_ok n h120 (xR_tape x)) (show ¬ txR n (xR_tape x) a = 0 by rw [h2]; rcases hc with rfl | rfl | rfl <;> decide)
        have C := IH (a + 1) s cd hlt (by omega)
        have L := hop (a + 1) hlt
        have V : ∀ {h1 h2 : MH}, MC M_R_operand (2 + 8 * q) 0 0 [.ref 15, .int (nI (6 - q))] (hR N sc x m tl (nI (a + 1)) s cd (-1)) none h1 → MW M_R_opened (2 + 8 * q + 1) 0 0 none h2 0 0 25 [] [.int c', .ref 15] h1 → MC M_R_opened (2 + 8 * q + 1) 0 0 [.ref 15, .int c, .int (nI (6 - (q + 1) + 1))] (hR N sc x m tl (nI (a + 1)) s cd (-1)) none h2 := by
          intro g1 g2 C K
          rw [ho] at C
          refine mc_of k1_R_opened k2_R_opened (Nat.le_of_ble_eq_true rfl) ?_
          repeat (refine mw_step rfl ?_)
          rcases hE with ⟨rfl, rfl⟩ | ⟨rfl, rfl⟩
          · refine mw_brF rfl (by decide) ?_
            repeat (refine mw_step rfl ?_)
            refine mw_call (C) rfl rfl (by omega) (Nat.le_refl _) (Nat.le_refl _) ?_
            repeat (refine mw_step rfl ?_)
            refine mw_brT rfl (rfl) ?_
            repeat (refine mw_to 25 rfl rfl ?_)
            refine mw_pick [] rfl ?_
            exact K
          · refine mw_brF rfl (by decide) ?_
            repeat (refine mw_step rfl ?_)
            refine mw_call (C) rfl rfl (by omega) (Nat.le_refl _) (Nat.le_refl _) ?_
            repeat (refine mw_step rfl ?_)
            refine mw_brF rfl (by decide) ?_
            repeat (refine mw_to 25 rfl rfl ?_)
            refine mw_pick [] rfl ?_
            exact K
        split
        · next g e1 =>
          rw [e1] at C L
          obtain ⟨a', s', cd', q1, C⟩ := C
          obtain ⟨s2, cd2, q2, E⟩ := c_R_emitX (N := N) (sc := sc) (x := x) (m := m) (tl := tl) a' s' q1 cd' (nI g) c'
          refine ⟨a', s2, cd2, q2, c_R_op1 (d' := 2 + 8 * q + 1) hn h120 c hc (6 - (q + 1)) _ (by omega) (by omega) (by omega) a s cd hlt h2 (V C ?_)⟩
          refine mw_call (E) rfl rfl (by omega) (Nat.le_refl _) (Nat.le_refl _) ?_
          exact mw_r0 rfl (Nat.le_refl _) (Nat.le_refl _) rfl rfl
        · next b e e1 =>
          rw [e1] at C L
          have r1 := L.1
          have r2 := L.2.1
          have r3 : e.1.length ≤ b - (a + 1) := L.2.2.2
          show MC _ _ _ _ _ _ _ (hR N sc x m tl (nI b) (s + (f e).1.length) (x_wr cd s (f e).1) (-1))
          rw [hf e, List.length_append, List.length_singleton, x_wr_app]
          refine c_R_op1 (d' := 2 + 8 * q + 1) hn h120 c hc (6 - (q + 1)) _ (by omega) (by omega) (by omega) a s cd hlt h2 (V C ?_)
          refine mw_call (c_R_emit _ (s + e.1.length) (by omega) _ _ _) rfl rfl (by omega) (Nat.le_refl _) (Nat.le_refl _) ?_
          exact mw_r0 rfl (Nat.le_refl _) (Nat.le_refl _) rfl rfl
      by_cases h2 : txR n (xR_tape x) a = 33
      · rw [if_pos h2]
        exact U 33 (-33) x_no (by decide) h2 (fun e => rfl) (Or.inl ⟨rfl, rfl⟩)
      · rw [if_neg h2]
        by_cases h3 : txR n (xR_tape x) a = 45
        · rw [if_pos h3]
          exact U 45 (-126) x_neg (by decide) h3 (fun e => rfl) (Or.inr ⟨rfl, rfl⟩)
        · rw [if_neg h3]
          exact c_R_base hn h120 (6 - (q + 1)) (2 + 8 * (q + 1)) (by omega) (by omega) a s cd ha hs (Or.inr ⟨h1, h2, h3⟩)
theorem c_R_E (hn : xR_len x = nI n) (h120 : n ≤ 120) : RF M_R_level 56 [.ref 15, .int 0, .int 0] N sc x m tl n (p_E (txR n (xR_tape x))) :=
  c_R_lv hn h120 0 50 (by omega) (p_op_ok (txR_ok n h120 (xR_tape x)) 6) (c_R_op hn h120 6 (by omega)) (by omega) 5 (by omega)
def RZL (s : Nat) (cd : Nat → Int32) (r : Nat ⊕ (Nat × Ln)) (Z : Int32 → Nat → (Nat → Int32) → Int32 → Prop) : Prop := match r with
  | .inl f => ∃ a' s' cd', s' ≤ 120 ∧ Z a' s' cd' (nI f)
  | .inr (b, l) => Z (nI b) (s + (l_code l).length) (x_wr cd s (l_code l)) (-1)
theorem c_R_line (hn : xR_len x = nI n) (h120 : n ≤ 120) (a s : Nat) (cd : Nat → Int32) (ha : a ≤ n) (hs : s ≤ a) : RZL s cd (p_line (txR n (xR_tape x)) a) fun a' s' cd' f' => MC M_R_line 57 0 0 [.ref 15] (hR N sc x m tl (nI a) s cd (-1)) none (hR N sc x m tl a' s' cd' f') := by
  have C := c_R_E (N := N) (sc := sc) (m := m) (tl := tl) hn h120 a s cd ha hs
  have L := p_E_ok (txR_ok n h120 (xR_tape x)) a ha
  unfold p_line
  split
  · next f e1 =>
    rw [e1] at C L
    obtain ⟨a', s', cd', q1, C⟩ := C
    have hf : f ≤ n := L
    refine ⟨a', s', cd', q1, ?_⟩
    refine mc_of k1_R_line k2_R_line (Nat.le_of_ble_eq_true rfl) ?_
    repeat (refine mw_step rfl ?_)
    refine mw_call (C) rfl rfl (Nat.le_of_ble_eq_true rfl) (Nat.le_refl _) (Nat.le_refl _) ?_
    repeat (refine mw_step rfl ?_)
    refine mw_brF rfl (nI_pos (by omega)) ?_
    exact mw_r0 rfl (Nat.le_refl _) (Nat.le_refl _) rfl rfl
  · next b e e1 =>
    rw [e1] at C L
    have r1 := L.1
    have r2 := L.2.1
    have r3 : e.1.length ≤ b - a := L.2.2.2
    by_cases h1 : txR n (xR_tape x) b = 63
    · rw [if_pos h1]
      have hlt := tx_lt (txR_ok n h120 (xR_tape x)) (show ¬ txR n (xR_tape x) b = 0 by rw [h1]; decide)
      have C2 := c_R_E (N := N) (sc := sc) (m := m) (tl := tl) hn h120 (b + 1) (s + e.1.length + 1) (upd (x_wr cd s e.1) (s + e.1.length) (-63)) hlt (by omega)
      have L2 := p_E_ok (txR_ok n h120 (xR_tape x)) (b + 1) hlt
      have V : ∀ {h' : MH}, MC M_R_level 56 0 0 [.ref 15, .int 0, .int 0] (hR N sc x m tl (nI (b + 1)) (s + e.1.length + 1) (upd (x_wr cd s e.1) (s + e.1.length) (-63)) (-1)) none h' → MC M_R_line 57 0 0 [.ref 15] (hR N sc x m tl (nI a) s cd (-1)) none h' := by
        intro h' C2
        rw [← nI_1 b] at C2
        refine mc_of k1_R_line k2_R_line (Nat.le_of_ble_eq_true rfl) ?_
        repeat (refine mw_step rfl ?_)
        refine mw_call (C) rfl rfl (Nat.le_of_ble_eq_true rfl) (Nat.le_refl _) (Nat.le_refl _) ?_
        repeat (refine mw_step rfl ?_)
        refine mw_brT rfl (m1_neg) ?_
        repeat (refine mw_step rfl ?_)
        refine mw_call (c_R_sign hn h120 b (by omega) _ _ _) rfl rfl (Nat.le_of_ble_eq_true rfl) (Nat.le_refl _) (Nat.le_refl _) ?_
        repeat (refine mw_step rfl ?_)
        refine mw_brT rfl ((sg_eq (by decide) (by decide)).mpr h1) ?_
        repeat (refine mw_step rfl ?_)
        refine mw_call (c_R_sign hn h120 b (by omega) _ _ _) rfl rfl (Nat.le_of_ble_eq_true rfl) (Nat.le_refl _) (Nat.le_refl _) ?_
        rw [show sg n (xR_tape x) b = 63 from (sg_eq (by decide) (by decide)).mpr h1]
        repeat (refine mw_step rfl ?_)
        refine mw_call (c_R_emit _ (s + e.1.length) (by omega) _ _ (-63)) rfl rfl (Nat.le_of_ble_eq_true rfl) (Nat.le_refl _) (Nat.le_refl _) ?_
        repeat (refine mw_step rfl ?_)
        refine mw_call (C2) rfl rfl (Nat.le_of_ble_eq_true rfl) (Nat.le_refl _) (Nat.le_refl _) ?_
        exact mw_r0 rfl (Nat.le_refl _) (Nat.le_refl _) rfl rfl
      split
      · next f e2 =>
        rw [e2] at C2
        obtain ⟨a', s', cd', q1, C2⟩ := C2
        exact ⟨a', s', cd', q1, V C2⟩
      · next c e2 e3 =>
        rw [e3] at C2
        show MC _ _ _ _ _ _ _ (hR N sc x m tl (nI c) (s + (e.1 ++ (-63 :: e2.1)).length) (x_wr cd s (e.1 ++ (-63 :: e2.1))) (-1))
        rw [List.length_append, List.length_cons, x_wr_app, show s + (e.1.length + (e2.1.length + 1)) = s + e.1.length + 1 + e2.1.length by omega]
        exact V C2
    · rw [if_neg h1]
      show MC _ _ _ _ _ _ _ _
      refine mc_of k1_R_line k2_R_line (Nat.le_of_ble_eq_true rfl) ?_
      repeat (refine mw_step rfl ?_)
      refine mw_call (C) rfl rfl (Nat.le_of_ble_eq_true rfl) (Nat.le_refl _) (Nat.le_refl _) ?_
      repeat (refine mw_step rfl ?_)
      refine mw_brT rfl (m1_neg) ?_
      repeat (refine mw_step rfl ?_)
      refine mw_call (c_R_sign hn h120 b (by omega) _ _ _) rfl rfl (Nat.le_of_ble_eq_true rfl) (Nat.le_refl _) (Nat.le_refl _) ?_
      repeat (refine mw_step rfl ?_)
      refine mw_brF rfl (fun z => h1 ((sg_eq (by decide) (by decide)).mp z)) ?_
      exact mw_r0 rfl (Nat.le_refl _) (Nat.le_refl _) rfl rfl
def RZR (s : Nat) (cd : Nat → Int32) (r : Nat ⊕ (Nat × List Ln)) (Z : Int32 → Nat → (Nat → Int32) → Int32 → Prop) : Prop := match r with
  | .inl f => ∃ a' s' cd', s' ≤ 120 ∧ Z a' s' cd' (nI f)
  | .inr (b, ls) => Z (nI b) (s + (t_code ls).length) (x_wr cd s (t_code ls)) (-1)
theorem l_R_read (hn : xR_len x = nI n) (h120 : n ≤ 120) : ∀ r t a s cd, t + r = 120 → a ≤ n → s ≤ a → RZR s cd (p_rest (txR n (xR_tape x)) r a) fun a' s' cd' f' => ∀ {v : Option Value} {hT : MH}, MW M_R_read 58 0 0 v hT 0 0 72 [(0, .ref 15)] [] (hR N sc x m tl a' s' cd' f') → MW M_R_read 58 0 0 v hT 0 0 21 [(0, .ref 15), (1, .int (nI t))] [] (hR N sc x m tl (nI a) s cd (-1)) := by
  intro r
  induction r with
  | zero =>
    intro t a s cd ht ha hs
    rw [show t = 120 by omega]
    intro v hT K
    repeat (refine mw_step rfl ?_)
    refine mw_brF rfl (by decide) ?_
    refine mw_pick [0] rfl ?_
    exact K
  | succ r ih =>
    intro t a s cd ht ha hs
    rw [p_rest]
    by_cases h1 : txR n (xR_tape x) a = 59
    · rw [if_pos h1]
      have hlt := tx_lt (txR_ok n h120 (xR_tape x)) (show ¬ txR n (xR_tape x) a = 0 by rw [h1]; decide)
      have C := c_R_line (N := N) (sc := sc) (m := m) (tl := tl) hn h120 (a + 1) (s + 1) (upd cd s (-59)) hlt (by omega)
      have L := p_line_ok (txR_ok n h120 (xR_tape x)) (a + 1) hlt
      have V : ∀ {h' : MH} {v : Option Value} {hT : MH}, MC M_R_line 57 0 0 [.ref 15] (hR N sc x m tl (nI (a + 1)) (s + 1) (upd cd s (-59)) (-1)) none h' → MW M_R_read 58 0 0 v hT 0 0 21 [(0, .ref 15), (1, .int (nI (t + 1)))] [] h' → MW M_R_read 58 0 0 v hT 0 0 21 [(0, .ref 15), (1, .int (nI t))] [] (hR N sc x m tl (nI a) s cd (-1)) := by
        intro h' v hT C K
        rw [← nI_1 a] at C
        repeat (refine mw_step rfl ?_)
        refine mw_brT rfl (n_lt (b := 120) (by omega) (by omega)) ?_
        repeat (refine mw_step rfl ?_)
        refine mw_brT rfl (m1_neg) ?_
        repeat (refine mw_step rfl ?_)
        refine mw_call (c_R_sign hn h120 a (by omega) _ _ _) rfl rfl (Nat.le_of_ble_eq_true rfl) (Nat.le_refl _) (Nat.le_refl _) ?_
        repeat (refine mw_step rfl ?_)
        refine mw_brT rfl ((sg_eq (by decide) (by decide)).mpr h1) ?_
        repeat (refine mw_step rfl ?_)
        refine mw_call (c_R_sign hn h120 a (by omega) _ _ _) rfl rfl (Nat.le_of_ble_eq_true rfl) (Nat.le_refl _) (Nat.le_refl _) ?_
        rw [show sg n (xR_tape x) a = 59 from (sg_eq (by decide) (by decide)).mpr h1]
        repeat (refine mw_step rfl ?_)
        refine mw_call (c_R_emit _ s (by omega) _ _ (-59)) rfl rfl (Nat.le_of_ble_eq_true rfl) (Nat.le_refl _) (Nat.le_refl _) ?_
        repeat (refine mw_step rfl ?_)
        refine mw_call (C) rfl rfl (Nat.le_of_ble_eq_true rfl) (Nat.le_refl _) (Nat.le_refl _) ?_
        repeat (refine mw_to 21 rfl rfl ?_)
        rw [nI_1]
        refine mw_pick [0, 1] rfl ?_
        exact K
      split
      · next f e1 =>
        rw [e1] at C L
        have hf : f ≤ n := L
        obtain ⟨a', s', cd', q1, C⟩ := C
        refine ⟨a', s', cd', q1, fun K => V C ?_⟩
        repeat (refine mw_step rfl ?_)
        refine mw_br rfl (fun h3 => ?_) (fun h3 => ?_)
        · repeat (refine mw_step rfl ?_)
          refine mw_brF rfl (nI_pos (by omega)) ?_
          refine mw_pick [0] rfl ?_
          exact K
        · refine mw_pick [0] rfl ?_
          exact K
      · next b l e1 =>
        rw [e1] at C L
        have r1 := L.1
        have r2 := L.2.1
        have r3 := L.2.2.2
        have I := ih (t + 1) b (s + 1 + (l_code l).length) (x_wr (upd cd s (-59)) (s + 1) (l_code l)) (by omega) r2 (by omega)
        split
        · next f e2 =>
          rw [e2] at I
          obtain ⟨a', s', cd', q1, I⟩ := I
          exact ⟨a', s', cd', q1, fun K => V C (I K)⟩
        · next c ls e2 =>
          rw [e2] at I
          intro v hT K
          refine V C (I ?_)
          rw [show s + 1 + (l_code l).length + (t_code ls).length = s + (t_code (l :: ls)).length by show _ = s + (-59 :: (l_code l ++ t_code ls)).length; rw [List.length_cons, List.length_append]; omega]
          rw [← x_wr_app]
          exact K
    · rw [if_neg h1]
      intro v hT K
      repeat (refine mw_step rfl ?_)
      refine mw_brT rfl (n_lt (b := 120) (by omega) (by omega)) ?_
      repeat (refine mw_step rfl ?_)
      refine mw_brT rfl (m1_neg) ?_
      repeat (refine mw_step rfl ?_)
      refine mw_call (c_R_sign hn h120 a (by omega) _ _ _) rfl rfl (Nat.le_of_ble_eq_true rfl) (Nat.le_refl _) (Nat.le_refl _) ?_
      repeat (refine mw_step rfl ?_)
      refine mw_brF rfl (fun z => h1 ((sg_eq (by decide) (by decide)).mp z)) ?_
      refine mw_pick [0] rfl ?_
      exact K
/-- what read leaves -/
def RZT (cd : Nat → Int32) (r : Nat ⊕ Tx) (Z : Int32 → Int32 → Nat → (Nat → Int32) → Int32 → Prop) : Prop := match r with
  | .inl f => ∃ a' s' cd', s' ≤ 120 ∧ Z (nI f) a' s' cd' (nI f)
  | .inr T => ∃ a', Z (-1) a' (T_code T).length (x_wr cd 0 (T_code T)) (-1)
theorem c_R_read (hn : xR_len x = nI n) (h120 : n ≤ 120) (htp : ∀ j, j < n → ¬ xR_tape x j = -1) : RZT (xR_code x) (p_text (txR n (xR_tape x)) n) fun u a' s' cd' f' => MC M_R_read 58 0 0 [.ref 15] (heapN N sc x m tl) (some (.int u)) (hR N sc x m tl a' s' cd' f') := by
  have C := c_R_line (N := N) (sc := sc) (m := m) (tl := tl) hn h120 0 0 (xR_code x) (by omega) (by omega)
  have L := p_line_ok (txR_ok n h120 (xR_tape x)) 0 (by omega)
  have V : ∀ {h' : MH} {v : Option Value} {hT : MH}, MC M_R_line 57 0 0 [.ref 15] (hR N sc x m tl (nI 0) 0 (xR_code x) (-1)) none h' → MW M_R_read 58 0 0 v hT 0 0 21 [(0, .ref 15), (1, .int (nI 0))] [] h' → MC M_R_read 58 0 0 [.ref 15] (heapN N sc x m tl) v hT := by
    intro h' v hT C K
    refine mc_of k1_R_read k2_R_read (Nat.le_of_ble_eq_true rfl) ?_
    repeat (refine mw_step rfl ?_)
    refine mw_call (C) rfl rfl (Nat.le_of_ble_eq_true rfl) (Nat.le_refl _) (Nat.le_refl _) ?_
    repeat (refine mw_to 21 rfl rfl ?_)
    refine mw_pick [0, 1] rfl ?_
    exact K
  have F : ∀ (f : Nat) (a' : Int32) (s' : Nat) (cd' : Nat → Int32), f ≤ n → MW M_R_read 58 0 0 (some (.int (nI f))) (hR N sc x m tl a' s' cd' (nI f)) 0 0 72 [(0, .ref 15)] [] (hR N sc x m tl a' s' cd' (nI f)) := by
    intro f a' s' cd' hf
    repeat (refine mw_step rfl ?_)
    refine mw_brF rfl (nI_pos (by omega)) ?_
    repeat (refine mw_step rfl ?_)
    exact mw_r1 rfl trivial (Nat.le_refl _) (Nat.le_refl _) rfl rfl
  unfold p_text
  split
  · next f e1 =>
    rw [e1] at C L
    have hf : f ≤ n := L
    obtain ⟨a', s', cd', q1, C⟩ := C
    refine ⟨a', s', cd', q1, V C ?_⟩
    repeat (refine mw_step rfl ?_)
    refine mw_brT rfl (by decide) ?_
    repeat (refine mw_step rfl ?_)
    refine mw_brF rfl (nI_pos (by omega)) ?_
    refine mw_pick [0] rfl ?_
    exact F f a' s' cd' hf
  · next a l e1 =>
    rw [e1] at C L
    have r1 := L.1
    have r2 := L.2.1
    have r3 := L.2.2.2
    have I := l_R_read (N := N) (sc := sc) (x := x) (m := m) (tl := tl) hn h120 120 0 a (0 + (l_code l).length) (x_wr (xR_code x) 0 (l_code l)) (by omega) r2 (by omega)
    have L2 := p_rest_ok (txR_ok n h120 (xR_tape x)) 120 a r2
    split
    · next f e2 =>
      rw [e2] at I L2
      have hf : f ≤ n := L2
      obtain ⟨a', s', cd', q1, I⟩ := I
      exact ⟨a', s', cd', q1, V C (I (F f a' s' cd' hf))⟩
    · next b ls e2 =>
      rw [e2] at I L2
      have u1 := L2.1
      have u2 := L2.2.1
      have u3 := L2.2.2.2
      by_cases hb : b < n
      · rw [if_pos hb]
        refine ⟨nI b, 0 + (l_code l).length + (t_code ls).length, x_wr (x_wr (xR_code x) 0 (l_code l)) (0 + (l_code l).length) (t_code ls), by omega, V C (I ?_)⟩
        repeat (refine mw_step rfl ?_)
        refine mw_brT rfl (m1_neg) ?_
        repeat (refine mw_step rfl ?_)
        refine mw_call (c_R_sign hn h120 b (by omega) _ _ _) rfl rfl (Nat.le_of_ble_eq_true rfl) (Nat.le_refl _) (Nat.le_refl _) ?_
        repeat (refine mw_step rfl ?_)
        refine mw_brF rfl (by rw [sg, if_pos hb]; exact htp b hb) ?_
        repeat (refine mw_step rfl ?_)
        exact mw_r1 rfl trivial (Nat.le_refl _) (Nat.le_refl _) rfl rfl
      · rw [if_neg hb]
        refine ⟨nI b, V C (I ?_)⟩
        repeat (refine mw_step rfl ?_)
        refine mw_brT rfl (m1_neg) ?_
        repeat (refine mw_step rfl ?_)
        refine mw_call (c_R_sign hn h120 b (by omega) _ _ _) rfl rfl (Nat.le_of_ble_eq_true rfl) (Nat.le_refl _) (Nat.le_refl _) ?_
        repeat (refine mw_step rfl ?_)
        refine mw_brT rfl (by rw [sg, if_neg hb]) ?_
        repeat (refine mw_step rfl ?_)
        exact mw_r1 rfl trivial (Nat.le_refl _) (Nat.le_refl _) (rfl ) ( by rw [← x_wr_app, show 0 + (l_code l).length + (t_code ls).length = (T_code (l, ls)).length by show _ = (l_code l ++ t_code ls).length; rw [List.length_append]; omega]; rfl)
end RG
