/-! the reader: levels, openings -/
section RE
variable {N : Nat} {sc : Nat × (Nat → Int32)} {x : XS} {m : OS} {tl : MH} {n : Nat}
/-- the next level's, or the operand's -/
def RF (M : MD) (d : Nat) (av : List Value) (N : Nat) (sc : Nat × (Nat → Int32)) (x : XS) (m : OS) (tl : MH) (n : Nat) (F : Nat → PR) : Prop := ∀ a s cd, a ≤ n → s ≤ a → RZ s cd (F a) fun a' s' cd' f' => MC M d 0 0 av (hR N sc x m tl (nI a) s cd (-1)) none (hR N sc x m tl a' s' cd' f')
theorem l_R_lv (hn : xR_len x = nI n) (h120 : n ≤ 120) {F : Nat → PR} (hF : ∀ a, a ≤ n → PRok n a (F a)) (lev o d d' most : Nat) (hl : lev ≤ 4) (hd : d' + 1 ≤ d) (hm : most ≤ 120) (hC : RF M_R_level d' [.ref 15, .int (nI (lev + 1)), .int (nI o)] N sc x m tl n F) (s : Nat) (cd : Nat → Int32) : ∀ r t a e, t + r = most → PRok n s (.inr (a, e)) → RZ s cd (p_loop (txR n (xR_tape x)) F lev r a e) fun a' s' cd' f' => MW M_R_level d 0 0 none (hR N sc x m tl a' s' cd' f') 0 0 34 [(0, .ref 15), (1, .int (nI lev)), (2, .int (nI o)), (3, .int (nI most)), (4, .int (nI t))] [] (hR N sc x m tl (nI a) (s + e.1.length) (x_wr cd s e.1) (-1)) := by
  intro r
  induction r with
  | zero =>
    intro t a e ht hp
    rw [show t = most by omega]
    show MW _ _ _ _ _ _ _ _ _ _ _ _
    repeat (refine mw_step rfl ?_)
    refine mw_brF rfl (n_nlt (by omega) (by omega)) ?_
    exact mw_r0 rfl (Nat.le_refl _) (Nat.le_refl _) rfl rfl
  | succ r ih =>
    intro t a e ht hp
    have q1 := hp.1
    have q2 := hp.2.1
    have q3 : e.1.length ≤ a - s := hp.2.2.2
    rw [p_loop]
    have hcl : k_clos (sg n (xR_tape x) a) = nI lev ↔ p_clos (txR n (xR_tape x) a) = lev := by rw [k_clos_eq hl, sg_clos]
    by_cases hc : p_clos (txR n (xR_tape x) a) = lev
    · rw [if_pos hc]
      obtain ⟨o1, o2, o3⟩ := p_clos_op (c := txR n (xR_tape x) a) (by omega)
      have hlt := tx_lt (txR_ok n h120 (xR_tape x)) o3
      have L := hF (a + 1) hlt
      have C := hC (a + 1) (s + e.1.length) (x_wr cd s e.1) hlt (by omega)
      have W : ∀ {hT h' : MH}, MC M_R_level d' 0 0 [.ref 15, .int (nI (lev + 1)), .int (nI o)] (hR N sc x m tl (nI (a + 1)) (s + e.1.length) (x_wr cd s e.1) (-1)) none h' → MW M_R_level d 0 0 none hT 0 0 82 [(0, .ref 15), (1, .int (nI lev)), (2, .int (nI o)), (3, .int (nI most)), (4, .int (nI t)), (5, .int (txR n (xR_tape x) a))] [] h' → MW M_R_level d 0 0 none hT 0 0 34 [(0, .ref 15), (1, .int (nI lev)), (2, .int (nI o)), (3, .int (nI most)), (4, .int (nI t))] [] (hR N sc x m tl (nI a) (s + e.1.length) (x_wr cd s e.1) (-1)) := by
        intro hT h' C K
        repeat (refine mw_step rfl ?_)
        refine mw_brT rfl (n_lt (by omega) (by omega)) ?_
        repeat (refine mw_step rfl ?_)
        refine mw_brT rfl (m1_neg) ?_
        repeat (refine mw_step rfl ?_)
        refine mw_call (c_R_sign hn h120 a (by omega) _ _ _) rfl rfl (by omega) (Nat.le_refl _) (Nat.le_refl _) ?_
        refine mw_call (c_R_clos _ _) rfl rfl (by omega) (Nat.le_refl _) (Nat.le_refl _) ?_
        repeat (refine mw_step rfl ?_)
        refine mw_brT rfl (hcl.mpr hc) ?_
        repeat (refine mw_step rfl ?_)
        refine mw_call (c_R_sign hn h120 a (by omega) _ _ _) rfl rfl (by omega) (Nat.le_refl _) (Nat.le_refl _) ?_
        rw [sg_t o3]
        repeat (refine mw_step rfl ?_)
        rw [nI_1]
        rw [← nI_1 a] at C
        refine mw_call (C) rfl rfl (by omega) (Nat.le_refl _) (Nat.le_refl _) ?_
        refine mw_pick [0, 1, 2, 3, 4, 5] rfl ?_
        exact K
      split
      · next f e1 =>
        rw [e1] at C L
        obtain ⟨a', s', cd', h1, C⟩ := C
        obtain ⟨s2, cd2, h2, E⟩ := c_R_emitX (N := N) (sc := sc) (x := x) (m := m) (tl := tl) a' s' h1 cd' (nI f) (-txR n (xR_tape x) a)
        refine ⟨a', s2, cd2, h2, W C ?_⟩
        have hf : f ≤ n := L
        repeat (refine mw_step rfl ?_)
        refine mw_call (E) rfl rfl (by omega) (Nat.le_refl _) (Nat.le_refl _) ?_
        repeat (refine mw_step rfl ?_)
        refine mw_br rfl (fun h3 => ?_) (fun h3 => ?_)
        · repeat (refine mw_step rfl ?_)
          refine mw_brF rfl (nI_pos (by omega)) ?_
          exact mw_r0 rfl (Nat.le_refl _) (Nat.le_refl _) rfl rfl
        · exact mw_r0 rfl (Nat.le_refl _) (Nat.le_refl _) rfl rfl
      · next b e2 e1 =>
        rw [e1] at C L
        have r1 := L.1
        have r2 := L.2.1
        have r3 : e2.1.length ≤ b - (a + 1) := L.2.2.2
        have hlen : (x_bin (txR n (xR_tape x) a).toNatClampNeg e e2).1.length = e.1.length + (e2.1.length + 1) := by show (e.1 ++ (e2.1 ++ [-nI (txR n (xR_tape x) a).toNatClampNeg])).length = _; rw [List.length_append, List.length_append, List.length_singleton]
        have I := ih (t + 1) b (x_bin (txR n (xR_tape x) a).toNatClampNeg e e2) (by omega) ⟨by omega, r2, x_bin_ok o1 hp.2.2.1 L.2.2.1, by show (x_bin (txR n (xR_tape x) a).toNatClampNeg e e2).1.length ≤ _; omega⟩
        have e3 : x_wr cd s (x_bin (txR n (xR_tape x) a).toNatClampNeg e e2).1 = upd (x_wr (x_wr cd s e.1) (s + e.1.length) e2.1) (s + e.1.length + e2.1.length) (-txR n (xR_tape x) a) := by
          show x_wr cd s (e.1 ++ (e2.1 ++ [-nI (txR n (xR_tape x) a).toNatClampNeg])) = _
          rw [x_wr_app, x_wr_app, o2]
          rfl
        have V : ∀ {hT : MH}, MW M_R_level d 0 0 none hT 0 0 34 [(0, .ref 15), (1, .int (nI lev)), (2, .int (nI o)), (3, .int (nI most)), (4, .int (nI (t + 1)))] [] (hR N sc x m tl (nI b) (s + (x_bin (txR n (xR_tape x) a).toNatClampNeg e e2).1.length) (x_wr cd s (x_bin (txR n (xR_tape x) a).toNatClampNeg e e2).1) (-1)) → MW M_R_level d 0 0 none hT 0 0 82 [(0, .ref 15), (1, .int (nI lev)), (2, .int (nI o)), (3, .int (nI most)), (4, .int (nI t)), (5, .int (txR n (xR_tape x) a))] [] (hR N sc x m tl (nI b) (s + e.1.length + e2.1.length) (x_wr (x_wr cd s e.1) (s + e.1.length) e2.1) (-1)) := by
          intro hT K
          rw [hlen, e3, show s + (e.1.length + (e2.1.length + 1)) = s + e.1.length + e2.1.length + 1 by omega] at K
          repeat (refine mw_step rfl ?_)
          refine mw_call (c_R_emit _ (s + e.1.length + e2.1.length) (by omega) _ _ _) rfl rfl (by omega) (Nat.le_refl _) (Nat.le_refl _) ?_
          repeat (refine mw_to 34 rfl rfl ?_)
          rw [nI_1]
          refine mw_pick [0, 1, 2, 3, 4] rfl ?_
          exact K
        cases hz : p_loop (txR n (xR_tape x)) F lev r b (x_bin (txR n (xR_tape x) a).toNatClampNeg e e2) with
        | inl f =>
          rw [hz] at I
          obtain ⟨a', s', cd', h1, I⟩ := I
          exact ⟨a', s', cd', h1, W C (V I)⟩
        | inr z =>
          rw [hz] at I
          exact W C (V I)
    · rw [if_neg hc]
      show MW _ _ _ _ _ _ _ _ _ _ _ _
      repeat (refine mw_step rfl ?_)
      refine mw_brT rfl (n_lt (by omega) (by omega)) ?_
      repeat (refine mw_step rfl ?_)
      refine mw_brT rfl (m1_neg) ?_
      repeat (refine mw_step rfl ?_)
      refine mw_call (c_R_sign hn h120 a (by omega) _ _ _) rfl rfl (by omega) (Nat.le_refl _) (Nat.le_refl _) ?_
      refine mw_call (c_R_clos _ _) rfl rfl (by omega) (Nat.le_refl _) (Nat.le_refl _) ?_
      repeat (refine mw_step rfl ?_)
      refine mw_brF rfl (fun z => hc (hcl.mp z)) ?_
      exact mw_r0 rfl (Nat.le_refl _) (Nat.le_refl _) rfl rfl
theorem n_most (lev : Nat) (hl : lev ≤ 4) : (nI lev = 2 → p_most lev = 1) ∧ (¬ nI lev = 2 → p_most lev = 120) := by
  unfold p_most
  constructor
  · intro h
    rw [if_pos ((nI_eq (b := 2) (by omega) (by omega)).mp h)]
  · intro h
    rw [if_neg (fun e => h (by rw [e]; rfl))]
theorem c_R_lv (hn : xR_len x = nI n) (h120 : n ≤ 120) (o d : Nat) (ho : o ≤ 6) {F : Nat → PR} (hF : ∀ a, a ≤ n → PRok n a (F a)) (hO : RF M_R_operand d [.ref 15, .int (nI o)] N sc x m tl n F) (hd2 : 2 ≤ d) : ∀ k, k ≤ 5 → RF M_R_level (d + 1 + k) [.ref 15, .int (nI (5 - k)), .int (nI o)] N sc x m tl n (p_lv (txR n (xR_tape x)) F k) := by
  intro k
  induction k with
  | zero =>
    intro _ a s cd ha hs
    have O := hO a s cd ha hs
    rw [p_lv]
    have V : ∀ {h' : MH}, MC M_R_operand d 0 0 [.ref 15, .int (nI o)] (hR N sc x m tl (nI a) s cd (-1)) none h' → MC M_R_level (d + 1 + 0) 0 0 [.ref 15, .int (nI (5 - 0)), .int (nI o)] (hR N sc x m tl (nI a) s cd (-1)) none h' := by
      intro h' C
      refine mc_of k1_R_level k2_R_level (Nat.le_of_ble_eq_true rfl) ?_
      repeat (refine mw_step rfl ?_)
      refine mw_brT rfl (by decide) ?_
      repeat (refine mw_step rfl ?_)
      refine mw_call (C) rfl rfl (by omega) (Nat.le_refl _) (Nat.le_refl _) ?_
      exact mw_r0 rfl (Nat.le_refl _) (Nat.le_refl _) rfl rfl
    cases hz : F a with
    | inl f =>
      rw [hz] at O
      obtain ⟨a', s', cd', h1, O⟩ := O
      exact ⟨a', s', cd', h1, V O⟩
    | inr z =>
      rw [hz] at O
      exact V O
  | succ k ih =>
    intro hk a s cd ha hs
    have hk4 : 5 - (k + 1) = 4 - k := by omega
    have hlv := p_lv_ok (txR_ok n h120 (xR_tape x)) hF k
    have C := ih (by omega) a s cd ha hs
    have L := hlv a ha
    rw [p_lv, hk4]
    rw [show 5 - k = 4 - k + 1 by omega] at ih C
    have V : ∀ {h' hT : MH}, MC M_R_level (d + 1 + k) 0 0 [.ref 15, .int (nI (4 - k + 1)), .int (nI o)] (hR N sc x m tl (nI a) s cd (-1)) none h' → MW M_R_level (d + 1 + (k + 1)) 0 0 none hT 0 0 34 [(0, .ref 15), (1, .int (nI (4 - k))), (2, .int (nI o)), (3, .int (nI (p_most (4 - k)))), (4, .int (nI 0))] [] h' → MC M_R_level (d + 1 + (k + 1)) 0 0 [.ref 15, .int (nI (4 - k)), .int (nI o)] (hR N sc x m tl (nI a) s cd (-1)) none hT := by
      intro h' hT C K
      refine mc_of k1_R_level k2_R_level (Nat.le_of_ble_eq_true rfl) ?_
      repeat (refine mw_step rfl ?_)
      refine mw_brF rfl (n_nlt (b := 4 - k) (a := 4) (by omega) (by omega)) ?_
      repeat (refine mw_step rfl ?_)
      rw [nI_1]
      refine mw_call (C) rfl rfl (by omega) (Nat.le_refl _) (Nat.le_refl _) ?_
      repeat (refine mw_step rfl ?_)
      refine mw_br rfl (fun h1 => ?_) (fun h1 => ?_)
      · rw [(n_most (4 - k) (by omega)).1 h1] at K
        repeat (refine mw_to 34 rfl rfl ?_)
        refine mw_pick [0, 1, 2, 3, 4] rfl ?_
        exact K
      · rw [(n_most (4 - k) (by omega)).2 h1] at K
        repeat (refine mw_to 34 rfl rfl ?_)
        refine mw_pick [0, 1, 2, 3, 4] rfl ?_
        exact K
    have hm : p_most (4 - k) ≤ 120 := by unfold p_most; split <;> decide
    have h1m : 1 ≤ p_most (4 - k) := by unfold p_most; split <;> decide
    split
    · next f e1 =>
      rw [e1] at C L
      obtain ⟨a', s', cd', h1, C⟩ := C
      have hf : f ≤ n := L
      refine ⟨a', s', cd', h1, V C ?_⟩
      repeat (refine mw_step rfl ?_)
      refine mw_brT rfl (n_lt (a := 0) (by omega) (by omega)) ?_
      repeat (refine mw_step rfl ?_)
      refine mw_brF rfl (nI_pos (by omega)) ?_
      exact mw_r0 rfl (Nat.le_refl _) (Nat.le_refl _) rfl rfl
    · next b e e1 =>
      rw [e1] at C L
      have I := l_R_lv hn h120 hlv (4 - k) o (d + 1 + (k + 1)) (d + 1 + k) (p_most (4 - k)) (by omega) (by omega) hm (ih (by omega)) s cd (p_most (4 - k)) 0 b e (by omega) (PRok_mono L hs)
      cases hz : p_loop (txR n (xR_tape x)) (p_lv (txR n (xR_tape x)) F k) (4 - k) (p_most (4 - k)) b e with
      | inl f =>
        rw [hz] at I
        obtain ⟨a', s', cd', h1, I⟩ := I
        exact ⟨a', s', cd', h1, V C I⟩
      | inr z =>
        rw [hz] at I
        exact V C I
end RE
