/-! the reference: both, either -/
section OB
variable {N : Nat} {sc : Nat × (Nat → Int32)} {x : XS} {m : OS} {tl : MH} {n : Nat} {bs : Int32} {tx : Nat → Int32}
theorem l_O_both (hX : TXok n tx) (hB : BY N sc x m tl bs n tx) {F : Nat → PR} (hF : ∀ a, a ≤ n → PRok n a (F a)) (d d' : Nat) (hd : d' + 1 ≤ d) (hd1 : 2 ≤ d) (o : Int32) (hC : OF M_O_compared d' N sc x m tl bs n o F) (a0 : Nat) : ∀ r a e, 121 ≤ a + r → PRok n a0 (.inr (a, e)) → OZ (envO m) o (p_loop tx F 1 r a e) fun u a' f' op' => MW M_O_both d 0 0 (some (.int u)) (hO N sc x m tl bs n a' f' op') 0 0 5 [(0, .ref 39), (1, .int (e.2 (envO m)))] [] (hO N sc x m tl bs n (nI a) (-1) o) := by
  have h120 := hX.1
  intro r
  induction r with
  | zero =>
    intro a e hr hp
    have := hp.2.1
    exact absurd hr (by omega)
  | succ r ih =>
    intro a e hr hp
    rw [p_loop]
    by_cases hc : p_clos (tx a) = 1
    · rw [if_pos hc]
      obtain ⟨o1, o2, o3⟩ := p_clos_op (c := tx a) (by omega)
      have hlt := tx_lt hX o3
      have C := hC (a + 1) hlt
      have L := hF (a + 1) hlt
      have hc' := p_clos_1.mp hc
      rw [hc'] at o1 ⊢
      have W : ∀ {v : Option Value} {u : Int32} {hT h' : MH}, MC M_O_compared d' 0 0 [.ref 39] (hO N sc x m tl bs n (nI (a + 1)) (-1) o) (some (.int u)) h' → MW M_O_both d 0 0 v hT 0 0 5 [(0, .ref 39), (1, .int (sp_join (Int32.toNatClampNeg 38) (e.2 (envO m)) u))] [] h' → MW M_O_both d 0 0 v hT 0 0 5 [(0, .ref 39), (1, .int (e.2 (envO m)))] [] (hO N sc x m tl bs n (nI a) (-1) o) := by
        intro v u hT h' C K
        repeat (refine mw_step rfl ?_)
        refine mw_call (c_O_takes1 hB a (by omega) o 38 hc') rfl rfl (by omega) (Nat.le_refl _) (Nat.le_refl _) ?_
        refine mw_brF rfl (by decide) ?_
        repeat (refine mw_step rfl ?_)
        refine mw_call (C) rfl rfl (by omega) (Nat.le_refl _) (Nat.le_refl _) ?_
        repeat (refine mw_step rfl ?_)
        rw [show sp_join (Int32.toNatClampNeg 38) (e.2 (envO m)) u = bI (¬ e.2 (envO m) = 0 ∧ ¬ u = 0) from rfl] at K
        refine mw_br rfl (fun h1 => ?_) (fun h1 => ?_)
        · rw [bI_f (fun z => z.1 h1)] at K
          repeat (refine mw_to 5 rfl rfl ?_)
          refine mw_pick [0, 1] rfl ?_
          exact K
        · repeat (refine mw_step rfl ?_)
          refine mw_br rfl (fun h2 => ?_) (fun h2 => ?_)
          · rw [bI_f (fun z => z.2 h2)] at K
            repeat (refine mw_to 5 rfl rfl ?_)
            refine mw_pick [0, 1] rfl ?_
            exact K
          · rw [bI_t ⟨h1, h2⟩] at K
            repeat (refine mw_to 5 rfl rfl ?_)
            refine mw_pick [0, 1] rfl ?_
            exact K
      split
      · next f e1 =>
        rw [e1] at C L
        have hf : f ≤ n := L
        obtain ⟨u, op', C⟩ := C
        refine ⟨sp_join (Int32.toNatClampNeg 38) (e.2 (envO m)) u, op', W C ?_⟩
        repeat (refine mw_step rfl ?_)
        refine mw_call (c_O_takesF (nI f) op' 38 f (by omega)) rfl rfl (by omega) (Nat.le_refl _) (Nat.le_refl _) ?_
        refine mw_brT rfl (rfl) ?_
        repeat (refine mw_step rfl ?_)
        exact mw_r1 rfl trivial (Nat.le_refl _) (Nat.le_refl _) rfl rfl
      · next b e2 e1 =>
        rw [e1] at C L
        have r1 := L.1
        have I := ih b (x_bin (Int32.toNatClampNeg 38) e e2) (by omega) (PRok_bin o1 hp L)
        cases hz : p_loop tx F 1 r b (x_bin (Int32.toNatClampNeg 38) e e2) with
        | inl f =>
          rw [hz] at I
          obtain ⟨u, op', I⟩ := I
          exact ⟨u, op', W C I⟩
        | inr z =>
          rw [hz] at I
          exact W C I
    · rw [if_neg hc]
      show MW _ _ _ _ _ _ _ _ _ _ _ _
      repeat (refine mw_step rfl ?_)
      refine mw_call (c_O_takes0 hB a (by have := hp.2.1; omega) o 38 (fun z => hc (p_clos_1.mpr z))) rfl rfl (by omega) (Nat.le_refl _) (Nat.le_refl _) ?_
      refine mw_brT rfl (rfl) ?_
      repeat (refine mw_step rfl ?_)
      exact mw_r1 rfl trivial (Nat.le_refl _) (Nat.le_refl _) rfl rfl
theorem c_O_both (hX : TXok n tx) (hB : BY N sc x m tl bs n tx) {F : Nat → PR} (hF : ∀ a, a ≤ n → PRok n a (F a)) (d' : Nat) (hd1 : 1 ≤ d') (o : Int32) (hC : OF M_O_compared d' N sc x m tl bs n o F) : ∀ a, a ≤ n → OZ (envO m) o (match F a with
    | .inl f => .inl f
    | .inr (b, e) => p_loop tx F 1 120 b e) fun u a' f' op' => MC M_O_both (d' + 1) 0 0 [.ref 39] (hO N sc x m tl bs n (nI a) (-1) o) (some (.int u)) (hO N sc x m tl bs n a' f' op') := by
  have h120 := hX.1
  intro a ha
  have C := hC a ha
  have L := hF a ha
  have V : ∀ {v : Option Value} {u : Int32} {hT h' : MH}, MC M_O_compared d' 0 0 [.ref 39] (hO N sc x m tl bs n (nI a) (-1) o) (some (.int u)) h' → MW M_O_both (d' + 1) 0 0 v hT 0 0 5 [(0, .ref 39), (1, .int u)] [] h' → MC M_O_both (d' + 1) 0 0 [.ref 39] (hO N sc x m tl bs n (nI a) (-1) o) v hT := by
    intro v u hT h' C K
    refine mc_of k1_O_both k2_O_both (Nat.le_of_ble_eq_true rfl) ?_
    repeat (refine mw_step rfl ?_)
    refine mw_call (C) rfl rfl (by omega) (Nat.le_refl _) (Nat.le_refl _) ?_
    repeat (refine mw_to 5 rfl rfl ?_)
    refine mw_pick [0, 1] rfl ?_
    exact K
  split
  · next f e1 =>
    rw [e1] at C L
    have hf : f ≤ n := L
    obtain ⟨u, op', C⟩ := C
    refine ⟨u, op', V C ?_⟩
    repeat (refine mw_step rfl ?_)
    refine mw_call (c_O_takesF (nI f) op' 38 f (by omega)) rfl rfl (by omega) (Nat.le_refl _) (Nat.le_refl _) ?_
    refine mw_brT rfl (rfl) ?_
    repeat (refine mw_step rfl ?_)
    exact mw_r1 rfl trivial (Nat.le_refl _) (Nat.le_refl _) rfl rfl
  · next b e e1 =>
    rw [e1] at C L
    have hab := L.1
    have I := l_O_both hX hB hF (d' + 1) d' (Nat.le_refl _) (by omega) o hC a 120 b e (by omega) L
    cases hz : p_loop tx F 1 120 b e with
    | inl f =>
      rw [hz] at I
      obtain ⟨u, op', I⟩ := I
      exact ⟨u, op', V C I⟩
    | inr z =>
      rw [hz] at I
      exact V C I
theorem l_O_either (hX : TXok n tx) (hB : BY N sc x m tl bs n tx) {F : Nat → PR} (hF : ∀ a, a ≤ n → PRok n a (F a)) (d d' : Nat) (hd : d' + 1 ≤ d) (hd1 : 2 ≤ d) (o : Int32) (hC : OF M_O_both d' N sc x m tl bs n o F) (a0 : Nat) : ∀ r a e, 121 ≤ a + r → PRok n a0 (.inr (a, e)) → OZ (envO m) o (p_loop tx F 0 r a e) fun u a' f' op' => MW M_O_either d 0 0 (some (.int u)) (hO N sc x m tl bs n a' f' op') 0 0 5 [(0, .ref 39), (1, .int (e.2 (envO m)))] [] (hO N sc x m tl bs n (nI a) (-1) o) := by
  have h120 := hX.1
  intro r
  induction r with
  | zero =>
    intro a e hr hp
    have := hp.2.1
    exact absurd hr (by omega)
  | succ r ih =>
    intro a e hr hp
    rw [p_loop]
    by_cases hc : p_clos (tx a) = 0
    · rw [if_pos hc]
      obtain ⟨o1, o2, o3⟩ := p_clos_op (c := tx a) (by omega)
      have hlt := tx_lt hX o3
      have C := hC (a + 1) hlt
      have L := hF (a + 1) hlt
      have hc' := p_clos_0.mp hc
      rw [hc'] at o1 ⊢
      have W : ∀ {v : Option Value} {u : Int32} {hT h' : MH}, MC M_O_both d' 0 0 [.ref 39] (hO N sc x m tl bs n (nI (a + 1)) (-1) o) (some (.int u)) h' → MW M_O_either d 0 0 v hT 0 0 5 [(0, .ref 39), (1, .int (sp_join (Int32.toNatClampNeg 124) (e.2 (envO m)) u))] [] h' → MW M_O_either d 0 0 v hT 0 0 5 [(0, .ref 39), (1, .int (e.2 (envO m)))] [] (hO N sc x m tl bs n (nI a) (-1) o) := by
        intro v u hT h' C K
        repeat (refine mw_step rfl ?_)
        refine mw_call (c_O_takes1 hB a (by omega) o 124 hc') rfl rfl (by omega) (Nat.le_refl _) (Nat.le_refl _) ?_
        refine mw_brF rfl (by decide) ?_
        repeat (refine mw_step rfl ?_)
        refine mw_call (C) rfl rfl (by omega) (Nat.le_refl _) (Nat.le_refl _) ?_
        repeat (refine mw_step rfl ?_)
        rw [show sp_join (Int32.toNatClampNeg 124) (e.2 (envO m)) u = bI (¬ e.2 (envO m) = 0 ∨ ¬ u = 0) from rfl] at K
        refine mw_br rfl (fun h1 => ?_) (fun h1 => ?_)
        · repeat (refine mw_step rfl ?_)
          refine mw_br rfl (fun h2 => ?_) (fun h2 => ?_)
          · rw [bI_f (fun z => z.elim (fun y => y h1) (fun y => y h2))] at K
            repeat (refine mw_to 5 rfl rfl ?_)
            refine mw_pick [0, 1] rfl ?_
            exact K
          · rw [bI_t (Or.inr h2)] at K
            repeat (refine mw_to 5 rfl rfl ?_)
            refine mw_pick [0, 1] rfl ?_
            exact K
        · rw [bI_t (Or.inl h1)] at K
          repeat (refine mw_to 5 rfl rfl ?_)
          refine mw_pick [0, 1] rfl ?_
          exact K
      split
      · next f e1 =>
        rw [e1] at C L
        have hf : f ≤ n := L
        obtain ⟨u, op', C⟩ := C
        refine ⟨sp_join (Int32.toNatClampNeg 124) (e.2 (envO m)) u, op', W C ?_⟩
        repeat (refine mw_step rfl ?_)
        refine mw_call (c_O_takesF (nI f) op' 124 f (by omega)) rfl rfl (by omega) (Nat.le_refl _) (Nat.le_refl _) ?_
        refine mw_brT rfl (rfl) ?_
        repeat (refine mw_step rfl ?_)
        exact mw_r1 rfl trivial (Nat.le_refl _) (Nat.le_refl _) rfl rfl
      · next b e2 e1 =>
        rw [e1] at C L
        have r1 := L.1
        have I := ih b (x_bin (Int32.toNatClampNeg 124) e e2) (by omega) (PRok_bin o1 hp L)
        cases hz : p_loop tx F 0 r b (x_bin (Int32.toNatClampNeg 124) e e2) with
        | inl f =>
          rw [hz] at I
          obtain ⟨u, op', I⟩ := I
          exact ⟨u, op', W C I⟩
        | inr z =>
          rw [hz] at I
          exact W C I
    · rw [if_neg hc]
      show MW _ _ _ _ _ _ _ _ _ _ _ _
      repeat (refine mw_step rfl ?_)
      refine mw_call (c_O_takes0 hB a (by have := hp.2.1; omega) o 124 (fun z => hc (p_clos_0.mpr z))) rfl rfl (by omega) (Nat.le_refl _) (Nat.le_refl _) ?_
      refine mw_brT rfl (rfl) ?_
      repeat (refine mw_step rfl ?_)
      exact mw_r1 rfl trivial (Nat.le_refl _) (Nat.le_refl _) rfl rfl
theorem c_O_either (hX : TXok n tx) (hB : BY N sc x m tl bs n tx) {F : Nat → PR} (hF : ∀ a, a ≤ n → PRok n a (F a)) (d' : Nat) (hd1 : 1 ≤ d') (o : Int32) (hC : OF M_O_both d' N sc x m tl bs n o F) : ∀ a, a ≤ n → OZ (envO m) o (match F a with
    | .inl f => .inl f
    | .inr (b, e) => p_loop tx F 0 120 b e) fun u a' f' op' => MC M_O_either (d' + 1) 0 0 [.ref 39] (hO N sc x m tl bs n (nI a) (-1) o) (some (.int u)) (hO N sc x m tl bs n a' f' op') := by
  have h120 := hX.1
  intro a ha
  have C := hC a ha
  have L := hF a ha
  have V : ∀ {v : Option Value} {u : Int32} {hT h' : MH}, MC M_O_both d' 0 0 [.ref 39] (hO N sc x m tl bs n (nI a) (-1) o) (some (.int u)) h' → MW M_O_either (d' + 1) 0 0 v hT 0 0 5 [(0, .ref 39), (1, .int u)] [] h' → MC M_O_either (d' + 1) 0 0 [.ref 39] (hO N sc x m tl bs n (nI a) (-1) o) v hT := by
    intro v u hT h' C K
    refine mc_of k1_O_either k2_O_either (Nat.le_of_ble_eq_true rfl) ?_
    repeat (refine mw_step rfl ?_)
    refine mw_call (C) rfl rfl (by omega) (Nat.le_refl _) (Nat.le_refl _) ?_
    repeat (refine mw_to 5 rfl rfl ?_)
    refine mw_pick [0, 1] rfl ?_
    exact K
  split
  · next f e1 =>
    rw [e1] at C L
    have hf : f ≤ n := L
    obtain ⟨u, op', C⟩ := C
    refine ⟨u, op', V C ?_⟩
    repeat (refine mw_step rfl ?_)
    refine mw_call (c_O_takesF (nI f) op' 124 f (by omega)) rfl rfl (by omega) (Nat.le_refl _) (Nat.le_refl _) ?_
    refine mw_brT rfl (rfl) ?_
    repeat (refine mw_step rfl ?_)
    exact mw_r1 rfl trivial (Nat.le_refl _) (Nat.le_refl _) rfl rfl
  · next b e e1 =>
    rw [e1] at C L
    have hab := L.1
    have I := l_O_either hX hB hF (d' + 1) d' (Nat.le_refl _) (by omega) o hC a 120 b e (by omega) L
    cases hz : p_loop tx F 0 120 b e with
    | inl f =>
      rw [hz] at I
      obtain ⟨u, op', I⟩ := I
      exact ⟨u, op', V C I⟩
    | inr z =>
      rw [hz] at I
      exact V C I
/-- an E, out of an O -/
theorem c_O_E (hX : TXok n tx) (hB : BY N sc x m tl bs n tx) {F : Nat → PR} (hF : ∀ a, a ≤ n → PRok n a (F a)) (d : Nat) (o : Int32) (hC : OF M_O_one d N sc x m tl bs n o F) : OF M_O_either (d + 5) N sc x m tl bs n o (p_lv tx F 5) := by
  have C1 := c_O_product hX hB hF d o hC
  have F1 := p_lv_ok hX hF 1
  have C2 : OF M_O_sums (d + 2) N sc x m tl bs n o (p_lv tx F 2) := c_O_sums hX hB F1 (d + 1) o C1
  have F2 := p_lv_ok hX hF 2
  have C3 : OF M_O_compared (d + 3) N sc x m tl bs n o (p_lv tx F 3) := c_O_compared hX hB F2 (d + 2) o C2
  have F3 := p_lv_ok hX hF 3
  have C4 : OF M_O_both (d + 4) N sc x m tl bs n o (p_lv tx F 4) := c_O_both hX hB F3 (d + 3) (by omega) o C3
  have F4 := p_lv_ok hX hF 4
  exact c_O_either hX hB F4 (d + 4) (by omega) o C4
theorem c_O_one1 (hX : TXok n tx) (hB : BY N sc x m tl bs n tx) (o d d' : Nat) (ho : o < 6) (hd : d' + 1 ≤ d) (hd2 : 2 ≤ d) (a : Nat) (ha : a < n) (h1 : tx a = 40) {u : Int32} {h' : MH} {v : Option Value} {hT : MH} (C : MC M_O_either d' 0 0 [.ref 39] (hO N sc x m tl bs n (nI (a + 1)) (-1) (nI (o + 1))) (some (.int u)) h') (K : MW M_O_one d 0 0 v hT 0 0 83 [(0, .ref 39), (1, .int 40)] [.int u] h') : MC M_O_one d 0 0 [.ref 39] (hO N sc x m tl bs n (nI a) (-1) (nI o)) v hT := by
  have h120 := hX.1
  rw [← nI_1 a, ← nI_1 o] at C
  refine mc_of k1_O_one k2_O_one (Nat.le_of_ble_eq_true rfl) ?_
  repeat (refine mw_step rfl ?_)
  refine mw_brT rfl (m1_neg) ?_
  repeat (refine mw_step rfl ?_)
  refine mw_call (hB a (-1) (nI o) (by omega)) rfl rfl (by omega) (Nat.le_refl _) (Nat.le_refl _) ?_
  rw [h1]
  repeat (refine mw_step rfl ?_)
  refine mw_brF rfl (by decide) ?_
  repeat (refine mw_step rfl ?_)
  refine mw_brF rfl (by decide) ?_
  repeat (refine mw_step rfl ?_)
  refine mw_brT rfl (rfl) ?_
  repeat (refine mw_step rfl ?_)
  refine mw_brF rfl (fun z => absurd ((nI_eq (b := 6) (by omega) (by omega)).mp z) (by omega)) ?_
  repeat (refine mw_step rfl ?_)
  refine mw_brT rfl (rfl) ?_
  repeat (refine mw_step rfl ?_)
  refine mw_call (C) rfl rfl (by omega) (Nat.le_refl _) (Nat.le_refl _) ?_
  repeat (refine mw_to 83 rfl rfl ?_)
  refine mw_pick [0, 1] rfl ?_
  exact K
theorem c_O_one2 (hX : TXok n tx) (hB : BY N sc x m tl bs n tx) (o d d' : Nat) (ho : o < 6) (hd : d' + 1 ≤ d) (hd2 : 2 ≤ d) (a : Nat) (ha : a < n) (c : Int32) (hc : c = 33 ∨ c = 45) (h1 : tx a = c) {u : Int32} {h' : MH} {v : Option Value} {hT : MH} (C : MC M_O_one d' 0 0 [.ref 39] (hO N sc x m tl bs n (nI (a + 1)) (-1) (nI (o + 1))) (some (.int u)) h') (K : MW M_O_one d 0 0 v hT 0 0 104 [(0, .ref 39), (1, .int c), (2, .int u)] [] h') : MC M_O_one d 0 0 [.ref 39] (hO N sc x m tl bs n (nI a) (-1) (nI o)) v hT := by
  have h120 := hX.1
  rw [← nI_1 a, ← nI_1 o] at C
  have K32 : MW M_O_one d 0 0 v hT 0 0 32 [(0, .ref 39), (1, .int c)] [] (hO N sc x m tl bs n (nI a) (-1) (nI o)) := by
    repeat (refine mw_step rfl ?_)
    refine mw_brF rfl (fun z => absurd ((nI_eq (b := 6) (by omega) (by omega)).mp z) (by omega)) ?_
    repeat (refine mw_step rfl ?_)
    refine mw_brF rfl (by rcases hc with rfl | rfl <;> decide) ?_
    repeat (refine mw_step rfl ?_)
    refine mw_call (C) rfl rfl (by omega) (Nat.le_refl _) (Nat.le_refl _) ?_
    repeat (refine mw_step rfl ?_)
    refine mw_brF rfl (by rcases hc with rfl | rfl <;> decide) ?_
    refine mw_pick [0, 1, 2] rfl ?_
    exact K
  refine mc_of k1_O_one k2_O_one (Nat.le_of_ble_eq_true rfl) ?_
  repeat (refine mw_step rfl ?_)
  refine mw_brT rfl (m1_neg) ?_
  repeat (refine mw_step rfl ?_)
  refine mw_call (hB a (-1) (nI o) (by omega)) rfl rfl (by omega) (Nat.le_refl _) (Nat.le_refl _) ?_
  rw [h1]
  repeat (refine mw_step rfl ?_)
  refine mw_br rfl (fun h3 => ?_) (fun h3 => ?_)
  · refine mw_pick [0, 1] rfl ?_
    exact K32
  · repeat (refine mw_step rfl ?_)
    refine mw_brT rfl (by rcases hc with z | z <;> first | contradiction | exact z) ?_
    refine mw_pick [0, 1] rfl ?_
    exact K32
theorem n_m1 (o : Nat) : nI (o + 1) - 1 = nI o := nI_pred o
theorem hO_dec (a' f' : Int32) (o : Nat) : hO N sc x m tl bs n a' f' (nI o) = hO N sc x m tl bs n a' f' (nI (o + 1) - 1) := by rw [nI_pred]
theorem w_par (d : Nat) (op a' f' u : Int32) : MW M_O_one d 0 0 (some (.int u)) (hO N sc x m tl bs n a' f' (op - 1)) 0 0 104 [(0, .ref 39), (1, .int 40), (2, .int u)] [] (hO N sc x m tl bs n a' f' op) := by
  repeat (refine mw_step rfl ?_)
  refine mw_brT rfl (rfl) ?_
  repeat (refine mw_step rfl ?_)
  exact mw_r1 rfl trivial (Nat.le_refl _) (Nat.le_refl _) rfl rfl
theorem w_no (d : Nat) (op a' f' u : Int32) : MW M_O_one d 0 0 (some (.int (bI (u = 0)))) (hO N sc x m tl bs n a' f' (op - 1)) 0 0 104 [(0, .ref 39), (1, .int 33), (2, .int u)] [] (hO N sc x m tl bs n a' f' op) := by
  repeat (refine mw_step rfl ?_)
  refine mw_brF rfl (by decide) ?_
  repeat (refine mw_step rfl ?_)
  refine mw_brF rfl (by decide) ?_
  repeat (refine mw_step rfl ?_)
  refine mw_br rfl (fun h3 => ?_) (fun h3 => ?_)
  · rw [bI_t h3]
    repeat (refine mw_step rfl ?_)
    exact mw_r1 rfl trivial (Nat.le_refl _) (Nat.le_refl _) rfl rfl
  · rw [bI_f h3]
    repeat (refine mw_step rfl ?_)
    exact mw_r1 rfl trivial (Nat.le_refl _) (Nat.le_refl _) rfl rfl
theorem w_neg (d : Nat) (op a' f' u : Int32) : MW M_O_one d 0 0 (some (.int (-u))) (hO N sc x m tl bs n a' f' (op - 1)) 0 0 104 [(0, .ref 39), (1, .int 45), (2, .int u)] [] (hO N sc x m tl bs n a' f' op) := by
  repeat (refine mw_step rfl ?_)
  refine mw_brF rfl (by decide) ?_
  repeat (refine mw_step rfl ?_)
  refine mw_brT rfl (rfl) ?_
  repeat (refine mw_step rfl ?_)
  exact mw_r1 rfl trivial (Nat.le_refl _) (Nat.le_refl _) rfl rfl
theorem c_O_par (hX : TXok n tx) (hB : BY N sc x m tl bs n tx) {F : Nat → PR} (hF : ∀ a, a ≤ n → PRok n a (F a)) (o d : Nat) (ho : o < 6) (hC : OF M_O_either d N sc x m tl bs n (nI (o + 1)) F) (hd : 1 ≤ d) (a : Nat) (h1 : tx a = 40) : OZ (envO m) (nI o) (match F (a + 1) with
      | .inl f => .inl f
      | .inr (b, e) => if tx b = 41 then .inr (b + 1, e) else .inl b) fun u a' f' op' => MC M_O_one (d + 1) 0 0 [.ref 39] (hO N sc x m tl bs n (nI a) (-1) (nI o)) (some (.int u)) (hO N sc x m tl bs n a' f' op') := by
  have h120 := hX.1
  have hlt := tx_lt hX (show ¬ tx a = 0 by rw [h1]; decide)
  have C := hC (a + 1) hlt
  have L := hF (a + 1) hlt
  split
  · next f e1 =>
    rw [e1] at C L
    have hf : f ≤ n := L
    obtain ⟨u, op', C⟩ := C
    refine ⟨0, op', c_O_one1 hX hB o _ _ ho (Nat.le_refl _) (by omega) a hlt h1 C ?_⟩
    repeat (refine mw_step rfl ?_)
    refine mw_brT rfl (rfl) ?_
    repeat (refine mw_step rfl ?_)
    refine mw_call (c_O_takesF (nI f) op' 41 f (by omega)) rfl rfl (by omega) (Nat.le_refl _) (Nat.le_refl _) ?_
    refine mw_brT rfl (rfl) ?_
    repeat (refine mw_step rfl ?_)
    refine mw_call (c_O_wrongF (nI f) op' f (by omega)) rfl rfl (by omega) (Nat.le_refl _) (Nat.le_refl _) ?_
    exact mw_r1 rfl trivial (Nat.le_refl _) (Nat.le_refl _) rfl rfl
  · next b e e1 =>
    rw [e1] at C L
    have hb : b ≤ n := L.2.1
    by_cases h2 : tx b = 41
    · rw [if_pos h2]
      show MC _ _ _ _ _ _ _ (hO N sc x m tl bs n (nI (b + 1)) (-1) (nI o))
      rw [hO_dec (nI (b + 1)) (-1) o]
      refine c_O_one1 hX hB o _ _ ho (Nat.le_refl _) (by omega) a hlt h1 C ?_
      repeat (refine mw_step rfl ?_)
      refine mw_brT rfl (rfl) ?_
      repeat (refine mw_step rfl ?_)
      refine mw_call (c_O_takes1 hB b (by omega) _ 41 h2) rfl rfl (by omega) (Nat.le_refl _) (Nat.le_refl _) ?_
      refine mw_brF rfl (by decide) ?_
      refine mw_pick [0, 1, 2] rfl ?_
      exact w_par (d + 1) _ _ _ _
    · rw [if_neg h2]
      refine ⟨0, nI (o + 1), c_O_one1 hX hB o _ _ ho (Nat.le_refl _) (by omega) a hlt h1 C ?_⟩
      repeat (refine mw_step rfl ?_)
      refine mw_brT rfl (rfl) ?_
      repeat (refine mw_step rfl ?_)
      refine mw_call (c_O_takes0 hB b (by omega) _ 41 h2) rfl rfl (by omega) (Nat.le_refl _) (Nat.le_refl _) ?_
      refine mw_brT rfl (rfl) ?_
      repeat (refine mw_step rfl ?_)
      refine mw_call (c_O_wrong (nI b) _) rfl rfl (by omega) (Nat.le_refl _) (Nat.le_refl _) ?_
      exact mw_r1 rfl trivial (Nat.le_refl _) (Nat.le_refl _) rfl rfl
theorem c_O_no (hX : TXok n tx) (hB : BY N sc x m tl bs n tx) {F : Nat → PR} (o d D : Nat) (hD : d + 1 ≤ D) (ho : o < 6) (hC : OF M_O_one d N sc x m tl bs n (nI (o + 1)) F) (hd : 1 ≤ d) (a : Nat) (h2 : tx a = 33) : OZ (envO m) (nI o) (match F (a + 1) with
      | .inl f => .inl f
      | .inr (b, e) => .inr (b, x_no e)) fun u a' f' op' => MC M_O_one D 0 0 [.ref 39] (hO N sc x m tl bs n (nI a) (-1) (nI o)) (some (.int u)) (hO N sc x m tl bs n a' f' op') := by
  have hlt := tx_lt hX (show ¬ tx a = 0 by rw [h2]; decide)
  have C := hC (a + 1) hlt
  split
  · next f e1 =>
    rw [e1] at C
    obtain ⟨u, op', C⟩ := C
    exact ⟨bI (u = 0), op' - 1, c_O_one2 hX hB o D d ho hD (by omega) a hlt 33 (Or.inl rfl) h2 C (w_no _ _ _ _ _)⟩
  · next b e e1 =>
    rw [e1] at C
    have := c_O_one2 hX hB o D d ho hD (by omega) a hlt 33 (Or.inl rfl) h2 C (w_no (N := N) (sc := sc) (x := x) (m := m) (tl := tl) (n := n) (bs := bs) D (nI (o + 1)) (nI b) (-1) (e.2 (envO m)))
    rw [← hO_dec] at this
    exact this
theorem c_O_neg (hX : TXok n tx) (hB : BY N sc x m tl bs n tx) {F : Nat → PR} (o d D : Nat) (hD : d + 1 ≤ D) (ho : o < 6) (hC : OF M_O_one d N sc x m tl bs n (nI (o + 1)) F) (hd : 1 ≤ d) (a : Nat) (h2 : tx a = 45) : OZ (envO m) (nI o) (match F (a + 1) with
      | .inl f => .inl f
      | .inr (b, e) => .inr (b, x_neg e)) fun u a' f' op' => MC M_O_one D 0 0 [.ref 39] (hO N sc x m tl bs n (nI a) (-1) (nI o)) (some (.int u)) (hO N sc x m tl bs n a' f' op') := by
  have hlt := tx_lt hX (show ¬ tx a = 0 by rw [h2]; decide)
  have C := hC (a + 1) hlt
  split
  · next f e1 =>
    rw [e1] at C
    obtain ⟨u, op', C⟩ := C
    exact ⟨-u, op' - 1, c_O_one2 hX hB o D d ho hD (by omega) a hlt 45 (Or.inr rfl) h2 C (w_neg _ _ _ _ _)⟩
  · next b e e1 =>
    rw [e1] at C
    have := c_O_one2 hX hB o D d ho hD (by omega) a hlt 45 (Or.inr rfl) h2 C (w_neg (N := N) (sc := sc) (x := x) (m := m) (tl := tl) (n := n) (bs := bs) D (nI (o + 1)) (nI b) (-1) (e.2 (envO m)))
    rw [← hO_dec] at this
    exact this
theorem c_O_step (hX : TXok n tx) (hB : BY N sc x m tl bs n tx) {F : Nat → PR} (hF : ∀ a, a ≤ n → PRok n a (F a)) (o d : Nat) (ho : o < 6) (hd : 2 ≤ d) (hC : OF M_O_one d N sc x m tl bs n (nI (o + 1)) F) : OF M_O_one (d + 6) N sc x m tl bs n (nI o) (p_step tx F) := by
  intro a ha
  unfold p_step
  by_cases h1 : tx a = 40
  · rw [if_pos h1]
    exact c_O_par hX hB (p_lv_ok hX hF 5) o (d + 5) ho (c_O_E hX hB hF d _ hC) (by omega) a h1
  · rw [if_neg h1]
    by_cases h2 : tx a = 33
    · rw [if_pos h2]
      exact c_O_no hX hB o d (d + 6) (by omega) ho hC (by omega) a h2
    · rw [if_neg h2]
      by_cases h3 : tx a = 45
      · rw [if_pos h3]
        exact c_O_neg hX hB o d (d + 6) (by omega) ho hC (by omega) a h3
      · rw [if_neg h3]
        exact c_O_base hX hB o (d + 6) (by omega) (by omega) a ha (Or.inr ⟨h1, h2, h3⟩)
theorem c_O_op (hX : TXok n tx) (hB : BY N sc x m tl bs n tx) : ∀ q o, q + o = 6 → OF M_O_one (2 + 6 * q) N sc x m tl bs n (nI o) (p_op tx q) := by
  intro q
  induction q with
  | zero =>
    intro o ho a ha
    rw [show o = 6 by omega]
    exact c_O_base hX hB 6 2 (by omega) (by omega) a ha (Or.inl rfl)
  | succ q ih =>
    intro o ho
    rw [show 2 + 6 * (q + 1) = 2 + 6 * q + 6 by omega]
    exact c_O_step hX hB (p_op_ok hX q) o (2 + 6 * q) (by omega) (by omega) (ih (o + 1) (by omega))
theorem c_O_pE (hX : TXok n tx) (hB : BY N sc x m tl bs n tx) : OF M_O_either 43 N sc x m tl bs n (nI 0) (p_E tx) := c_O_E hX hB (p_op_ok hX 6) 38 (nI 0) (c_O_op hX hB 6 0 (by omega))
end OB
