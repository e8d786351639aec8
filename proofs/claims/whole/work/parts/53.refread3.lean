/-! the reference: sums, compared -/
section OM
variable {N : Nat} {sc : Nat × (Nat → Int32)} {x : XS} {m : OS} {tl : MH} {n : Nat} {bs : Int32} {tx : Nat → Int32}
theorem PRok_bin {n a0 a b : Nat} {e e2 : Ex} {s : Nat} (hs : sp_isOp s) (hp : PRok n a0 (.inr (a, e))) (L : PRok n (a + 1) (.inr (b, e2))) : PRok n a0 (.inr (b, x_bin s e e2)) := by
  have r1 := L.1
  have r3 : e2.1.length ≤ b - (a + 1) := L.2.2.2
  have p1 := hp.1
  have p3 : e.1.length ≤ a - a0 := hp.2.2.2
  have hlen : (x_bin s e e2).1.length = e.1.length + (e2.1.length + 1) := by show (e.1 ++ (e2.1 ++ [-nI s])).length = _; rw [List.length_append, List.length_append, List.length_singleton]
  exact ⟨by omega, L.2.1, x_bin_ok hs hp.2.2.1 L.2.2.1, by show (x_bin s e e2).1.length ≤ _; omega⟩
theorem l_O_sums (hX : TXok n tx) (hB : BY N sc x m tl bs n tx) {F : Nat → PR} (hF : ∀ a, a ≤ n → PRok n a (F a)) (d d' : Nat) (hd : d' + 1 ≤ d) (o : Int32) (hC : OF M_O_product d' N sc x m tl bs n o F) (a0 : Nat) : ∀ r a e, 121 ≤ a + r → PRok n a0 (.inr (a, e)) → OZ (envO m) o (p_loop tx F 3 r a e) fun u a' f' op' => MW M_O_sums d 0 0 (some (.int u)) (hO N sc x m tl bs n a' f' op') 0 0 5 [(0, .ref 39), (1, .int (e.2 (envO m)))] [] (hO N sc x m tl bs n (nI a) (-1) o) := by
  have h120 := hX.1
  intro r
  induction r with
  | zero =>
    intro a e hr hp
    have := hp.2.1
    exact absurd hr (by omega)
  | succ r ih =>
    intro a e hr hp
    rw [p_loop]
    by_cases hc : p_clos (tx a) = 3
    · rw [if_pos hc]
      obtain ⟨o1, o2, o3⟩ := p_clos_op (c := tx a) (by omega)
      have hlt := tx_lt hX o3
      have C := hC (a + 1) hlt
      have L := hF (a + 1) hlt
      have hc' := p_clos_3.mp hc
      have W : ∀ {v : Option Value} {u : Int32} {hT h' : MH}, MC M_O_product d' 0 0 [.ref 39] (hO N sc x m tl bs n (nI (a + 1)) (-1) o) (some (.int u)) h' → MW M_O_sums d 0 0 v hT 0 0 5 [(0, .ref 39), (1, .int (sp_join (tx a).toNatClampNeg (e.2 (envO m)) u))] [] h' → MW M_O_sums d 0 0 v hT 0 0 5 [(0, .ref 39), (1, .int (e.2 (envO m)))] [] (hO N sc x m tl bs n (nI a) (-1) o) := by
        intro v u hT h' C K
        rw [← nI_1 a] at C
        repeat (refine mw_step rfl ?_)
        refine mw_brT rfl (m1_neg) ?_
        repeat (refine mw_step rfl ?_)
        refine mw_call (hB a (-1) o (by omega)) rfl rfl (by omega) (Nat.le_refl _) (Nat.le_refl _) ?_
        rcases hc' with z | z
        · rw [z] at K ⊢
          repeat (refine mw_step rfl ?_)
          refine mw_brT rfl (rfl) ?_
          repeat (refine mw_step rfl ?_)
          refine mw_call (hB a (-1) o (by omega)) rfl rfl (by omega) (Nat.le_refl _) (Nat.le_refl _) ?_
          rw [z]
          repeat (refine mw_step rfl ?_)
          refine mw_brT rfl (rfl) ?_
          repeat (refine mw_step rfl ?_)
          refine mw_call (C) rfl rfl (by omega) (Nat.le_refl _) (Nat.le_refl _) ?_
          repeat (refine mw_step rfl ?_)
          refine mw_brF rfl (by decide) ?_
          repeat (refine mw_to 5 rfl rfl ?_)
          refine mw_pick [0, 1] rfl ?_
          exact K
        · rw [z] at K ⊢
          repeat (refine mw_step rfl ?_)
          refine mw_brF rfl (by decide) ?_
          repeat (refine mw_step rfl ?_)
          refine mw_call (hB a (-1) o (by omega)) rfl rfl (by omega) (Nat.le_refl _) (Nat.le_refl _) ?_
          rw [z]
          repeat (refine mw_step rfl ?_)
          refine mw_brT rfl (rfl) ?_
          repeat (refine mw_step rfl ?_)
          refine mw_call (hB a (-1) o (by omega)) rfl rfl (by omega) (Nat.le_refl _) (Nat.le_refl _) ?_
          rw [z]
          repeat (refine mw_step rfl ?_)
          refine mw_brF rfl (by decide) ?_
          repeat (refine mw_step rfl ?_)
          refine mw_call (C) rfl rfl (by omega) (Nat.le_refl _) (Nat.le_refl _) ?_
          repeat (refine mw_step rfl ?_)
          refine mw_brT rfl (rfl) ?_
          repeat (refine mw_to 5 rfl rfl ?_)
          refine mw_pick [0, 1] rfl ?_
          exact K
      split
      · next f e1 =>
        rw [e1] at C L
        have hf : f ≤ n := L
        obtain ⟨u, op', C⟩ := C
        refine ⟨sp_join (tx a).toNatClampNeg (e.2 (envO m)) u, op', W C ?_⟩
        repeat (refine mw_step rfl ?_)
        refine mw_brF rfl (nI_pos (by omega)) ?_
        repeat (refine mw_step rfl ?_)
        exact mw_r1 rfl trivial (Nat.le_refl _) (Nat.le_refl _) rfl rfl
      · next b e2 e1 =>
        rw [e1] at C L
        have r1 := L.1
        have I := ih b (x_bin (tx a).toNatClampNeg e e2) (by omega) (PRok_bin o1 hp L)
        cases hz : p_loop tx F 3 r b (x_bin (tx a).toNatClampNeg e e2) with
        | inl f =>
          rw [hz] at I
          obtain ⟨u, op', I⟩ := I
          exact ⟨u, op', W C I⟩
        | inr z =>
          rw [hz] at I
          exact W C I
    · rw [if_neg hc]
      show MW _ _ _ _ _ _ _ _ _ _ _ _
      have hc' : ¬ (tx a = 43 ∨ tx a = 45) := fun z => hc (p_clos_3.mpr z)
      have ha2 := hp.2.1
      repeat (refine mw_step rfl ?_)
      refine mw_brT rfl (m1_neg) ?_
      repeat (refine mw_step rfl ?_)
      refine mw_call (hB a (-1) o (by omega)) rfl rfl (by omega) (Nat.le_refl _) (Nat.le_refl _) ?_
      repeat (refine mw_step rfl ?_)
      refine mw_brF rfl (fun z => hc' (Or.inl z)) ?_
      repeat (refine mw_step rfl ?_)
      refine mw_call (hB a (-1) o (by omega)) rfl rfl (by omega) (Nat.le_refl _) (Nat.le_refl _) ?_
      repeat (refine mw_step rfl ?_)
      refine mw_brF rfl (fun z => hc' (Or.inr z)) ?_
      repeat (refine mw_step rfl ?_)
      exact mw_r1 rfl trivial (Nat.le_refl _) (Nat.le_refl _) rfl rfl
theorem c_O_sums (hX : TXok n tx) (hB : BY N sc x m tl bs n tx) {F : Nat → PR} (hF : ∀ a, a ≤ n → PRok n a (F a)) (d' : Nat) (o : Int32) (hC : OF M_O_product d' N sc x m tl bs n o F) : ∀ a, a ≤ n → OZ (envO m) o (match F a with
    | .inl f => .inl f
    | .inr (b, e) => p_loop tx F 3 120 b e) fun u a' f' op' => MC M_O_sums (d' + 1) 0 0 [.ref 39] (hO N sc x m tl bs n (nI a) (-1) o) (some (.int u)) (hO N sc x m tl bs n a' f' op') := by
  have h120 := hX.1
  intro a ha
  have C := hC a ha
  have L := hF a ha
  have V : ∀ {v : Option Value} {u : Int32} {hT h' : MH}, MC M_O_product d' 0 0 [.ref 39] (hO N sc x m tl bs n (nI a) (-1) o) (some (.int u)) h' → MW M_O_sums (d' + 1) 0 0 v hT 0 0 5 [(0, .ref 39), (1, .int u)] [] h' → MC M_O_sums (d' + 1) 0 0 [.ref 39] (hO N sc x m tl bs n (nI a) (-1) o) v hT := by
    intro v u hT h' C K
    refine mc_of k1_O_sums k2_O_sums (Nat.le_of_ble_eq_true rfl) ?_
    repeat (refine mw_step rfl ?_)
    refine mw_call (C) rfl rfl (by omega) (Nat.le_refl _) (Nat.le_refl _) ?_
    repeat (refine mw_to 5 rfl rfl ?_)
    refine mw_pick [0, 1] rfl ?_
    exact K
  split
  · next f e1 =>
    rw [e1] at C L
    have hf : f ≤ n := L
    obtain ⟨u, op', C⟩ := C
    refine ⟨u, op', V C ?_⟩
    repeat (refine mw_step rfl ?_)
    refine mw_brF rfl (nI_pos (by omega)) ?_
    repeat (refine mw_step rfl ?_)
    exact mw_r1 rfl trivial (Nat.le_refl _) (Nat.le_refl _) rfl rfl
  · next b e e1 =>
    rw [e1] at C L
    have hab := L.1
    have I := l_O_sums hX hB hF (d' + 1) d' (Nat.le_refl _) o hC a 120 b e (by omega) L
    cases hz : p_loop tx F 3 120 b e with
    | inl f =>
      rw [hz] at I
      obtain ⟨u, op', I⟩ := I
      exact ⟨u, op', V C I⟩
    | inr z =>
      rw [hz] at I
      exact V C I
theorem w_cmpJ {d : Nat} (c l w : Int32) {h : MH} (hc : c = 60 ∨ c = 61 ∨ c = 62) : MW M_O_compared d 0 0 (some (.int (sp_join c.toNatClampNeg l w))) h 0 0 52 [(0, .ref 39), (1, .int l), (2, .int c), (3, .int w)] [] h := by
  rcases hc with rfl | rfl | rfl
  · rw [show sp_join (Int32.toNatClampNeg 60) l w = bI (l < w) from rfl]
    repeat (refine mw_step rfl ?_)
    refine mw_brT rfl (rfl) ?_
    repeat (refine mw_step rfl ?_)
    refine mw_br rfl (fun h1 => ?_) (fun h1 => ?_)
    · rw [bI_t h1]
      repeat (refine mw_step rfl ?_)
      exact mw_r1 rfl trivial (Nat.le_refl _) (Nat.le_refl _) rfl rfl
    · rw [bI_f h1]
      repeat (refine mw_step rfl ?_)
      exact mw_r1 rfl trivial (Nat.le_refl _) (Nat.le_refl _) rfl rfl
  · rw [show sp_join (Int32.toNatClampNeg 61) l w = bI (l = w) from rfl]
    repeat (refine mw_step rfl ?_)
    refine mw_brF rfl (by decide) ?_
    repeat (refine mw_step rfl ?_)
    refine mw_brT rfl (rfl) ?_
    repeat (refine mw_step rfl ?_)
    refine mw_br rfl (fun h1 => ?_) (fun h1 => ?_)
    · rw [bI_t h1]
      repeat (refine mw_step rfl ?_)
      exact mw_r1 rfl trivial (Nat.le_refl _) (Nat.le_refl _) rfl rfl
    · rw [bI_f h1]
      repeat (refine mw_step rfl ?_)
      exact mw_r1 rfl trivial (Nat.le_refl _) (Nat.le_refl _) rfl rfl
  · rw [show sp_join (Int32.toNatClampNeg 62) l w = bI (w < l) from rfl]
    repeat (refine mw_step rfl ?_)
    refine mw_brF rfl (by decide) ?_
    repeat (refine mw_step rfl ?_)
    refine mw_brF rfl (by decide) ?_
    repeat (refine mw_step rfl ?_)
    refine mw_br rfl (fun h1 => ?_) (fun h1 => ?_)
    · rw [bI_t h1]
      repeat (refine mw_step rfl ?_)
      exact mw_r1 rfl trivial (Nat.le_refl _) (Nat.le_refl _) rfl rfl
    · rw [bI_f h1]
      repeat (refine mw_step rfl ?_)
      exact mw_r1 rfl trivial (Nat.le_refl _) (Nat.le_refl _) rfl rfl
theorem c_O_compared (hX : TXok n tx) (hB : BY N sc x m tl bs n tx) {F : Nat → PR} (hF : ∀ a, a ≤ n → PRok n a (F a)) (d' : Nat) (o : Int32) (hC : OF M_O_sums d' N sc x m tl bs n o F) : ∀ a, a ≤ n → OZ (envO m) o (match F a with
    | .inl f => .inl f
    | .inr (b, e) => p_loop tx F 2 1 b e) fun u a' f' op' => MC M_O_compared (d' + 1) 0 0 [.ref 39] (hO N sc x m tl bs n (nI a) (-1) o) (some (.int u)) (hO N sc x m tl bs n a' f' op') := by
  have h120 := hX.1
  intro a ha
  have C := hC a ha
  have L := hF a ha
  have V : ∀ {v : Option Value} {u : Int32} {hT : MH} (b : Nat) (f op : Int32), b ≤ n → MC M_O_sums d' 0 0 [.ref 39] (hO N sc x m tl bs n (nI a) (-1) o) (some (.int u)) (hO N sc x m tl bs n (nI b) f op) → MW M_O_compared (d' + 1) 0 0 v hT 0 0 10 [(0, .ref 39), (1, .int u), (2, .int (tx b))] [] (hO N sc x m tl bs n (nI b) f op) → MC M_O_compared (d' + 1) 0 0 [.ref 39] (hO N sc x m tl bs n (nI a) (-1) o) v hT := by
    intro v u hT b f op hb C K
    refine mc_of k1_O_compared k2_O_compared (Nat.le_of_ble_eq_true rfl) ?_
    repeat (refine mw_step rfl ?_)
    refine mw_call (C) rfl rfl (by omega) (Nat.le_refl _) (Nat.le_refl _) ?_
    repeat (refine mw_step rfl ?_)
    refine mw_call (hB b f op (by omega)) rfl rfl (by omega) (Nat.le_refl _) (Nat.le_refl _) ?_
    repeat (refine mw_to 10 rfl rfl ?_)
    refine mw_pick [0, 1, 2] rfl ?_
    exact K
  split
  · next f e1 =>
    rw [e1] at C L
    have hf : f ≤ n := L
    obtain ⟨u, op', C⟩ := C
    refine ⟨u, op', V f _ _ hf C ?_⟩
    repeat (refine mw_step rfl ?_)
    refine mw_brF rfl (nI_pos (by omega)) ?_
    repeat (refine mw_step rfl ?_)
    exact mw_r1 rfl trivial (Nat.le_refl _) (Nat.le_refl _) rfl rfl
  · next b e e1 =>
    rw [e1] at C L
    have hb : b ≤ n := L.2.1
    rw [p_loop]
    by_cases hc : p_clos (tx b) = 2
    · rw [if_pos hc]
      obtain ⟨o1, o2, o3⟩ := p_clos_op (c := tx b) (by omega)
      have hlt := tx_lt hX o3
      have C2 := hC (b + 1) hlt
      have hc' := p_clos_2.mp hc
      have W : ∀ {v : Option Value} {u : Int32} {hT h' : MH}, MC M_O_sums d' 0 0 [.ref 39] (hO N sc x m tl bs n (nI (b + 1)) (-1) o) (some (.int u)) h' → MW M_O_compared (d' + 1) 0 0 v hT 0 0 52 [(0, .ref 39), (1, .int (e.2 (envO m))), (2, .int (tx b)), (3, .int u)] [] h' → MW M_O_compared (d' + 1) 0 0 v hT 0 0 10 [(0, .ref 39), (1, .int (e.2 (envO m))), (2, .int (tx b))] [] (hO N sc x m tl bs n (nI b) (-1) o) := by
        intro v u hT h' C2 K
        rw [← nI_1 b] at C2
        have K37 : MW M_O_compared (d' + 1) 0 0 v hT 0 0 37 [(0, .ref 39), (1, .int (e.2 (envO m))), (2, .int (tx b))] [] (hO N sc x m tl bs n (nI b) (-1) o) := by
          repeat (refine mw_step rfl ?_)
          refine mw_call (C2) rfl rfl (by omega) (Nat.le_refl _) (Nat.le_refl _) ?_
          repeat (refine mw_to 52 rfl rfl ?_)
          refine mw_pick [0, 1, 2, 3] rfl ?_
          exact K
        repeat (refine mw_step rfl ?_)
        refine mw_brT rfl (m1_neg) ?_
        repeat (refine mw_step rfl ?_)
        refine mw_br rfl (fun h1 => ?_) (fun h1 => ?_)
        · exact K37
        · repeat (refine mw_step rfl ?_)
          refine mw_br rfl (fun h2 => ?_) (fun h2 => ?_)
          · exact K37
          · repeat (refine mw_step rfl ?_)
            refine mw_brT rfl (by rcases hc' with z | z | z <;> first | contradiction | exact z) ?_
            exact K37
      split
      · next f e2 =>
        rw [e2] at C2
        obtain ⟨u, op', C2⟩ := C2
        exact ⟨_, op', V b _ _ hb C (W C2 (w_cmpJ _ _ _ hc'))⟩
      · next b2 e3 e2 =>
        rw [e2] at C2
        rw [p_loop]
        exact V b _ _ hb C (W C2 (w_cmpJ _ _ _ hc'))
    · rw [if_neg hc]
      have hc' : ¬ (tx b = 60 ∨ tx b = 61 ∨ tx b = 62) := fun z => hc (p_clos_2.mpr z)
      show MC _ _ _ _ _ _ _ _
      refine V b _ _ hb C ?_
      repeat (refine mw_step rfl ?_)
      refine mw_brT rfl (m1_neg) ?_
      repeat (refine mw_step rfl ?_)
      refine mw_brF rfl (fun z => hc' (Or.inl z)) ?_
      repeat (refine mw_step rfl ?_)
      refine mw_brF rfl (fun z => hc' (Or.inr (Or.inl z))) ?_
      repeat (refine mw_step rfl ?_)
      refine mw_brF rfl (fun z => hc' (Or.inr (Or.inr z))) ?_
      repeat (refine mw_step rfl ?_)
      exact mw_r1 rfl trivial (Nat.le_refl _) (Nat.le_refl _) rfl rfl
end OM
