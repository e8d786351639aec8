/-! the reference: levels -/
section OL
variable {N : Nat} {sc : Nat × (Nat → Int32)} {x : XS} {m : OS} {tl : MH} {n : Nat} {bs : Int32} {tx : Nat → Int32} {v : Option Value} {hT : MH} {d : Nat}
theorem w_prodJ (c l w : Int32) {h : MH} (hc : c = 42 ∨ c = 47 ∨ c = 37) (K : MW M_O_product d 0 0 v hT 0 0 86 [(0, .ref 39), (1, .int (sp_join c.toNatClampNeg l w))] [] h) : MW M_O_product d 0 0 v hT 0 0 50 [(0, .ref 39), (1, .int l), (2, .int c), (3, .int w)] [] h := by
  rcases hc with rfl | rfl | rfl
  · repeat (refine mw_step rfl ?_)
    refine mw_brT rfl (rfl) ?_
    repeat (refine mw_to 86 rfl rfl ?_)
    refine mw_pick [0, 1] rfl ?_
    exact K
  · repeat (refine mw_step rfl ?_)
    refine mw_brF rfl (by decide) ?_
    repeat (refine mw_step rfl ?_)
    refine mw_br rfl (fun h1 => ?_) (fun h1 => ?_)
    · repeat (refine mw_to 86 rfl rfl ?_)
      refine mw_pick [0, 1] rfl ?_
      rw [show sp_join (Int32.toNatClampNeg 47) l w = if w = 0 then 0 else l / w from rfl, if_pos h1] at K
      exact K
    · repeat (refine mw_step rfl ?_)
      refine mw_brT rfl (rfl) ?_
      repeat (refine mw_step rfl ?_)
      refine mw_div rfl (h1) ?_
      repeat (refine mw_to 86 rfl rfl ?_)
      refine mw_pick [0, 1] rfl ?_
      rw [show sp_join (Int32.toNatClampNeg 47) l w = if w = 0 then 0 else l / w from rfl, if_neg h1] at K
      exact K
  · repeat (refine mw_step rfl ?_)
    refine mw_brF rfl (by decide) ?_
    repeat (refine mw_step rfl ?_)
    refine mw_br rfl (fun h1 => ?_) (fun h1 => ?_)
    · repeat (refine mw_to 86 rfl rfl ?_)
      refine mw_pick [0, 1] rfl ?_
      rw [show sp_join (Int32.toNatClampNeg 37) l w = if w = 0 then 0 else l - l / w * w from rfl, if_pos h1] at K
      exact K
    · repeat (refine mw_step rfl ?_)
      refine mw_brF rfl (by decide) ?_
      repeat (refine mw_step rfl ?_)
      refine mw_div rfl (h1) ?_
      repeat (refine mw_to 86 rfl rfl ?_)
      refine mw_pick [0, 1] rfl ?_
      rw [show sp_join (Int32.toNatClampNeg 37) l w = if w = 0 then 0 else l - l / w * w from rfl, if_neg h1] at K
      exact K
/-- a loop's turn: the sign is taken, the next one is read -/
theorem l_O_prod (hX : TXok n tx) (hB : BY N sc x m tl bs n tx) {F : Nat → PR} (hF : ∀ a, a ≤ n → PRok n a (F a)) (d d' : Nat) (hd : d' + 1 ≤ d) (o : Int32) (hC : OF M_O_one d' N sc x m tl bs n o F) (a0 : Nat) : ∀ r a e, 121 ≤ a + r → PRok n a0 (.inr (a, e)) → OZ (envO m) o (p_loop tx F 4 r a e) fun u a' f' op' => MW M_O_product d 0 0 (some (.int u)) (hO N sc x m tl bs n a' f' op') 0 0 10 [(0, .ref 39), (1, .int (e.2 (envO m))), (2, .int (tx a))] [] (hO N sc x m tl bs n (nI a) (-1) o) := by
  have h120 := hX.1
  intro r
  induction r with
  | zero =>
    intro a e hr hp
    have := hp.2.1
    exact absurd hr (by omega)
  | succ r ih =>
    intro a e hr hp
    rw [p_loop]
    by_cases hc : p_clos (tx a) = 4
    · rw [if_pos hc]
      obtain ⟨o1, o2, o3⟩ := p_clos_op (c := tx a) (by omega)
      have hlt := tx_lt hX o3
      have C := hC (a + 1) hlt
      have L := hF (a + 1) hlt
      have hc' := p_clos_4.mp hc
      have W : ∀ {v : Option Value} {u : Int32} {hT h' : MH}, MC M_O_one d' 0 0 [.ref 39] (hO N sc x m tl bs n (nI (a + 1)) (-1) o) (some (.int u)) h' → MW M_O_product d 0 0 v hT 0 0 86 [(0, .ref 39), (1, .int (sp_join (tx a).toNatClampNeg (e.2 (envO m)) u))] [] h' → MW M_O_product d 0 0 v hT 0 0 10 [(0, .ref 39), (1, .int (e.2 (envO m))), (2, .int (tx a))] [] (hO N sc x m tl bs n (nI a) (-1) o) := by
        intro v u hT h' C K
        rw [← nI_1 a] at C
        have K35 : MW M_O_product d 0 0 v hT 0 0 35 [(0, .ref 39), (1, .int (e.2 (envO m))), (2, .int (tx a))] [] (hO N sc x m tl bs n (nI a) (-1) o) := by
          repeat (refine mw_step rfl ?_)
          refine mw_call (C) rfl rfl (by omega) (Nat.le_refl _) (Nat.le_refl _) ?_
          repeat (refine mw_to 50 rfl rfl ?_)
          refine mw_pick [0, 1, 2, 3] rfl ?_
          exact w_prodJ _ _ _ hc' K
        repeat (refine mw_step rfl ?_)
        refine mw_brT rfl (m1_neg) ?_
        repeat (refine mw_step rfl ?_)
        refine mw_br rfl (fun h1 => ?_) (fun h1 => ?_)
        · exact K35
        · repeat (refine mw_step rfl ?_)
          refine mw_br rfl (fun h2 => ?_) (fun h2 => ?_)
          · exact K35
          · repeat (refine mw_step rfl ?_)
            refine mw_brT rfl (by rcases hc' with z | z | z <;> first | contradiction | exact z) ?_
            exact K35
      split
      · next f e1 =>
        rw [e1] at C L
        have hf : f ≤ n := L
        obtain ⟨u, op', C⟩ := C
        refine ⟨sp_join (tx a).toNatClampNeg (e.2 (envO m)) u, op', W C ?_⟩
        repeat (refine mw_step rfl ?_)
        refine mw_call (hB f (nI f) op' (by omega)) rfl rfl (by omega) (Nat.le_refl _) (Nat.le_refl _) ?_
        repeat (refine mw_step rfl ?_)
        refine mw_brF rfl (nI_pos (by omega)) ?_
        repeat (refine mw_step rfl ?_)
        exact mw_r1 rfl trivial (Nat.le_refl _) (Nat.le_refl _) rfl rfl
      · next b e2 e1 =>
        rw [e1] at C L
        have r1 := L.1
        have r2 := L.2.1
        have r3 : e2.1.length ≤ b - (a + 1) := L.2.2.2
        have p1 := hp.1
        have p3 : e.1.length ≤ a - a0 := hp.2.2.2
        have hlen : (x_bin (tx a).toNatClampNeg e e2).1.length = e.1.length + (e2.1.length + 1) := by show (e.1 ++ (e2.1 ++ [-nI (tx a).toNatClampNeg])).length = _; rw [List.length_append, List.length_append, List.length_singleton]
        have I := ih b (x_bin (tx a).toNatClampNeg e e2) (by omega) ⟨by omega, r2, x_bin_ok o1 hp.2.2.1 L.2.2.1, by show (x_bin (tx a).toNatClampNeg e e2).1.length ≤ _; omega⟩
        have V : ∀ {v : Option Value} {hT : MH}, MW M_O_product d 0 0 v hT 0 0 10 [(0, .ref 39), (1, .int ((x_bin (tx a).toNatClampNeg e e2).2 (envO m))), (2, .int (tx b))] [] (hO N sc x m tl bs n (nI b) (-1) o) → MW M_O_product d 0 0 v hT 0 0 86 [(0, .ref 39), (1, .int (sp_join (tx a).toNatClampNeg (e.2 (envO m)) (e2.2 (envO m))))] [] (hO N sc x m tl bs n (nI b) (-1) o) := by
          intro v hT K
          repeat (refine mw_step rfl ?_)
          refine mw_call (hB b (-1) o (by omega)) rfl rfl (by omega) (Nat.le_refl _) (Nat.le_refl _) ?_
          repeat (refine mw_to 10 rfl rfl ?_)
          refine mw_pick [0, 1, 2] rfl ?_
          exact K
        cases hz : p_loop tx F 4 r b (x_bin (tx a).toNatClampNeg e e2) with
        | inl f =>
          rw [hz] at I
          obtain ⟨u, op', I⟩ := I
          exact ⟨u, op', W C (V I)⟩
        | inr z =>
          rw [hz] at I
          exact W C (V I)
    · rw [if_neg hc]
      show MW _ _ _ _ _ _ _ _ _ _ _ _
      have hc' : ¬ (tx a = 42 ∨ tx a = 47 ∨ tx a = 37) := fun z => hc (p_clos_4.mpr z)
      repeat (refine mw_step rfl ?_)
      refine mw_brT rfl (m1_neg) ?_
      repeat (refine mw_step rfl ?_)
      refine mw_brF rfl (fun z => hc' (Or.inl z)) ?_
      repeat (refine mw_step rfl ?_)
      refine mw_brF rfl (fun z => hc' (Or.inr (Or.inl z))) ?_
      repeat (refine mw_step rfl ?_)
      refine mw_brF rfl (fun z => hc' (Or.inr (Or.inr z))) ?_
      repeat (refine mw_step rfl ?_)
      exact mw_r1 rfl trivial (Nat.le_refl _) (Nat.le_refl _) rfl rfl
theorem c_O_product (hX : TXok n tx) (hB : BY N sc x m tl bs n tx) {F : Nat → PR} (hF : ∀ a, a ≤ n → PRok n a (F a)) (d' : Nat) (o : Int32) (hC : OF M_O_one d' N sc x m tl bs n o F) : OF M_O_product (d' + 1) N sc x m tl bs n o (p_lv tx F 1) := by
  have h120 := hX.1
  intro a ha
  have C := hC a ha
  have L := hF a ha
  have V : ∀ {v : Option Value} {u : Int32} {hT : MH} (b : Nat) (f op : Int32), b ≤ n → MC M_O_one d' 0 0 [.ref 39] (hO N sc x m tl bs n (nI a) (-1) o) (some (.int u)) (hO N sc x m tl bs n (nI b) f op) → MW M_O_product (d' + 1) 0 0 v hT 0 0 10 [(0, .ref 39), (1, .int u), (2, .int (tx b))] [] (hO N sc x m tl bs n (nI b) f op) → MC M_O_product (d' + 1) 0 0 [.ref 39] (hO N sc x m tl bs n (nI a) (-1) o) v hT := by
    intro v u hT b f op hb C K
    refine mc_of k1_O_product k2_O_product (Nat.le_of_ble_eq_true rfl) ?_
    repeat (refine mw_step rfl ?_)
    refine mw_call (C) rfl rfl (by omega) (Nat.le_refl _) (Nat.le_refl _) ?_
    repeat (refine mw_step rfl ?_)
    refine mw_call (hB b f op (by omega)) rfl rfl (by omega) (Nat.le_refl _) (Nat.le_refl _) ?_
    repeat (refine mw_to 10 rfl rfl ?_)
    refine mw_pick [0, 1, 2] rfl ?_
    exact K
  rw [p_lv, p_lv]
  split
  · next f e1 =>
    rw [e1] at C L
    have hf : f ≤ n := L
    obtain ⟨u, op', C⟩ := C
    refine ⟨u, op', V f _ _ hf C ?_⟩
    repeat (refine mw_step rfl ?_)
    refine mw_brF rfl (nI_pos (by omega)) ?_
    repeat (refine mw_step rfl ?_)
    exact mw_r1 rfl trivial (Nat.le_refl _) (Nat.le_refl _) rfl rfl
  · next b e e1 =>
    rw [e1] at C L
    have hb : b ≤ n := L.2.1
    have hab := L.1
    have I := l_O_prod hX hB hF (d' + 1) d' (Nat.le_refl _) o hC a 120 b e (by omega) L
    have e0 : p_lv tx F 0 = F := rfl
    show OZ (envO m) o (p_loop tx F 4 120 b e) _
    cases hz : p_loop tx F 4 120 b e with
    | inl f =>
      rw [hz] at I
      obtain ⟨u, op', I⟩ := I
      exact ⟨u, op', V b _ _ hb C I⟩
    | inr z =>
      rw [hz] at I
      exact V b _ _ hb C I
end OL
