/-! the reference: a text worked out -/
def t_step (v : Nat → Int32) (l : Ln) (s : Bool × Int32) : Bool × Int32 := if s.1 = true then s else match l with
  | (none, e) => (true, e.2 v)
  | (some c, e) => if c.2 v = 0 then s else (true, e.2 v)
def t_fold (v : Nat → Int32) : List Ln → Bool × Int32 → Bool × Int32
  | [], s => s
  | l :: r, s => t_fold v r (t_step v l s)
theorem t_fold_t (v : Nat → Int32) (z : Int32) : ∀ ls, t_fold v ls (true, z) = (true, z)
  | [] => rfl
  | l :: r => by
    have e : t_step v l (true, z) = (true, z) := if_pos rfl
    rw [t_fold, e]
    exact t_fold_t v z r
theorem t_fold_f (v : Nat → Int32) : ∀ ls, (t_fold v ls (false, 0)).2 = T_val v ls
  | [] => rfl
  | (none, e) :: r => by
    rw [t_fold, show t_step v (none, e) (false, 0) = (true, e.2 v) from rfl, t_fold_t]
    rfl
  | (some c, e) :: r => by
    rw [t_fold, show t_step v (some c, e) (false, 0) = (if c.2 v = 0 then (false, 0) else (true, e.2 v)) from rfl, T_val]
    by_cases h : c.2 v = 0
    · rw [if_pos h, if_pos h]
      exact t_fold_f v r
    · rw [if_neg h, if_neg h, t_fold_t]
theorem p_text_ok {n : Nat} {tx : Nat → Int32} (h : TXok n tx) {T : Tx} (e : p_text tx n = .inr T) : T_ok T ∧ 1 ≤ (T_code T).length ∧ (T_code T).length ≤ n := by
  unfold p_text at e
  have L := p_line_ok h 0 (by omega)
  split at e
  · cases e
  · next a l e1 =>
    rw [e1] at L
    have L2 := p_rest_ok h 120 a L.2.1
    split at e
    · cases e
    · next b ls e2 =>
      rw [e2] at L2
      by_cases hb : b < n
      · rw [if_pos hb] at e
        cases e
      · rw [if_neg hb] at e
        cases e
        have p := l_code_pos l L.2.2.1 (fun e he => x_pos he)
        have q : (T_code (l, ls)).length = (l_code l).length + (t_code ls).length := by show (l_code l ++ t_code ls).length = _; rw [List.length_append]
        have a1 := L.2.2.2
        have a2 := L2.2.2.2
        have a3 := L2.1
        have a4 := L2.2.1
        have a5 := L.1
        exact ⟨⟨L.2.2.1, L2.2.2.1⟩, by omega, by omega⟩
theorem p_text_f {n : Nat} {tx : Nat → Int32} (h : TXok n tx) {f : Nat} (e : p_text tx n = .inl f) : f ≤ n := by
  unfold p_text at e
  have L := p_line_ok h 0 (by omega)
  split at e
  · next f2 e1 =>
    rw [e1] at L
    cases e
    exact L
  · next a l e1 =>
    rw [e1] at L
    have L2 := p_rest_ok h 120 a L.2.1
    split at e
    · next f2 e2 =>
      rw [e2] at L2
      cases e
      exact L2
    · next b ls e2 =>
      by_cases hb : b < n
      · rw [if_pos hb] at e
        cases e
        omega
      · rw [if_neg hb] at e
        cases e
section OW
variable {N : Nat} {sc : Nat × (Nat → Int32)} {x : XS} {m : OS} {tl : MH} {n : Nat} {bs : Int32} {tx : Nat → Int32}
abbrev lO (g : Bool) (z : Int32) : ML := [(0, .ref 39), (3, .int (bI (g = true))), (4, .int z)]
def OZL (a : Nat) (z : Int32) (g : Bool) (N : Nat) (sc : Nat × (Nat → Int32)) (x : XS) (m : OS) (tl : MH) (bs : Int32) (n : Nat) (r : Nat ⊕ (Nat × Ln)) : Prop := match r with
  | .inl f => ∃ op', ∀ {v : Option Value} {hT : MH}, MW M_O_workOut 44 0 0 v hT 0 0 96 (lO g z) [] (hO N sc x m tl bs n (nI f) (nI f) op') → MW M_O_workOut 44 0 0 v hT 0 0 38 (lO g z) [] (hO N sc x m tl bs n (nI a) (-1) (nI 0))
  | .inr (b, l) => ∀ {v : Option Value} {hT : MH}, MW M_O_workOut 44 0 0 v hT 0 0 96 (lO (t_step (envO m) l (g, z)).1 (t_step (envO m) l (g, z)).2) [] (hO N sc x m tl bs n (nI b) (-1) (nI 0)) → MW M_O_workOut 44 0 0 v hT 0 0 38 (lO g z) [] (hO N sc x m tl bs n (nI a) (-1) (nI 0))
/-- the line counts, if none did so far -/
theorem w_line (g : Bool) (z u : Int32) (hold : Bool) (a' : Int32) {v : Option Value} {hT : MH} (K : MW M_O_workOut 44 0 0 v hT 0 0 96 (lO (if g = true then (g, z) else if hold = true then (true, u) else (g, z)).1 (if g = true then (g, z) else if hold = true then (true, u) else (g, z)).2) [] (hO N sc x m tl bs n a' (-1) (nI 0))) : MW M_O_workOut 44 0 0 v hT 0 0 74 [(0, .ref 39), (3, .int (bI (g = true))), (4, .int z), (6, .int u), (7, .int (bI (hold = true)))] [] (hO N sc x m tl bs n a' (-1) (nI 0)) := by
  repeat (refine mw_step rfl ?_)
  refine mw_brT rfl (m1_neg) ?_
  repeat (refine mw_step rfl ?_)
  cases hold with
  | false =>
    refine mw_brT rfl (bI_f (by decide)) ?_
    refine mw_pick [0, 3, 4] rfl ?_
    cases g with
    | true => exact K
    | false => exact K
  | true =>
    refine mw_brF rfl (bI_ne rfl) ?_
    repeat (refine mw_step rfl ?_)
    cases g with
    | true =>
      refine mw_brF rfl (bI_ne rfl) ?_
      refine mw_pick [0, 3, 4] rfl ?_
      exact K
    | false =>
      refine mw_brT rfl (bI_f (by decide)) ?_
      repeat (refine mw_to 96 rfl rfl ?_)
      refine mw_pick [0, 3, 4] rfl ?_
      exact K
theorem c_O_line (hX : TXok n tx) (hB : BY N sc x m tl bs n tx) (a : Nat) (ha : a ≤ n) (g : Bool) (z : Int32) : OZL a z g N sc x m tl bs n (p_line tx a) := by
  have h120 := hX.1
  have C := c_O_pE hX hB a ha
  have L := p_E_ok hX a ha
  unfold p_line
  split
  · next f e1 =>
    rw [e1] at C L
    have hf : f ≤ n := L
    obtain ⟨u, op', C⟩ := C
    refine ⟨op', ?_⟩
    intro v hT K
    repeat (refine mw_step rfl ?_)
    refine mw_call (C) rfl rfl (Nat.le_of_ble_eq_true rfl) (Nat.le_refl _) (Nat.le_refl _) ?_
    repeat (refine mw_step rfl ?_)
    refine mw_call (c_O_takesF (nI f) op' 63 f (by omega)) rfl rfl (Nat.le_of_ble_eq_true rfl) (Nat.le_refl _) (Nat.le_refl _) ?_
    refine mw_brT rfl (rfl) ?_
    repeat (refine mw_step rfl ?_)
    refine mw_brF rfl (nI_pos (by omega)) ?_
    refine mw_pick [0, 3, 4] rfl ?_
    exact K
  · next b e e1 =>
    rw [e1] at C L
    have hb : b ≤ n := L.2.1
    by_cases h1 : tx b = 63
    · rw [if_pos h1]
      have hlt := tx_lt hX (show ¬ tx b = 0 by rw [h1]; decide)
      have C2 := c_O_pE hX hB (b + 1) hlt
      have L2 := p_E_ok hX (b + 1) hlt
      have W : ∀ {v : Option Value} {hT h' : MH} {u : Int32}, MC M_O_either 43 0 0 [.ref 39] (hO N sc x m tl bs n (nI (b + 1)) (-1) (nI 0)) (some (.int u)) h' → MW M_O_workOut 44 0 0 v hT 0 0 74 [(0, .ref 39), (3, .int (bI (g = true))), (4, .int z), (6, .int u), (7, .int (bI (¬ e.2 (envO m) = 0)))] [] h' → MW M_O_workOut 44 0 0 v hT 0 0 38 (lO g z) [] (hO N sc x m tl bs n (nI a) (-1) (nI 0)) := by
        intro v hT h' u C2 K
        repeat (refine mw_step rfl ?_)
        refine mw_call (C) rfl rfl (Nat.le_of_ble_eq_true rfl) (Nat.le_refl _) (Nat.le_refl _) ?_
        repeat (refine mw_step rfl ?_)
        refine mw_call (c_O_takes1 hB b (by omega) (nI 0) 63 h1) rfl rfl (Nat.le_of_ble_eq_true rfl) (Nat.le_refl _) (Nat.le_refl _) ?_
        refine mw_brF rfl (by decide) ?_
        repeat (refine mw_step rfl ?_)
        refine mw_br rfl (fun h2 => ?_) (fun h2 => ?_)
        · repeat (refine mw_step rfl ?_)
          refine mw_call (C2) rfl rfl (Nat.le_of_ble_eq_true rfl) (Nat.le_refl _) (Nat.le_refl _) ?_
          rw [bI_f (p := ¬ e.2 (envO m) = 0) (fun q => q h2)] at K
          repeat (refine mw_to 74 rfl rfl ?_)
          refine mw_pick [0, 3, 4, 6, 7] rfl ?_
          exact K
        · repeat (refine mw_step rfl ?_)
          refine mw_call (C2) rfl rfl (Nat.le_of_ble_eq_true rfl) (Nat.le_refl _) (Nat.le_refl _) ?_
          rw [bI_t (p := ¬ e.2 (envO m) = 0) h2] at K
          repeat (refine mw_to 74 rfl rfl ?_)
          refine mw_pick [0, 3, 4, 6, 7] rfl ?_
          exact K
      split
      · next f e2 =>
        rw [e2] at C2 L2
        have hf : f ≤ n := L2
        obtain ⟨u, op', C2⟩ := C2
        refine ⟨op', ?_⟩
        intro v hT K
        refine W C2 ?_
        repeat (refine mw_step rfl ?_)
        refine mw_brF rfl (nI_pos (by omega)) ?_
        refine mw_pick [0, 3, 4] rfl ?_
        exact K
      · next b2 e3 e2 =>
        rw [e2] at C2
        intro v hT K
        refine W C2 ?_
        rw [bI_congr (p := ¬ e.2 (envO m) = 0) (q := decide (¬ e.2 (envO m) = 0) = true) (by rw [decide_eq_true_iff])]
        refine w_line g z _ _ _ ?_
        have q : (if g = true then (g, z) else if decide (¬ e.2 (envO m) = 0) = true then (true, e3.2 (envO m)) else (g, z)) = t_step (envO m) (some e, e3) (g, z) := by
          cases g with
          | true => rfl
          | false =>
            show (if decide (¬ e.2 (envO m) = 0) = true then (true, e3.2 (envO m)) else (false, z)) = if e.2 (envO m) = 0 then (false, z) else (true, e3.2 (envO m))
            by_cases h2 : e.2 (envO m) = 0
            · rw [if_pos h2, if_neg (show ¬ decide (¬ e.2 (envO m) = 0) = true by rw [decide_eq_true_iff]; exact fun y => y h2)]
            · rw [if_neg h2, if_pos (show decide (¬ e.2 (envO m) = 0) = true by rw [decide_eq_true_iff]; exact h2)]
        rw [q]
        exact K
    · rw [if_neg h1]
      intro v hT K
      repeat (refine mw_step rfl ?_)
      refine mw_call (C) rfl rfl (Nat.le_of_ble_eq_true rfl) (Nat.le_refl _) (Nat.le_refl _) ?_
      repeat (refine mw_step rfl ?_)
      refine mw_call (c_O_takes0 hB b (by omega) (nI 0) 63 h1) rfl rfl (Nat.le_of_ble_eq_true rfl) (Nat.le_refl _) (Nat.le_refl _) ?_
      refine mw_brT rfl (rfl) ?_
      refine mw_pick [0, 3, 4, 6, 7] rfl ?_
      refine w_line g z _ true _ ?_
      exact K
def OZR (a : Nat) (s : Bool × Int32) (N : Nat) (sc : Nat × (Nat → Int32)) (x : XS) (m : OS) (tl : MH) (bs : Int32) (n : Nat) (r : Nat ⊕ (Nat × List Ln)) : Prop := match r with
  | .inl f => ∃ op' z', MW M_O_workOut 44 0 0 (some (.int z')) (hO N sc x m tl bs n (nI f) (nI f) op') 0 0 96 (lO s.1 s.2) [] (hO N sc x m tl bs n (nI a) (-1) (nI 0))
  | .inr (b, ls) => ∀ {v : Option Value} {hT : MH}, MW M_O_workOut 44 0 0 v hT 0 0 107 [(0, .ref 39), (4, .int (t_fold (envO m) ls s).2)] [] (hO N sc x m tl bs n (nI b) (-1) (nI 0)) → MW M_O_workOut 44 0 0 v hT 0 0 96 (lO s.1 s.2) [] (hO N sc x m tl bs n (nI a) (-1) (nI 0))
theorem w_fault (s : Bool × Int32) (f : Nat) (hf : f ≤ 200) (op' : Int32) : MW M_O_workOut 44 0 0 (some (.int s.2)) (hO N sc x m tl bs n (nI f) (nI f) op') 0 0 96 (lO s.1 s.2) [] (hO N sc x m tl bs n (nI f) (nI f) op') := by
  repeat (refine mw_step rfl ?_)
  refine mw_call (c_O_takesF (nI f) op' 59 f (by omega)) rfl rfl (Nat.le_of_ble_eq_true rfl) (Nat.le_refl _) (Nat.le_refl _) ?_
  repeat (refine mw_step rfl ?_)
  refine mw_brT rfl (rfl) ?_
  repeat (refine mw_step rfl ?_)
  refine mw_brF rfl (nI_pos (by omega)) ?_
  repeat (refine mw_step rfl ?_)
  exact mw_r1 rfl trivial (Nat.le_refl _) (Nat.le_refl _) rfl rfl
theorem l_O_rest (hX : TXok n tx) (hB : BY N sc x m tl bs n tx) : ∀ r a s, 121 ≤ a + r → a ≤ n → OZR a s N sc x m tl bs n (p_rest tx r a) := by
  have h120 := hX.1
  intro r
  induction r with
  | zero => intro a s h1 h2; exact absurd h1 (by omega)
  | succ r ih =>
    intro a s hr ha
    rw [p_rest]
    by_cases h1 : tx a = 59
    · rw [if_pos h1]
      have hlt := tx_lt hX (show ¬ tx a = 0 by rw [h1]; decide)
      have C := c_O_line hX hB (a + 1) hlt s.1 s.2
      have L := p_line_ok hX (a + 1) hlt
      have W : ∀ {v : Option Value} {hT : MH}, MW M_O_workOut 44 0 0 v hT 0 0 38 (lO s.1 s.2) [] (hO N sc x m tl bs n (nI (a + 1)) (-1) (nI 0)) → MW M_O_workOut 44 0 0 v hT 0 0 96 (lO s.1 s.2) [] (hO N sc x m tl bs n (nI a) (-1) (nI 0)) := by
        intro v hT K
        repeat (refine mw_step rfl ?_)
        refine mw_call (c_O_takes1 hB a (by omega) (nI 0) 59 h1) rfl rfl (Nat.le_of_ble_eq_true rfl) (Nat.le_refl _) (Nat.le_refl _) ?_
        repeat (refine mw_step rfl ?_)
        refine mw_brF rfl (by decide) ?_
        refine mw_pick [0, 3, 4] rfl ?_
        exact K
      split
      · next f e1 =>
        rw [e1] at C L
        have hf : f ≤ n := L
        obtain ⟨op', C⟩ := C
        exact ⟨op', s.2, W (C (w_fault s f (by omega) op'))⟩
      · next b l e1 =>
        rw [e1] at C L
        have r1 := L.1
        have I := ih b (t_step (envO m) l s) (by omega) L.2.1
        split
        · next f e2 =>
          rw [e2] at I
          obtain ⟨op', z', I⟩ := I
          exact ⟨op', z', W (C I)⟩
        · next c ls e2 =>
          rw [e2] at I
          intro v hT K
          exact W (C (I K))
    · rw [if_neg h1]
      intro v hT K
      repeat (refine mw_step rfl ?_)
      refine mw_call (c_O_takes0 hB a (by omega) (nI 0) 59 h1) rfl rfl (Nat.le_of_ble_eq_true rfl) (Nat.le_refl _) (Nat.le_refl _) ?_
      repeat (refine mw_step rfl ?_)
      refine mw_brT rfl (rfl) ?_
      refine mw_pick [0, 4] rfl ?_
      exact K
def OZT (N : Nat) (sc : Nat × (Nat → Int32)) (x : XS) (m : OS) (tl : MH) (bs : Int32) (n : Nat) (r : Nat ⊕ Tx) : Prop := match r with
  | .inl f => ∃ u a' op', MC M_O_workOut 44 0 0 [.ref 39, .int bs, .int (nI n)] (heapN N sc x m tl) (some (.int u)) (hO N sc x m tl bs n a' (nI f) op')
  | .inr T => ∃ a', MC M_O_workOut 44 0 0 [.ref 39, .int bs, .int (nI n)] (heapN N sc x m tl) (some (.int (T_val (envO m) (T.1 :: T.2)))) (hO N sc x m tl bs n a' (-1) (nI 0))
theorem c_O_workOut (hX : TXok n tx) (hB : BY N sc x m tl bs n tx) : OZT N sc x m tl bs n (p_text tx n) := by
  have h120 := hX.1
  have C := c_O_line hX hB 0 (by omega) false 0
  have L := p_line_ok hX 0 (by omega)
  have V : ∀ {v : Option Value} {hT : MH}, MW M_O_workOut 44 0 0 v hT 0 0 38 (lO false 0) [] (hO N sc x m tl bs n (nI 0) (-1) (nI 0)) → MC M_O_workOut 44 0 0 [.ref 39, .int bs, .int (nI n)] (heapN N sc x m tl) v hT := by
    intro v hT K
    refine mc_of k1_O_workOut k2_O_workOut (Nat.le_of_ble_eq_true rfl) ?_
    repeat (refine mw_step rfl ?_)
    refine mw_brF rfl (by decide) ?_
    refine mw_pick [0, 3, 4] rfl ?_
    exact K
  unfold p_text
  split
  · next f e1 =>
    rw [e1] at C L
    have hf : f ≤ n := L
    obtain ⟨op', C⟩ := C
    exact ⟨0, nI f, op', V (C (w_fault (false, 0) f (by omega) op'))⟩
  · next a l e1 =>
    rw [e1] at C L
    have r1 := L.1
    have I := l_O_rest hX hB 120 a (t_step (envO m) l (false, 0)) (by omega) L.2.1
    have L2 := p_rest_ok hX 120 a L.2.1
    split
    · next f e2 =>
      rw [e2] at I
      obtain ⟨op', z', I⟩ := I
      exact ⟨z', nI f, op', V (C I)⟩
    · next b ls e2 =>
      rw [e2] at I L2
      have u2 := L2.2.1
      by_cases hb : b < n
      · rw [if_pos hb]
        refine ⟨0, nI b, nI 0, V (C (I ?_))⟩
        repeat (refine mw_step rfl ?_)
        refine mw_brT rfl (m1_neg) ?_
        repeat (refine mw_step rfl ?_)
        refine mw_brT rfl (n_lt hb (by omega)) ?_
        repeat (refine mw_step rfl ?_)
        refine mw_call (c_O_wrong (nI b) (nI 0)) rfl rfl (Nat.le_of_ble_eq_true rfl) (Nat.le_refl _) (Nat.le_refl _) ?_
        exact mw_r1 rfl trivial (Nat.le_refl _) (Nat.le_refl _) rfl rfl
      · rw [if_neg hb]
        refine ⟨nI b, V (C (I ?_))⟩
        repeat (refine mw_step rfl ?_)
        refine mw_brT rfl (m1_neg) ?_
        repeat (refine mw_step rfl ?_)
        refine mw_brF rfl (n_nlt (by omega) (by omega)) ?_
        repeat (refine mw_step rfl ?_)
        exact mw_r1 rfl trivial (Nat.le_refl _) (Nat.le_refl _) (by rw [← t_fold_f]; rfl) rfl
end OW
