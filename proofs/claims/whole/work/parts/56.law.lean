/-! law, on both sides -/
def sp_tcp (tp text : Nat → Int32) (a n : Nat) : Nat → Int32 := fun j => if 120 * a ≤ j ∧ j < 120 * a + n then tp (j - 120 * a) else text j
theorem sp_tcp_1 (tp text : Nat → Int32) (a k : Nat) : upd (sp_tcp tp text a k) (120 * a + k) (tp k) = sp_tcp tp text a (k + 1) := by
  funext j
  unfold upd sp_tcp
  by_cases h1 : j = 120 * a + k
  · rw [if_pos h1, if_pos (by omega), h1, show 120 * a + k - 120 * a = k by omega]
  · rw [if_neg h1]
    by_cases h2 : 120 * a ≤ j ∧ j < 120 * a + k
    · rw [if_pos h2, if_pos (by omega)]
    · rw [if_neg h2, if_neg (by omega)]
theorem sp_tcp_0 (tp text : Nat → Int32) (a : Nat) : sp_tcp tp text a 0 = text := by
  funext j
  unfold sp_tcp
  exact if_neg (by omega)
theorem sp_tcp_tx (tp text : Nat → Int32) (a n : Nat) : txR n (fun j => sp_tcp tp text a n (120 * a + j)) = txR n tp := by
  funext j
  unfold txR sp_tcp
  by_cases h : j < n
  · rw [if_pos h, if_pos h]
    dsimp only
    rw [if_pos (by omega), show 120 * a + j - 120 * a = j by omega]
  · rw [if_neg h, if_neg h]
theorem sp_tcp_ne (tp text : Nat → Int32) (a b n q : Nat) (hn : n ≤ 120) (hq : q ≤ 120) (h : ¬ b = a) : txR q (fun j => sp_tcp tp text a n (120 * b + j)) = txR q (fun j => text (120 * b + j)) := by
  funext j
  unfold txR sp_tcp
  by_cases h1 : j < q
  · rw [if_pos h1, if_pos h1]
    dsimp only
    rw [if_neg (by omega)]
  · rw [if_neg h1, if_neg h1]
section LW
variable {N : Nat} {sc : Nat × (Nat → Int32)} {x : XS} {m : OS} {tl : MH} {n : Nat}
abbrev ztF (m : OS) (text : Nat → Int32) (tm : Nat → Int32) (a' e f op : Int32) : OS := zt_s m (zt_tape m, 0, text, tm, -1, a', e, f, op, zt_names m)
theorem l_O_law (a : Nat) (ha : a < 6) (hn : n ≤ 120) (a' e f op : Int32) {v : Option Value} {hT : MH} (K : MW M_O_law 45 0 0 v hT 0 0 78 [(0, .ref 39), (1, .int (nI a)), (3, .int (nI n))] [] (heapN N sc x (ztF m (sp_tcp (zt_tape m) (zt_text m) a n) (zt_textMany m) a' e f op) tl)) : ∀ r k, k + r = n → MW M_O_law 45 0 0 v hT 0 0 47 [(0, .ref 39), (1, .int (nI a)), (3, .int (nI n)), (4, .int (nI k))] [] (heapN N sc x (ztF m (sp_tcp (zt_tape m) (zt_text m) a k) (zt_textMany m) a' e f op) tl) := by
  intro r
  induction r with
  | zero =>
    intro k hk
    rw [show k = n by omega]
    repeat (refine mw_step rfl ?_)
    refine mw_brF rfl (n_nlt (by omega) (by omega)) ?_
    refine mw_pick [0, 1, 3] rfl ?_
    exact K
  | succ r ih =>
    intro k hk
    have L := ih (k + 1) (by omega)
    rw [← sp_tcp_1] at L
    repeat (refine mw_step rfl ?_)
    refine mw_brT rfl (n_lt (by omega) (by omega)) ?_
    repeat (refine mw_step rfl ?_)
    refine mw_ild rfl (rfl) (by omega) (by decide) ?_
    refine mw_ist rfl (show (120 : Int32) * nI a + nI k = nI (120 * a + k) by rw [show (120 : Int32) = nI 120 from rfl, pk_mul, nI_add]) (by omega) (by decide) ?_
    repeat (refine mw_to 47 rfl rfl ?_)
    rw [nI_1]
    refine mw_pick [0, 1, 3, 4] rfl ?_
    exact L
theorem c_O_law_bad (a : Int32) (h : ¬ (0 ≤ a ∧ a ≤ nI 5)) : MC M_O_law 45 0 0 [.ref 39, .int a] (heapN N sc x m tl) (some (.int (-1))) (heapN N sc x m tl) := by
  refine mc_of k1_O_law k2_O_law (Nat.le_of_ble_eq_true rfl) ?_
  repeat (refine mw_step rfl ?_)
  refine mw_call (c_O_isMark _ _) rfl rfl (Nat.le_of_ble_eq_true rfl) (Nat.le_refl _) (Nat.le_refl _) ?_
  refine mw_brT rfl (bI_f h) ?_
  repeat (refine mw_step rfl ?_)
  exact mw_r1 rfl trivial (Nat.le_refl _) (Nat.le_refl _) rfl rfl
theorem c_O_law_f (a : Nat) (ha : a < 6) (hn : n ≤ 120) (ht : zt_tapeMany m = nI n) {f : Nat} (hp : p_text (txR n (zt_tape m)) n = .inl f) : ∃ a' op', MC M_O_law 45 0 0 [.ref 39, .int (nI a)] (heapN N sc x m tl) (some (.int (-100 - nI f))) (heapN N sc x (ztF m (zt_text m) (zt_textMany m) a' (nI n) (nI f) op') tl) := by
  have hX := txR_ok n hn (zt_tape m)
  have C := c_O_workOut (N := N) (sc := sc) (x := x) (m := m) (tl := tl) hX (c_O_byteT hn)
  have hf := p_text_f hX hp
  rw [hp] at C
  obtain ⟨u, a', op', C⟩ := C
  rw [← ht] at C
  refine ⟨a', op', ?_⟩
  refine mc_of k1_O_law k2_O_law (Nat.le_of_ble_eq_true rfl) ?_
  repeat (refine mw_step rfl ?_)
  refine mw_call (c_O_isMark _ _) rfl rfl (Nat.le_of_ble_eq_true rfl) (Nat.le_refl _) (Nat.le_refl _) ?_
  refine mw_brF rfl (bI_ne (rng_in (by omega) (by decide))) ?_
  repeat (refine mw_step rfl ?_)
  refine mw_call (C) rfl rfl (Nat.le_of_ble_eq_true rfl) (Nat.le_refl _) (Nat.le_refl _) ?_
  repeat (refine mw_step rfl ?_)
  refine mw_brF rfl (nI_pos (by omega)) ?_
  repeat (refine mw_step rfl ?_)
  exact mw_r1 rfl trivial (Nat.le_refl _) (Nat.le_refl _) (rfl ) ( by rw [ht]; rfl)
theorem c_O_law (a : Nat) (ha : a < 6) (hn : n ≤ 120) (ht : zt_tapeMany m = nI n) {T : Tx} (hp : p_text (txR n (zt_tape m)) n = .inr T) : ∃ a', MC M_O_law 45 0 0 [.ref 39, .int (nI a)] (heapN N sc x m tl) (some (.int 1)) (heapN N sc x (ztF m (sp_tcp (zt_tape m) (zt_text m) a n) (upd (zt_textMany m) a (nI n)) a' (nI n) (-1) (nI 0)) tl) := by
  have hX := txR_ok n hn (zt_tape m)
  have C := c_O_workOut (N := N) (sc := sc) (x := x) (m := m) (tl := tl) hX (c_O_byteT hn)
  rw [hp] at C
  obtain ⟨a', C⟩ := C
  have L := l_O_law (N := N) (sc := sc) (x := x) (m := m) (tl := tl) a ha hn a' (nI n) (-1) (nI 0) (v := some (.int 1)) (hT := heapN N sc x (ztF m (sp_tcp (zt_tape m) (zt_text m) a n) (upd (zt_textMany m) a (nI n)) a' (nI n) (-1) (nI 0)) tl) (by
    repeat (refine mw_step rfl ?_)
    refine mw_ist rfl (rfl) (by omega) (by decide) ?_
    repeat (refine mw_step rfl ?_)
    exact mw_r1 rfl trivial (Nat.le_refl _) (Nat.le_refl _) rfl rfl) n 0 (by omega)
  rw [sp_tcp_0] at L
  rw [← ht] at C
  refine ⟨a', ?_⟩
  refine mc_of k1_O_law k2_O_law (Nat.le_of_ble_eq_true rfl) ?_
  repeat (refine mw_step rfl ?_)
  refine mw_call (c_O_isMark _ _) rfl rfl (Nat.le_of_ble_eq_true rfl) (Nat.le_refl _) (Nat.le_refl _) ?_
  refine mw_brF rfl (bI_ne (rng_in (by omega) (by decide))) ?_
  repeat (refine mw_step rfl ?_)
  refine mw_call (C) rfl rfl (Nat.le_of_ble_eq_true rfl) (Nat.le_refl _) (Nat.le_refl _) ?_
  repeat (refine mw_step rfl ?_)
  refine mw_brT rfl (m1_neg) ?_
  repeat (refine mw_to 47 rfl rfl ?_)
  refine mw_pick [0, 1, 3, 4] rfl ?_
  rw [ht]
  exact L
/-- the class -/
theorem c_L_set (a z : Nat) (ha : a < 6) (hz : z ≤ 120) : MC M_L_set 2 0 0 [.ref 11, .int (nI a), .ref 17, .int (nI z)] (heapN N sc x m tl) none (heapN N sc (xW_s x (va_cpy (xR_code x) (xW_code x) 0 (a * 120) z, upd (xW_sizes x) a (nI z), xW_stack x)) m tl) := by
  have e2 : nI a * 120 = nI (a * 120) := by rw [show (120 : Int32) = nI 120 from rfl, pk_mul]
  refine mc_of k1_L_set k2_L_set (Nat.le_of_ble_eq_true rfl) ?_
  repeat (refine mw_step rfl ?_)
  refine mw_call (c_isMark _ _) rfl rfl (Nat.le_of_ble_eq_true rfl) (Nat.le_refl _) (Nat.le_refl _) ?_
  refine mw_brF rfl (bI_ne (rng_in (by omega) (by decide))) ?_
  repeat (refine mw_step rfl ?_)
  refine mw_call (c_within _ _ _ _) rfl rfl (Nat.le_of_ble_eq_true rfl) (Nat.le_refl _) (Nat.le_refl _) ?_
  refine mw_brF rfl (bI_ne (rng_in hz (by decide))) ?_
  repeat (refine mw_step rfl ?_)
  refine mw_brF rfl (n_nlt (b := z) (a := 120) (by omega) (by omega)) ?_
  repeat (refine mw_step rfl ?_)
  rw [e2]
  refine mw_cpyi (i0 := 17) (i1 := 12) (sp := 0) (dp := nI (a * 120)) (n := nI z) rfl (by decide) rfl rfl (by decide) (by decide) (by decide) (nI_pos (by omega)) (nI_pos (by omega)) (by rw [nI_clamp (by omega)]; show 0 + z ≤ 120; omega) (by rw [nI_clamp (by omega), nI_clamp (by omega)]; show a * 120 + z ≤ 720; omega) ?_
  rw [nI_clamp (n := a * 120) (by omega), nI_clamp (n := z) (by omega)]
  repeat (refine mw_step rfl ?_)
  refine mw_ist rfl (rfl) (by omega) (by decide) ?_
  exact mw_r0 rfl (Nat.le_refl _) (Nat.le_refl _) rfl rfl
theorem c_C_law_bad (a : Int32) (h : ¬ (0 ≤ a ∧ a ≤ nI 5)) : MC M_C_law 59 0 0 [.ref 5, .int a] (heapN N sc x m tl) (some (.int (-1))) (heapN N sc x m tl) := by
  refine mc_of k1_C_law k2_C_law (Nat.le_of_ble_eq_true rfl) ?_
  repeat (refine mw_step rfl ?_)
  refine mw_call (c_isMark _ _) rfl rfl (Nat.le_of_ble_eq_true rfl) (Nat.le_refl _) (Nat.le_refl _) ?_
  refine mw_brT rfl (bI_f h) ?_
  repeat (refine mw_step rfl ?_)
  exact mw_r1 rfl trivial (Nat.le_refl _) (Nat.le_refl _) rfl rfl
theorem c_C_law_f (a : Nat) (ha : a < 6) (hn : xR_len x = nI n) (h120 : n ≤ 120) (htp : ∀ j, j < n → ¬ xR_tape x j = -1) {f : Nat} (hp : p_text (txR n (xR_tape x)) n = .inl f) : ∃ a' s' cd', MC M_C_law 59 0 0 [.ref 5, .int (nI a)] (heapN N sc x m tl) (some (.int (-100 - nI f))) (heapN N sc (xR_s x (xR_tape x, 0, cd', s', a', nI f)) m tl) := by
  have C := c_R_read (N := N) (sc := sc) (m := m) (tl := tl) hn h120 htp
  have hf := p_text_f (txR_ok n h120 (xR_tape x)) hp
  rw [hp] at C
  obtain ⟨a', s', cd', hs, C⟩ := C
  refine ⟨a', nI s', cd', ?_⟩
  refine mc_of k1_C_law k2_C_law (Nat.le_of_ble_eq_true rfl) ?_
  repeat (refine mw_step rfl ?_)
  refine mw_call (c_isMark _ _) rfl rfl (Nat.le_of_ble_eq_true rfl) (Nat.le_refl _) (Nat.le_refl _) ?_
  refine mw_brF rfl (bI_ne (rng_in (by omega) (by decide))) ?_
  repeat (refine mw_step rfl ?_)
  refine mw_call (C) rfl rfl (Nat.le_of_ble_eq_true rfl) (Nat.le_refl _) (Nat.le_refl _) ?_
  repeat (refine mw_step rfl ?_)
  refine mw_brF rfl (nI_pos (by omega)) ?_
  repeat (refine mw_step rfl ?_)
  exact mw_r1 rfl trivial (Nat.le_refl _) (Nat.le_refl _) rfl rfl
end LW
/-- a change of every piece, one after the other -/
def sp_map (f : PieceS → PieceS) (P : List PieceS) : Nat → List PieceS
  | 0 => P
  | t + 1 => (sp_map f P t).set t (f (P.getD t pz))
theorem sp_map_len (f : PieceS → PieceS) (P : List PieceS) : ∀ t, (sp_map f P t).length = P.length
  | 0 => rfl
  | t + 1 => by rw [sp_map, List.length_set, sp_map_len f P t]
theorem sp_map_ge (f : PieceS → PieceS) (P : List PieceS) : ∀ t j, t ≤ j → (sp_map f P t)[j]? = P[j]?
  | 0, _, _ => rfl
  | t + 1, j, h => by rw [sp_map, List.getElem?_set_ne (by omega), sp_map_ge f P t j (by omega)]
theorem sp_map_lt (f : PieceS → PieceS) (P : List PieceS) : ∀ t j p, t ≤ P.length → j < t → P[j]? = some p → (sp_map f P t)[j]? = some (f p)
  | 0, j, p, _, h, _ => absurd h (by omega)
  | t + 1, j, p, ht, h, hp => by
    rw [sp_map]
    by_cases e : t = j
    · subst e
      rw [List.getElem?_set_self (by rw [sp_map_len]; omega), List.getD_eq_getElem?_getD, hp]
      rfl
    · rw [List.getElem?_set_ne e]
      exact sp_map_lt f P t j p (by omega) (by omega) hp
def sp_fg (a : Int32) (p : PieceS) : PieceS := (i_wood p, i_place p, i_looked p, i_there p, i_known p &&& ((1 <<< (a &&& 31)) ^^^ (-1)), i_num p)
section LV
variable {sc : Nat × (Nat → Int32)} {x : XS} {m : OS} {P : List PieceS} {N : Nat} {n : Nat}
theorem piece_put4 {k : Nat} {p : PieceS} (hp : P[k]? = some p) (a : Int32) : (heapN N sc x m (pcells 67 P)).set (2 * k + 67) (.inr (3, [.int (i_wood p), .int (i_place p), .int (i_looked p), .int (i_there p), .int (i_known p), .ref (2 * k + 67 + 1)].set 4 (.int a))) = heapN N sc x m (pcells 67 (P.set k (i_wood p, i_place p, i_looked p, i_there p, a, i_num p))) := by
  rw [heapN_set, ← piece_set1 (q := (i_wood p, i_place p, i_looked p, i_there p, a, i_num p)) hp rfl]
  rfl
theorem c_C_forget {k : Nat} {p : PieceS} (hp : P[k]? = some p) (a : Int32) : MC M_C_forgetNumbers 0 0 0 [.ref (2 * k + 67), .int a] (heapN N sc x m (pcells 67 P)) none (heapN N sc x m (pcells 67 (P.set k (sp_fg a p)))) := by
  have hi : (heapN N sc x m (pcells 67 P))[2 * k + 67]? = _ := (pcells_get P 67 k p hp).1
  refine mc_of k1_C_forgetNumbers k2_C_forgetNumbers (Nat.le_of_ble_eq_true rfl) ?_
  repeat (refine mw_step rfl ?_)
  refine mw_getf rfl hi (by omega) rfl ?_
  repeat (refine mw_step rfl ?_)
  refine mw_putf rfl hi (by omega) (Nat.le_of_ble_eq_true rfl) rfl ?_
  exact mw_r0 rfl (Nat.le_refl _) (Nat.le_refl _) rfl (by rw [show 2 * k + 67 + 1 = 2 * k + 67 + 1 from rfl, piece_put4 hp]; rfl)
theorem l_C_law (h8 : P.length ≤ 8) (a : Nat) {v : Option Value} {hT : MH} (K : MW M_C_law 59 0 0 v hT 0 0 81 [(0, .ref 5), (1, .int (nI a))] [] (heapN P.length sc x m (pcells 67 (sp_map (sp_fg (nI a)) P P.length)))) : ∀ r t, t + r = P.length → MW M_C_law 59 0 0 v hT 0 0 58 [(0, .ref 5), (1, .int (nI a)), (3, .int (nI t))] [] (heapN P.length sc x m (pcells 67 (sp_map (sp_fg (nI a)) P t))) := by
  intro r
  induction r with
  | zero =>
    intro t ht
    rw [show t = P.length by omega]
    repeat (refine mw_step rfl ?_)
    refine mw_brF rfl (n_nlt (by omega) (by omega)) ?_
    refine mw_pick [0, 1] rfl ?_
    exact K
  | succ r ih =>
    intro t ht
    obtain ⟨p, hp0⟩ : ∃ p, P[t]? = some p := ⟨P[t]'(by omega), List.getElem?_eq_getElem (by omega)⟩
    have hp : (sp_map (sp_fg (nI a)) P t)[t]? = some p := by rw [sp_map_ge _ _ _ _ (Nat.le_refl _)]; exact hp0
    have hg : P.getD t pz = p := by rw [List.getD_eq_getElem?_getD, hp0]; rfl
    have L := ih (t + 1) (by omega)
    rw [sp_map, hg] at L
    repeat (refine mw_step rfl ?_)
    refine mw_brT rfl (n_lt (by omega) (by omega)) ?_
    repeat (refine mw_step rfl ?_)
    refine mw_call (c_pieceAt t h8 (by omega)) rfl rfl (Nat.le_of_ble_eq_true rfl) (Nat.le_refl _) (Nat.le_refl _) ?_
    repeat (refine mw_step rfl ?_)
    refine mw_call (c_C_forget hp _) rfl rfl (Nat.le_of_ble_eq_true rfl) (Nat.le_refl _) (Nat.le_refl _) ?_
    repeat (refine mw_to 58 rfl rfl ?_)
    rw [nI_1]
    refine mw_pick [0, 1, 3] rfl ?_
    exact L
theorem c_C_law (h8 : P.length ≤ 8) (a : Nat) (ha : a < 6) (hn : xR_len x = nI n) (h120 : n ≤ 120) (htp : ∀ j, j < n → ¬ xR_tape x j = -1) {T : Tx} (hp : p_text (txR n (xR_tape x)) n = .inr T) : ∃ a', MC M_C_law 59 0 0 [.ref 5, .int (nI a)] (heap sc x m P) (some (.int 1)) (heap sc (xW_s (xR_s x (xR_tape x, 0, x_wr (xR_code x) 0 (T_code T), nI (T_code T).length, a', -1)) (va_cpy (x_wr (xR_code x) 0 (T_code T)) (xW_code x) 0 (a * 120) (T_code T).length, upd (xW_sizes x) a (nI (T_code T).length), xW_stack x)) m (sp_map (sp_fg (nI a)) P P.length)) := by
  have C := c_R_read (N := P.length) (sc := sc) (m := m) (tl := pcells 67 P) hn h120 htp
  obtain ⟨q1, q2, q3⟩ := p_text_ok (txR_ok n h120 (xR_tape x)) hp
  rw [hp] at C
  obtain ⟨a', C⟩ := C
  refine ⟨a', ?_⟩
  unfold heap
  rw [sp_map_len]
  refine mc_of k1_C_law k2_C_law (Nat.le_of_ble_eq_true rfl) ?_
  repeat (refine mw_step rfl ?_)
  refine mw_call (c_isMark _ _) rfl rfl (Nat.le_of_ble_eq_true rfl) (Nat.le_refl _) (Nat.le_refl _) ?_
  refine mw_brF rfl (bI_ne (rng_in (by omega) (by decide))) ?_
  repeat (refine mw_step rfl ?_)
  refine mw_call (C) rfl rfl (Nat.le_of_ble_eq_true rfl) (Nat.le_refl _) (Nat.le_refl _) ?_
  repeat (refine mw_step rfl ?_)
  refine mw_brT rfl (m1_neg) ?_
  repeat (refine mw_step rfl ?_)
  refine mw_call (c_L_set (N := P.length) (sc := sc) (m := m) (tl := pcells 67 P) (x := xR_s x (xR_tape x, 0, x_wr (xR_code x) 0 (T_code T), nI (T_code T).length, a', -1)) a (T_code T).length ha (by omega)) rfl rfl (Nat.le_of_ble_eq_true rfl) (Nat.le_refl _) (Nat.le_refl _) ?_
  repeat (refine mw_to 58 rfl rfl ?_)
  refine mw_pick [0, 1, 3] rfl ?_
  refine l_C_law (x := xW_s (xR_s x (xR_tape x, 0, x_wr (xR_code x) 0 (T_code T), nI (T_code T).length, a', -1)) (va_cpy (x_wr (xR_code x) 0 (T_code T)) (xW_code x) 0 (a * 120) (T_code T).length, upd (xW_sizes x) a (nI (T_code T).length), xW_stack x)) h8 a ?_ P.length 0 (by omega)
  repeat (refine mw_step rfl ?_)
  exact mw_r1 rfl trivial (Nat.le_refl _) (Nat.le_refl _) rfl rfl
end LV
