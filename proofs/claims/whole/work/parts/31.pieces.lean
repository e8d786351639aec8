/-! pieces -/
def sp_found (lk th mk : Int32) : Int32 := if (lk >>> (mk &&& 31)) &&& 1 = 1 then (if (th >>> (mk &&& 31)) &&& 1 = 1 then 1 else 2) else 0
abbrev pcell (w pl lk th kn : Int32) (nb : Nat) : MCell := .inr (3, [.int w, .int pl, .int lk, .int th, .int kn, .ref nb])
section PI
variable {h : MH} {i nb : Nat} {w pl lk th kn : Int32}
theorem c_I_foundOf (hi : h[i]? = some (pcell w pl lk th kn nb)) (h5 : 5 ≤ i) (mk : Int32) : MC M_I_foundOf 1 0 0 [.ref i, .int mk] h (some (.int (sp_found lk th mk))) h := by
  refine mc_of k1_I_foundOf k2_I_foundOf (Nat.le_of_ble_eq_true rfl) ?_
  repeat (refine mw_step rfl ?_)
  refine mw_getf rfl hi h5 rfl ?_
  repeat (refine mw_step rfl ?_)
  refine mw_call (c_hasBit _ _ _) rfl rfl (Nat.le_of_ble_eq_true rfl) (Nat.le_refl _) (Nat.le_refl _) ?_
  refine mw_br rfl (fun h1 => ?_) (fun h1 => ?_)
  · repeat (refine mw_step rfl ?_)
    exact mw_r1 rfl trivial (Nat.le_refl _) (Nat.le_refl _) (by rw [sp_found, if_neg (bI_0.mp h1)]) rfl
  · repeat (refine mw_step rfl ?_)
    refine mw_getf rfl hi h5 rfl ?_
    repeat (refine mw_step rfl ?_)
    refine mw_call (c_hasBit _ _ _) rfl rfl (Nat.le_of_ble_eq_true rfl) (Nat.le_refl _) (Nat.le_refl _) ?_
    refine mw_br rfl (fun h2 => ?_) (fun h2 => ?_)
    · repeat (refine mw_step rfl ?_)
      exact mw_r1 rfl trivial (Nat.le_refl _) (Nat.le_refl _) (by rw [sp_found, if_pos (bI_of h1), if_neg (bI_0.mp h2)]) rfl
    · repeat (refine mw_step rfl ?_)
      exact mw_r1 rfl trivial (Nat.le_refl _) (Nat.le_refl _) (by rw [sp_found, if_pos (bI_of h1), if_pos (bI_of h2)]) rfl
def sp_lk (lk mk u : Int32) : Int32 := if u = 0 then lk &&& ((1 <<< (mk &&& 31)) ^^^ (-1)) else lk ||| (1 <<< (mk &&& 31))
def sp_th (th mk u : Int32) : Int32 := if u = 1 then th ||| (1 <<< (mk &&& 31)) else th &&& ((1 <<< (mk &&& 31)) ^^^ (-1))
theorem set_set (h : MH) (i : Nat) (a b : MCell) : (h.set i a).set i b = h.set i b := List.set_set ..
theorem get_set {h : MH} {i : Nat} {a b : MCell} (hi : h[i]? = some a) : (h.set i b)[i]? = some b := List.getElem?_set_self (List.getElem?_eq_some_iff.mp hi).1
theorem c_I_setFound (hi : h[i]? = some (pcell w pl lk th kn nb)) (h5 : 5 ≤ i) (mk u : Int32) : MC M_I_setFound 0 0 0 [.ref i, .int mk, .int u] h none (h.set i (pcell w pl (sp_lk lk mk u) (sp_th th mk u) kn nb)) := by
  refine mc_of k1_I_setFound k2_I_setFound (Nat.le_of_ble_eq_true rfl) ?_
  repeat (refine mw_step rfl ?_)
  refine mw_br rfl (fun h1 => ?_) (fun h1 => ?_)
  · repeat (refine mw_step rfl ?_)
    refine mw_getf rfl hi h5 rfl ?_
    repeat (refine mw_step rfl ?_)
    refine mw_putf rfl hi h5 (Nat.le_of_ble_eq_true rfl) rfl ?_
    repeat (refine mw_step rfl ?_)
    refine mw_br rfl (fun h2 => ?_) (fun h2 => ?_)
    · exact absurd (h1.symm.trans h2) (by decide)
    · repeat (refine mw_step rfl ?_)
      refine mw_getf rfl (get_set hi) h5 rfl ?_
      repeat (refine mw_step rfl ?_)
      refine mw_putf rfl (get_set hi) h5 (Nat.le_of_ble_eq_true rfl) rfl ?_
      exact mw_r0 rfl (Nat.le_refl _) (Nat.le_refl _) rfl (by rw [set_set, sp_lk, if_pos h1, sp_th, if_neg h2]; rfl)
  · repeat (refine mw_step rfl ?_)
    refine mw_getf rfl hi h5 rfl ?_
    repeat (refine mw_step rfl ?_)
    refine mw_putf rfl hi h5 (Nat.le_of_ble_eq_true rfl) rfl ?_
    repeat (refine mw_step rfl ?_)
    refine mw_br rfl (fun h2 => ?_) (fun h2 => ?_)
    · repeat (refine mw_step rfl ?_)
      refine mw_getf rfl (get_set hi) h5 rfl ?_
      repeat (refine mw_step rfl ?_)
      refine mw_putf rfl (get_set hi) h5 (Nat.le_of_ble_eq_true rfl) rfl ?_
      exact mw_r0 rfl (Nat.le_refl _) (Nat.le_refl _) rfl (by rw [set_set, sp_lk, if_neg h1, sp_th, if_pos h2]; rfl)
    · repeat (refine mw_step rfl ?_)
      refine mw_getf rfl (get_set hi) h5 rfl ?_
      repeat (refine mw_step rfl ?_)
      refine mw_putf rfl (get_set hi) h5 (Nat.le_of_ble_eq_true rfl) rfl ?_
      exact mw_r0 rfl (Nat.le_refl _) (Nat.le_refl _) rfl (by rw [set_set, sp_lk, if_neg h1, sp_th, if_neg h2]; rfl)
theorem n_mkt (a b c : Nat) : (nI a * nI 6 + nI b) * nI 30 + nI c = nI ((a * 6 + b) * 30 + c) := by rw [pk_mul, nI_add, pk_mul, nI_add]
theorem c_I_numberAt {f : Nat → Int32} (hi : h[i]? = some (pcell w pl lk th kn nb)) (h5 : 5 ≤ i) (hn : h[nb]? = some (.inl (.int, 1080, .inl f))) (a b c : Nat) (hb : (a * 6 + b) * 30 + c < 1080) : MC M_I_numberAt 0 0 0 [.ref i, .int (nI a), .int (nI b), .int (nI c)] h (some (.int (f ((a * 6 + b) * 30 + c)))) h := by
  have e : (nI a * 6 + nI b) * 30 + nI c = nI ((a * 6 + b) * 30 + c) := n_mkt a b c
  refine mc_of k1_I_numberAt k2_I_numberAt (Nat.le_of_ble_eq_true rfl) ?_
  repeat (refine mw_step rfl ?_)
  refine mw_brF rfl (by rw [e]; exact nI_pos (by omega)) ?_
  repeat (refine mw_step rfl ?_)
  refine mw_getf rfl hi h5 rfl ?_
  refine mw_alenP rfl hn ?_
  refine mw_brT rfl (by rw [e]; exact n_lt (by omega) (by omega)) ?_
  repeat (refine mw_step rfl ?_)
  refine mw_getf rfl hi h5 rfl ?_
  repeat (refine mw_step rfl ?_)
  refine mw_ildP rfl hn e hb (by decide) ?_
  repeat (refine mw_step rfl ?_)
  exact mw_r1 rfl trivial (Nat.le_refl _) (Nat.le_refl _) rfl rfl
end PI
section PJ
variable {N : Nat} {sc : Nat × (Nat → Int32)} {x : XS} {m : OS} {tl : MH}
theorem n_predN {k : Int32} {n : Nat} (hn : n < 2 ^ 31) (h : 0 ≤ k ∧ k ≤ nI n - 1) : ∃ j, j < n ∧ k = nI j := by
  cases n with
  | zero =>
    rw [Int32.le_iff_toInt_le, Int32.le_iff_toInt_le] at h
    exact absurd h (by rw [show (nI 0 - 1).toInt = -1 from rfl, Int32.toInt_zero]; omega)
  | succ n =>
    rw [nI_pred] at h
    obtain ⟨j, hj, e⟩ := rng (by omega) h
    exact ⟨j, by omega, e⟩
theorem n_predI {n j : Nat} (hj : j < n) (hn : n < 2 ^ 31) : 0 ≤ nI j ∧ nI j ≤ nI n - 1 := by
  obtain ⟨q, rfl⟩ : ∃ q, n = q + 1 := ⟨n - 1, by omega⟩
  rw [nI_pred]
  exact rng_in (by omega) (by omega)
theorem c_pieceAt (k : Nat) (hN : N ≤ 8) (hk : k < N) : MC M_C_pieceAt 1 0 0 [.ref 5, .int (nI k)] (heapN N sc x m tl) (some (.ref (2 * k + 67))) (heapN N sc x m tl) := by
  refine mc_of k1_C_pieceAt k2_C_pieceAt (Nat.le_of_ble_eq_true rfl) ?_
  repeat (refine mw_step rfl ?_)
  refine mw_call (c_within _ _ _ _) rfl rfl (Nat.le_of_ble_eq_true rfl) (Nat.le_refl _) (Nat.le_refl _) ?_
  refine mw_brF rfl (bI_ne (n_predI hk (by omega))) ?_
  repeat (refine mw_step rfl ?_)
  refine mw_brT rfl (n_lt (b := 8) (by omega) (by omega)) ?_
  repeat (refine mw_step rfl ?_)
  refine mw_ald rfl (vp_in_nI (by omega) (by decide)) ?_
  rw [nI_clamp (by omega), k_pcs, if_pos hk]
  repeat (refine mw_step rfl ?_)
  exact mw_r1 rfl trivial (Nat.le_refl _) (Nat.le_refl _) rfl rfl
theorem c_pieceAt_bad (k : Int32) (hN : N ≤ 8) (hk : ¬ ∃ j, j < N ∧ k = nI j) : MC M_C_pieceAt 1 0 0 [.ref 5, .int k] (heapN N sc x m tl) (some .null) (heapN N sc x m tl) := by
  refine mc_of k1_C_pieceAt k2_C_pieceAt (Nat.le_of_ble_eq_true rfl) ?_
  repeat (refine mw_step rfl ?_)
  refine mw_call (c_within _ _ _ _) rfl rfl (Nat.le_of_ble_eq_true rfl) (Nat.le_refl _) (Nat.le_refl _) ?_
  refine mw_brT rfl (bI_f (fun z => hk (n_predN (by omega) z))) ?_
  repeat (refine mw_step rfl ?_)
  exact mw_r1 rfl trivial (Nat.le_refl _) (Nat.le_refl _) rfl rfl
theorem app_set {h : MH} {i : Nat} (hi : i < h.length) (a b : MCell) : (h ++ [a]).set i b = h.set i b ++ [a] := List.set_append_left _ _ hi
theorem app_get {h : MH} {i : Nat} {a c : MCell} (hi : h[i]? = some c) : (h ++ [a])[i]? = some c := by
  rw [List.getElem?_append_left (List.getElem?_eq_some_iff.mp hi).1]
  exact hi
theorem c_I_init {h : MH} {i : Nat} (hi : h[i]? = some (.inr (3, [.int 0, .int 0, .int 0, .int 0, .int 0, .null]))) (h5 : 5 ≤ i) (w pl : Int32) : MC M_I_init 1 1 1080 [.ref i, .int w, .int pl] h none (h.set i (pcell w pl 0 0 0 h.length) ++ [.inl (.int, 1080, .inl fun _ => 0)]) := by
  have hl : i < h.length := (List.getElem?_eq_some_iff.mp hi).1
  refine mc_of k1_I_init k2_I_init (Nat.le_of_ble_eq_true rfl) ?_
  repeat (refine mw_step rfl ?_)
  refine mw_obj rfl (by decide) ?_
  repeat (refine mw_step rfl ?_)
  refine mw_putf rfl hi h5 (Nat.le_of_ble_eq_true rfl) rfl ?_
  repeat (refine mw_step rfl ?_)
  refine mw_putf rfl (get_set hi) h5 (Nat.le_of_ble_eq_true rfl) rfl ?_
  rw [set_set]
  repeat (refine mw_step rfl ?_)
  refine mw_putf rfl (get_set hi) h5 (Nat.le_of_ble_eq_true rfl) rfl ?_
  rw [set_set]
  repeat (refine mw_step rfl ?_)
  refine mw_newa (N := 1080) (by decide) (by decide) rfl (by decide) (Nat.le_refl _) (Nat.le_refl _) ?_
  repeat (refine mw_step rfl ?_)
  refine mw_putf rfl (app_get (get_set hi)) h5 (Nat.le_of_ble_eq_true rfl) rfl ?_
  rw [app_set (by rw [List.length_set]; exact hl), set_set, List.length_set]
  repeat (refine mw_step rfl ?_)
  refine mw_putf rfl (app_get (get_set hi)) h5 (Nat.le_of_ble_eq_true rfl) rfl ?_
  rw [app_set (by rw [List.length_set]; exact hl), set_set]
  repeat (refine mw_step rfl ?_)
  refine mw_putf rfl (app_get (get_set hi)) h5 (Nat.le_of_ble_eq_true rfl) rfl ?_
  rw [app_set (by rw [List.length_set]; exact hl), set_set]
  exact mw_r0 rfl (Nat.le_refl _) (Nat.le_refl _) rfl rfl
def m_isast (M : MD) (pc : Nat) : Option Nat := match m_find pc M.2.2.2.2.2 with
  | some (.aastore, nx, _) => some nx
  | _ => none
theorem mw_aastP {M : MD} {d mc ms : Nat} {v : Option Value} {hT : MH} {cells slots pc : Nat} {l : ML} {st : List Value} {h : MH} {nx a y n i : Nat} {j : Int32} {ty : FieldType} {f : Nat → Option Nat} {fs : List Value} (hs : m_isast M pc = some nx) (ha : h[a]? = some (.inl (ty, n, .inr (.inr (.inr (.inr f)))))) (hy : h[y]? = some (.inr (3, fs))) (h5 : 5 ≤ a) (h6 : 5 ≤ y) (hj : j = nI i) (hi : i < n) (hn : n < 2 ^ 31) (K : MW M d mc ms v hT cells slots nx l st (h.set a (.inl (ty, n, .inr (.inr (.inr (.inr (va_up f i (some y)))))))) ) : MW M d mc ms v hT cells slots pc l (.ref y :: .int j :: .ref a :: st) h := by
  refine mw_ast (n := n) (j := j) (h' := h.set a (.inl (ty, n, .inr (.inr (.inr (.inr (va_up f j.toNatClampNeg (some y)))))))) (nx := nx) (r := st) ?_ (by rw [hj]; exact vp_in_nI hi hn) (by rw [hj, nI_clamp (by omega)]; exact K)
  unfold m_isast at hs
  unfold m_ast
  split at hs
  · next nx2 rest hf =>
    rw [hf]
    cases hs
    simp only [ha, hy, Nat.ble_eq_true_of_le h5, Nat.ble_eq_true_of_le h6, Bool.and_self, Nat.beq_refl, cond_true]
  · cases hs
theorem k_pcs_up (n : Nat) : va_up (k_pcs n) n (some (2 * n + 67)) = k_pcs (n + 1) := by
  funext j
  unfold va_up k_pcs
  by_cases h : j = n
  · subst h
    rw [if_pos rfl, if_pos (by omega)]
  · rw [if_neg h]
    by_cases h2 : j < n
    · rw [if_pos h2, if_pos (by omega)]
    · rw [if_neg h2, if_neg (by omega)]
/-- a new piece -/
def p0 (w pl : Int32) : PieceS := (w, pl, 0, 0, 0, fun _ => 0)
theorem c_addPiece (P : List PieceS) (h8 : P.length < 8) (w pl : Int32) : MC M_C_addPiece 2 2 1086 [.ref 5, .int w, .int pl] (heap sc x m P) none (heap sc x m (P ++ [p0 w pl])) := by
  have hlen : (heap sc x m P).length = 2 * P.length + 67 := by rw [heap, heapN_len, pcells_len]
  refine mc_of k1_C_addPiece k2_C_addPiece (Nat.le_of_ble_eq_true rfl) ?_
  unfold heap
  repeat (refine mw_step rfl ?_)
  refine mw_brT rfl (n_lt (b := 8) h8 (by omega)) ?_
  repeat (refine mw_step rfl ?_)
  refine mw_new rfl (Nat.le_of_ble_eq_true rfl) (Nat.le_of_ble_eq_true rfl) ?_
  rw [show (heapN P.length sc x m (pcells 67 P)).length = 2 * P.length + 67 from hlen, heapN_app]
  repeat (refine mw_step rfl ?_)
  have hi : (heapN P.length sc x m (pcells 67 P ++ [.inr (3, m_dfl 3)]))[2 * P.length + 67]? = some (.inr (3, m_dfl 3)) := by
    rw [heapN_get, ← pcells_len P 67, List.getElem?_concat_length]
  refine mw_call (c_I_init hi (by omega) w pl) rfl rfl (Nat.le_of_ble_eq_true rfl) (Nat.le_of_ble_eq_true rfl) (Nat.le_of_ble_eq_true rfl) ?_
  rw [heapN_len, heapN_set, heapN_app]
  have e1 : ((pcells 67 P ++ [(.inr (3, m_dfl 3) : MCell)]).set (2 * P.length) (pcell w pl 0 0 0 ((pcells 67 P ++ [(.inr (3, m_dfl 3) : MCell)]).length + 67)) ++ [.inl (.int, 1080, .inl fun _ => 0)]) = pcells 67 (P ++ [p0 w pl]) := by
    rw [pcells_app, List.length_append, pcells_len, ← pcells_len P 67, List.set_append_right _ _ (Nat.le_refl _), Nat.sub_self, pcells_len]
    simp [p0]
  rw [e1]
  have hy : (heapN P.length sc x m (pcells 67 (P ++ [p0 w pl])))[2 * P.length + 67]? = some (pcell w pl 0 0 0 (2 * P.length + 67 + 1)) := by
    rw [heapN_get]
    exact (pcells_get (P ++ [p0 w pl]) 67 P.length (p0 w pl) (by simp)).1
  refine mw_aastP (a := 35) (i := P.length) rfl rfl hy (by decide) (by omega) rfl (by omega) (by decide) ?_
  rw [k_pcs_up]
  repeat (refine mw_step rfl ?_)
  exact mw_r0 rfl (Nat.le_of_ble_eq_true rfl) (Nat.le_of_ble_eq_true rfl) rfl (by rw [List.length_append, List.length_singleton, nI_1]; rfl)
end PJ
