/-! parts from rows -/
def sp_d9 (v : Int64) : Prop := 0 ≤ v ∧ v ≤ 9
def sp_afr (f : Nat → Int64) (len n : Nat) (q : Nat) : Prop := q + 1 < len ∧ n < 8 ∧ sp_d9 (f q) ∧ sp_d9 (f (q + 1))
theorem i64_nlt {a b : Int64} (h : a ≤ b) : ¬ b < a := by
  rw [Int64.lt_iff_toInt_lt]
  rw [Int64.le_iff_toInt_le] at h
  omega
section PR
variable {sc : Nat × (Nat → Int32)} {x : XS} {m : OS} {P : List PieceS}
theorem c_afr_no (a len : Nat) (ha : a ≤ 5) (hl : xH_lens x a = nI len) (h60 : len ≤ 60) (h8 : P.length ≤ 8) (pl : Int32) (h : ¬ ∃ q, pl = nI q ∧ sp_afr (fun q => xH_cells x (a * 60 + q)) len P.length q) : MC M_C_addFromRow 3 2 1086 [.ref 5, .int (nI a), .int pl] (heap sc x m P) (some (.int 0)) (heap sc x m P) := by
  refine mc_of k1_C_addFromRow k2_C_addFromRow (Nat.le_of_ble_eq_true rfl) ?_
  unfold heap
  repeat (refine mw_step rfl ?_)
  refine mw_br rfl (fun h1 => ?_) (fun h1 => ?_)
  · repeat (refine mw_step rfl ?_)
    refine mw_br rfl (fun h2 => ?_) (fun h2 => ?_)
    · repeat (refine mw_step rfl ?_)
      exact mw_r1 rfl rfl (Nat.zero_le _) (Nat.zero_le _) rfl rfl
    · repeat (refine mw_step rfl ?_)
      refine mw_call (c_H_lengthOn a ha) rfl rfl (Nat.le_of_ble_eq_true rfl) (Nat.le_of_ble_eq_true rfl) (Nat.le_of_ble_eq_true rfl) ?_
      repeat (refine mw_step rfl ?_)
      rw [hl]
      refine mw_br rfl (fun h3 => ?_) (fun h3 => ?_)
      · obtain ⟨q, hq, rfl⟩ := nI_of h2
        have hq1 : q + 1 < len := by
          cases len with
          | zero =>
            rw [Int32.lt_iff_toInt_lt, nI_toInt hq, show (nI 0 - 1).toInt = -1 from rfl] at h3
            omega
          | succ k =>
            rw [nI_pred] at h3
            have := (nI_ltI hq (by omega)).mp h3
            omega
        have h1 := (nI_ltI (by omega) (b := 8) (by omega)).mp h1
        have e1 : nI q + 1 = nI (q + 1) := nI_1 q
        repeat (refine mw_step rfl ?_)
        refine mw_call (c_H_cell a q ha (by omega)) rfl rfl (Nat.le_of_ble_eq_true rfl) (Nat.le_of_ble_eq_true rfl) (Nat.le_of_ble_eq_true rfl) ?_
        repeat (refine mw_step rfl ?_)
        rw [e1]
        refine mw_call (c_H_cell a (q + 1) ha (by omega)) rfl rfl (Nat.le_of_ble_eq_true rfl) (Nat.le_of_ble_eq_true rfl) (Nat.le_of_ble_eq_true rfl) ?_
        repeat (refine mw_step rfl ?_)
        refine mw_br rfl (fun h4 => ?_) (fun h4 => ?_)
        · repeat (refine mw_step rfl ?_)
          exact mw_r1 rfl rfl (Nat.zero_le _) (Nat.zero_le _) rfl rfl
        · repeat (refine mw_step rfl ?_)
          refine mw_br rfl (fun h5 => ?_) (fun h5 => ?_)
          · repeat (refine mw_step rfl ?_)
            exact mw_r1 rfl rfl (Nat.zero_le _) (Nat.zero_le _) rfl rfl
          · repeat (refine mw_step rfl ?_)
            refine mw_br rfl (fun h6 => ?_) (fun h6 => ?_)
            · repeat (refine mw_step rfl ?_)
              exact mw_r1 rfl rfl (Nat.zero_le _) (Nat.zero_le _) rfl rfl
            · repeat (refine mw_step rfl ?_)
              refine mw_br rfl (fun h7 => ?_) (fun h7 => ?_)
              · repeat (refine mw_step rfl ?_)
                exact mw_r1 rfl rfl (Nat.zero_le _) (Nat.zero_le _) rfl rfl
              · rw [lg_lt0] at h4 h6
                rw [lg_gt0] at h5 h7
                exact absurd ⟨q, rfl, hq1, h1, ⟨Int64.not_lt.mp h4, Int64.not_lt.mp h5⟩, ⟨Int64.not_lt.mp h6, Int64.not_lt.mp h7⟩⟩ h
      · repeat (refine mw_step rfl ?_)
        exact mw_r1 rfl rfl (Nat.zero_le _) (Nat.zero_le _) rfl rfl
  · repeat (refine mw_step rfl ?_)
    exact mw_r1 rfl rfl (Nat.zero_le _) (Nat.zero_le _) rfl rfl
theorem c_afr (a len : Nat) (ha : a ≤ 5) (hl : xH_lens x a = nI len) (h60 : len ≤ 60) (q : Nat) (h : sp_afr (fun q => xH_cells x (a * 60 + q)) len P.length q) : MC M_C_addFromRow 3 2 1086 [.ref 5, .int (nI a), .int (nI q)] (heap sc x m P) (some (.int 1)) (heap sc x m (P ++ [p0 (xH_cells x (a * 60 + q)).toInt32 (xH_cells x (a * 60 + (q + 1))).toInt32])) := by
  obtain ⟨hq, h8, ⟨d1, d2⟩, ⟨d3, d4⟩⟩ := h
  have hA := c_addPiece (sc := sc) (x := x) (m := m) P h8 (xH_cells x (a * 60 + q)).toInt32 (xH_cells x (a * 60 + (q + 1))).toInt32
  refine mc_of k1_C_addFromRow k2_C_addFromRow (Nat.le_of_ble_eq_true rfl) ?_
  unfold heap at hA ⊢
  repeat (refine mw_step rfl ?_)
  refine mw_brT rfl (n_lt (b := 8) h8 (by omega)) ?_
  repeat (refine mw_step rfl ?_)
  refine mw_brF rfl (nI_pos (by omega)) ?_
  repeat (refine mw_step rfl ?_)
  refine mw_call (c_H_lengthOn a ha) rfl rfl (Nat.le_of_ble_eq_true rfl) (Nat.le_of_ble_eq_true rfl) (Nat.le_of_ble_eq_true rfl) ?_
  repeat (refine mw_step rfl ?_)
  rw [hl]
  refine mw_brT rfl (by obtain ⟨k, rfl⟩ : ∃ k, len = k + 1 := ⟨len - 1, by omega⟩; rw [nI_pred]; exact n_lt (by omega) (by omega)) ?_
  repeat (refine mw_step rfl ?_)
  refine mw_call (c_H_cell a q ha (by omega)) rfl rfl (Nat.le_of_ble_eq_true rfl) (Nat.le_of_ble_eq_true rfl) (Nat.le_of_ble_eq_true rfl) ?_
  repeat (refine mw_step rfl ?_)
  rw [nI_1]
  refine mw_call (c_H_cell a (q + 1) ha (by omega)) rfl rfl (Nat.le_of_ble_eq_true rfl) (Nat.le_of_ble_eq_true rfl) (Nat.le_of_ble_eq_true rfl) ?_
  repeat (refine mw_step rfl ?_)
  refine mw_brF rfl (by rw [lg_lt0]; exact i64_nlt d1) ?_
  repeat (refine mw_step rfl ?_)
  refine mw_brF rfl (by rw [lg_gt0]; exact i64_nlt d2) ?_
  repeat (refine mw_step rfl ?_)
  refine mw_brF rfl (by rw [lg_lt0]; exact i64_nlt d3) ?_
  repeat (refine mw_step rfl ?_)
  refine mw_brF rfl (by rw [lg_gt0]; exact i64_nlt d4) ?_
  repeat (refine mw_step rfl ?_)
  refine mw_call hA rfl rfl (Nat.le_of_ble_eq_true rfl) (Nat.le_of_ble_eq_true rfl) (Nat.le_of_ble_eq_true rfl) ?_
  repeat (refine mw_step rfl ?_)
  exact mw_r1 rfl rfl (Nat.le_of_ble_eq_true rfl) (Nat.le_of_ble_eq_true rfl) rfl rfl
/-- the loop: how many came, and the parts -/
noncomputable def sp_pts (f : Nat → Int64) (len i : Nat) : Nat → Nat → List PieceS → Nat × List PieceS
  | 0, c, P => (c, P)
  | r + 1, c, P => by
    have : Decidable (sp_afr f len P.length (i + 2 * c)) := Classical.propDecidable _
    exact if sp_afr f len P.length (i + 2 * c) then sp_pts f len i r (c + 1) (P ++ [p0 (f (i + 2 * c)).toInt32 (f (i + 2 * c + 1)).toInt32]) else (c, P)
theorem sp_pts_no {f : Nat → Int64} {len i r c : Nat} {P : List PieceS} (h : ¬ sp_afr f len P.length (i + 2 * c)) : sp_pts f len i (r + 1) c P = (c, P) := by
  rw [sp_pts]
  exact if_neg h
theorem sp_pts_yes {f : Nat → Int64} {len i r c : Nat} {P : List PieceS} (h : sp_afr f len P.length (i + 2 * c)) : sp_pts f len i (r + 1) c P = sp_pts f len i r (c + 1) (P ++ [p0 (f (i + 2 * c)).toInt32 (f (i + 2 * c + 1)).toInt32]) := by
  rw [sp_pts]
  exact if_pos h
theorem l_C_parts (a len i n : Nat) (ha : a ≤ 5) (hl : xH_lens x a = nI len) (h60 : len ≤ 60) (hi : i < 2 ^ 31) (hn : n ≤ 8) (kk : Int32) : ∀ r c (P : List PieceS), c + r = n → P.length ≤ 8 → (c = 0 ∨ i + 2 * c ≤ 62) → MW M_C_parts 4 16 8688 (some (.int (nI (sp_pts (fun q => xH_cells x (a * 60 + q)) len i r c P).1))) (heap sc x m (sp_pts (fun q => xH_cells x (a * 60 + q)) len i r c P).2) (2 * c) (1086 * c) 49 [(0, .ref 5), (1, .int (nI a)), (2, .int (nI i)), (3, .int (nI n)), (4, .int kk), (5, .int (nI c))] [] (heap sc x m P) := by
  intro r
  induction r with
  | zero =>
    intro c P hc h8 hb
    unfold heap
    repeat (refine mw_step rfl ?_)
    refine mw_brF rfl (n_nlt (by omega) (by omega)) ?_
    repeat (refine mw_step rfl ?_)
    exact mw_r1 rfl trivial (by omega) (by omega) rfl rfl
  | succ r ih =>
    intro c P hc h8 hb
    have e : nI i + 2 * nI c = nI (i + 2 * c) := by rw [show (2 : Int32) = nI 2 from rfl, pk_mul, nI_add]
    by_cases ho : sp_afr (fun q => xH_cells x (a * 60 + q)) len P.length (i + 2 * c)
    · have hA := c_afr (sc := sc) (m := m) a len ha hl h60 (i + 2 * c) ho
      rw [sp_pts_yes ho]
      have hz := ho.1
      have L := ih (c + 1) (P ++ [p0 (xH_cells x (a * 60 + (i + 2 * c))).toInt32 (xH_cells x (a * 60 + (i + 2 * c + 1))).toInt32]) (by omega) (by rw [List.length_append]; have := ho.2.1; simp; omega) (Or.inr (by omega))
      unfold heap at hA L ⊢
      repeat (refine mw_step rfl ?_)
      refine mw_brT rfl (n_lt (by omega) (by omega)) ?_
      repeat (refine mw_step rfl ?_)
      rw [e]
      refine mw_call hA rfl rfl (Nat.le_of_ble_eq_true rfl) (by omega) (by omega) ?_
      refine mw_brF rfl (by decide) ?_
      repeat (refine mw_to 49 rfl rfl ?_)
      rw [nI_1]
      refine mw_pick [0, 1, 2, 3, 4, 5] rfl ?_
      exact mw_widen (by omega) (by omega) L
    · have hA := c_afr_no (sc := sc) (m := m) (P := P) a len ha hl h60 h8 (nI (i + 2 * c)) (by
        rintro ⟨q, e2, h2⟩
        have : i + 2 * c = q ∨ ¬ i + 2 * c = q := Classical.em _
        rcases this with rfl | hne
        · exact ho h2
        · rcases hb with rfl | hb
          · exact hne ((nI_eq (by omega) (by have := h2.1; omega)).mp e2)
          · exact hne ((nI_eq (by omega) (by have := h2.1; omega)).mp e2))
      rw [sp_pts_no ho]
      unfold heap at hA ⊢
      repeat (refine mw_step rfl ?_)
      refine mw_brT rfl (n_lt (by omega) (by omega)) ?_
      repeat (refine mw_step rfl ?_)
      rw [e]
      refine mw_call hA rfl rfl (Nat.le_of_ble_eq_true rfl) (by omega) (by omega) ?_
      refine mw_brT rfl (rfl) ?_
      repeat (refine mw_step rfl ?_)
      exact mw_r1 rfl trivial (by omega) (by omega) rfl rfl
def sp_ptsOk (d n : Int32) : Prop := (0 ≤ d ∧ d ≤ nI 5) ∧ (1 ≤ n ∧ n ≤ nI 8)
theorem c_C_parts_bad {N : Nat} {tl : MH} (d i n : Int32) (h : ¬ sp_ptsOk d n) : MC M_C_parts 4 16 8688 [.ref 5, .int d, .int i, .int n] (heapN N sc x m tl) (some (.int (-1))) (heapN N sc x m tl) := by
  refine mc_of k1_C_parts k2_C_parts (Nat.le_of_ble_eq_true rfl) ?_
  repeat (refine mw_step rfl ?_)
  refine mw_call (c_isShelf _ _) rfl rfl (Nat.le_of_ble_eq_true rfl) (Nat.le_of_ble_eq_true rfl) (Nat.le_of_ble_eq_true rfl) ?_
  refine mw_br rfl (fun h1 => ?_) (fun h1 => ?_)
  · repeat (refine mw_step rfl ?_)
    exact mw_r1 rfl trivial (Nat.zero_le _) (Nat.zero_le _) rfl rfl
  · repeat (refine mw_step rfl ?_)
    refine mw_call (c_within _ _ _ _) rfl rfl (Nat.le_of_ble_eq_true rfl) (Nat.le_of_ble_eq_true rfl) (Nat.le_of_ble_eq_true rfl) ?_
    refine mw_br rfl (fun h2 => ?_) (fun h2 => ?_)
    · repeat (refine mw_step rfl ?_)
      exact mw_r1 rfl trivial (Nat.zero_le _) (Nat.zero_le _) rfl rfl
    · exact absurd ⟨bI_of h1, bI_of h2⟩ h
theorem c_C_parts_0 {N : Nat} {tl : MH} (a : Nat) (i n : Int32) (ha : a ≤ 5) (hn : 1 ≤ n ∧ n ≤ nI 8) (hs : xH_sorts x a = -2) : MC M_C_parts 4 16 8688 [.ref 5, .int (nI a), .int i, .int n] (heapN N sc x m tl) (some (.int 0)) (heapN N sc x m tl) := by
  refine mc_of k1_C_parts k2_C_parts (Nat.le_of_ble_eq_true rfl) ?_
  repeat (refine mw_step rfl ?_)
  refine mw_call (c_isShelf _ _) rfl rfl (Nat.le_of_ble_eq_true rfl) (Nat.le_of_ble_eq_true rfl) (Nat.le_of_ble_eq_true rfl) ?_
  refine mw_brF rfl (bI_ne (rng_in ha (by decide))) ?_
  repeat (refine mw_step rfl ?_)
  refine mw_call (c_within _ _ _ _) rfl rfl (Nat.le_of_ble_eq_true rfl) (Nat.le_of_ble_eq_true rfl) (Nat.le_of_ble_eq_true rfl) ?_
  refine mw_brF rfl (bI_ne hn) ?_
  repeat (refine mw_step rfl ?_)
  refine mw_call (c_H_sortOn a ha) rfl rfl (Nat.le_of_ble_eq_true rfl) (Nat.le_of_ble_eq_true rfl) (Nat.le_of_ble_eq_true rfl) ?_
  repeat (refine mw_step rfl ?_)
  refine mw_brT rfl (hs) ?_
  repeat (refine mw_step rfl ?_)
  exact mw_r1 rfl trivial (Nat.zero_le _) (Nat.zero_le _) rfl rfl
theorem c_C_parts_o {N : Nat} {tl : MH} (a : Nat) (i n : Int32) (ha : a ≤ 5) (hn : 1 ≤ n ∧ n ≤ nI 8) (hs : ¬ xH_sorts x a = -2) (hs2 : ¬ xH_sorts x a = 0) : MC M_C_parts 4 16 8688 [.ref 5, .int (nI a), .int i, .int n] (heapN N sc x m tl) (some (.int (-12))) (heapN N sc x m tl) := by
  refine mc_of k1_C_parts k2_C_parts (Nat.le_of_ble_eq_true rfl) ?_
  repeat (refine mw_step rfl ?_)
  refine mw_call (c_isShelf _ _) rfl rfl (Nat.le_of_ble_eq_true rfl) (Nat.le_of_ble_eq_true rfl) (Nat.le_of_ble_eq_true rfl) ?_
  refine mw_brF rfl (bI_ne (rng_in ha (by decide))) ?_
  repeat (refine mw_step rfl ?_)
  refine mw_call (c_within _ _ _ _) rfl rfl (Nat.le_of_ble_eq_true rfl) (Nat.le_of_ble_eq_true rfl) (Nat.le_of_ble_eq_true rfl) ?_
  refine mw_brF rfl (bI_ne hn) ?_
  repeat (refine mw_step rfl ?_)
  refine mw_call (c_H_sortOn a ha) rfl rfl (Nat.le_of_ble_eq_true rfl) (Nat.le_of_ble_eq_true rfl) (Nat.le_of_ble_eq_true rfl) ?_
  repeat (refine mw_step rfl ?_)
  refine mw_brF rfl (hs) ?_
  repeat (refine mw_step rfl ?_)
  refine mw_brF rfl (hs2) ?_
  repeat (refine mw_step rfl ?_)
  exact mw_r1 rfl trivial (Nat.zero_le _) (Nat.zero_le _) rfl rfl
theorem c_C_parts_neg (a len n : Nat) (i : Int32) (ha : a ≤ 5) (hn : 1 ≤ nI n ∧ nI n ≤ nI 8) (hn1 : 1 ≤ n) (hn8 : n ≤ 8) (hs : xH_sorts x a = 0) (hl : xH_lens x a = nI len) (h60 : len ≤ 60) (h8 : P.length ≤ 8) (hi : i < 0) : MC M_C_parts 4 16 8688 [.ref 5, .int (nI a), .int i, .int (nI n)] (heap sc x m P) (some (.int 0)) (heap sc x m P) := by
  have hA := c_afr_no (sc := sc) (m := m) (P := P) a len ha hl h60 h8 (i + 2 * 0) (by
    rintro ⟨q, e2, h2⟩
    rw [show i + 2 * 0 = i by rw [Int32.mul_zero, Int32.add_zero]] at e2
    rw [e2] at hi
    exact nI_pos (by have := h2.1; omega) hi)
  refine mc_of k1_C_parts k2_C_parts (Nat.le_of_ble_eq_true rfl) ?_
  unfold heap at hA ⊢
  repeat (refine mw_step rfl ?_)
  refine mw_call (c_isShelf _ _) rfl rfl (Nat.le_of_ble_eq_true rfl) (Nat.le_of_ble_eq_true rfl) (Nat.le_of_ble_eq_true rfl) ?_
  refine mw_brF rfl (bI_ne (rng_in ha (by decide))) ?_
  repeat (refine mw_step rfl ?_)
  refine mw_call (c_within _ _ _ _) rfl rfl (Nat.le_of_ble_eq_true rfl) (Nat.le_of_ble_eq_true rfl) (Nat.le_of_ble_eq_true rfl) ?_
  refine mw_brF rfl (bI_ne hn) ?_
  repeat (refine mw_step rfl ?_)
  refine mw_call (c_H_sortOn a ha) rfl rfl (Nat.le_of_ble_eq_true rfl) (Nat.le_of_ble_eq_true rfl) (Nat.le_of_ble_eq_true rfl) ?_
  repeat (refine mw_step rfl ?_)
  refine mw_brF rfl (by rw [hs]; decide) ?_
  repeat (refine mw_step rfl ?_)
  refine mw_brT rfl (hs) ?_
  repeat (refine mw_step rfl ?_)
  refine mw_brT rfl (n_lt (a := 0) (by omega) (by omega)) ?_
  repeat (refine mw_step rfl ?_)
  refine mw_call hA rfl rfl (Nat.le_of_ble_eq_true rfl) (Nat.le_of_ble_eq_true rfl) (Nat.le_of_ble_eq_true rfl) ?_
  refine mw_brT rfl (rfl) ?_
  repeat (refine mw_step rfl ?_)
  exact mw_r1 rfl trivial (Nat.le_of_ble_eq_true rfl) (Nat.le_of_ble_eq_true rfl) rfl rfl
theorem c_C_parts (a len i n : Nat) (ha : a ≤ 5) (hn : 1 ≤ nI n ∧ nI n ≤ nI 8) (hn8 : n ≤ 8) (hs : xH_sorts x a = 0) (hl : xH_lens x a = nI len) (h60 : len ≤ 60) (h8 : P.length ≤ 8) (hi : i < 2 ^ 31) : MC M_C_parts 4 16 8688 [.ref 5, .int (nI a), .int (nI i), .int (nI n)] (heap sc x m P) (some (.int (nI (sp_pts (fun q => xH_cells x (a * 60 + q)) len i n 0 P).1))) (heap sc x m (sp_pts (fun q => xH_cells x (a * 60 + q)) len i n 0 P).2) := by
  have L := l_C_parts (sc := sc) (m := m) a len i n ha hl h60 hi hn8 (xH_sorts x a) n 0 P (by omega) h8 (Or.inl rfl)
  refine mc_of k1_C_parts k2_C_parts (Nat.le_of_ble_eq_true rfl) ?_
  unfold heap at L ⊢
  repeat (refine mw_step rfl ?_)
  refine mw_call (c_isShelf _ _) rfl rfl (Nat.le_of_ble_eq_true rfl) (Nat.le_of_ble_eq_true rfl) (Nat.le_of_ble_eq_true rfl) ?_
  refine mw_brF rfl (bI_ne (rng_in ha (by decide))) ?_
  repeat (refine mw_step rfl ?_)
  refine mw_call (c_within _ _ _ _) rfl rfl (Nat.le_of_ble_eq_true rfl) (Nat.le_of_ble_eq_true rfl) (Nat.le_of_ble_eq_true rfl) ?_
  refine mw_brF rfl (bI_ne hn) ?_
  repeat (refine mw_step rfl ?_)
  refine mw_call (c_H_sortOn a ha) rfl rfl (Nat.le_of_ble_eq_true rfl) (Nat.le_of_ble_eq_true rfl) (Nat.le_of_ble_eq_true rfl) ?_
  repeat (refine mw_step rfl ?_)
  refine mw_brF rfl (by rw [hs]; decide) ?_
  repeat (refine mw_step rfl ?_)
  refine mw_brT rfl (hs) ?_
  repeat (refine mw_to 49 rfl rfl ?_)
  refine mw_pick [0, 1, 2, 3, 4, 5] rfl ?_
  exact L
end PR
