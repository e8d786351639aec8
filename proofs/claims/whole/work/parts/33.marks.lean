/-! marks found, told numbers, images -/
theorem piece_set1 {P : List PieceS} {k : Nat} {p q : PieceS} (hp : P[k]? = some p) (hn : i_num q = i_num p) : (pcells 67 P).set (2 * k) (pcell (i_wood q) (i_place q) (i_looked q) (i_there q) (i_known q) (2 * k + 67 + 1)) = pcells 67 (P.set k q) := by
  have hk : k < P.length := (List.getElem?_eq_some_iff.mp hp).1
  rw [pcells_set P 67 k q hk, hn]
  apply List.ext_getElem?
  intro j
  by_cases h1 : 2 * k + 1 = j
  · subst h1
    rw [List.getElem?_set_ne (by omega), (pcells_get P 67 k p hp).2, List.getElem?_set_self (by rw [List.length_set, pcells_len]; omega)]
  · rw [List.getElem?_set_ne h1]
def sp_pm (N : Nat) (pm : Int32) : Prop := (∃ k, k < N ∧ pm / 10 = nI k) ∧ (0 ≤ pm - pm / 10 * 10 ∧ pm - pm / 10 * 10 ≤ nI 5)
section MK
variable {sc : Nat × (Nat → Int32)} {x : XS} {m : OS} {P : List PieceS}
theorem heap_get {k : Nat} {p : PieceS} (hp : P[k]? = some p) : (heap sc x m P)[2 * k + 67]? = some (pcell (i_wood p) (i_place p) (i_looked p) (i_there p) (i_known p) (2 * k + 67 + 1)) ∧ (heap sc x m P)[2 * k + 67 + 1]? = some (.inl (.int, 1080, .inl (i_num p))) := by
  obtain ⟨h1, h2⟩ := pcells_get P 67 k p hp
  refine ⟨h1, ?_⟩
  rw [show 2 * k + 67 + 1 = 2 * k + 1 + 67 by omega]
  exact h2
theorem c_C_find_bad (h8 : P.length ≤ 8) (pm u : Int32) (h : ¬ (sp_pm P.length pm ∧ (0 ≤ u ∧ u ≤ nI 2))) : MC M_C_find 2 0 0 [.ref 5, .int pm, .int u] (heap sc x m P) (some (.int (-1))) (heap sc x m P) := by
  refine mc_of k1_C_find k2_C_find (Nat.le_of_ble_eq_true rfl) ?_
  unfold heap
  repeat (refine mw_step rfl ?_)
  refine mw_div rfl (by decide) ?_
  by_cases hk : ∃ j, j < P.length ∧ pm / 10 = nI j
  · obtain ⟨k, hk, e⟩ := id hk
    have hkk : ∃ j, j < P.length ∧ pm / 10 = nI j := ⟨k, hk, e⟩
    rw [e]
    refine mw_call (c_pieceAt k h8 hk) rfl rfl (Nat.le_of_ble_eq_true rfl) (Nat.le_refl _) (Nat.le_refl _) ?_
    repeat (refine mw_step rfl ?_)
    refine mw_div rfl (by decide) ?_
    repeat (refine mw_step rfl ?_)
    refine mw_call (c_isMark _ _) rfl rfl (Nat.le_of_ble_eq_true rfl) (Nat.le_refl _) (Nat.le_refl _) ?_
    refine mw_br rfl (fun h1 => ?_) (fun h1 => ?_)
    · repeat (refine mw_step rfl ?_)
      exact mw_r1 rfl trivial (Nat.le_refl _) (Nat.le_refl _) rfl rfl
    · repeat (refine mw_step rfl ?_)
      refine mw_call (c_within _ _ _ _) rfl rfl (Nat.le_of_ble_eq_true rfl) (Nat.le_refl _) (Nat.le_refl _) ?_
      refine mw_br rfl (fun h2 => ?_) (fun h2 => ?_)
      · repeat (refine mw_step rfl ?_)
        exact mw_r1 rfl trivial (Nat.le_refl _) (Nat.le_refl _) rfl rfl
      · exact absurd ⟨⟨hkk, bI_of h1⟩, bI_of h2⟩ h
  · refine mw_call (c_pieceAt_bad _ h8 hk) rfl rfl (Nat.le_of_ble_eq_true rfl) (Nat.le_refl _) (Nat.le_refl _) ?_
    repeat (refine mw_step rfl ?_)
    refine mw_div rfl (by decide) ?_
    repeat (refine mw_step rfl ?_)
    exact mw_r1 rfl trivial (Nat.le_refl _) (Nat.le_refl _) rfl rfl
theorem c_C_find (h8 : P.length ≤ 8) (pm u : Int32) (k j : Nat) (p : PieceS) (hp : P[k]? = some p) (e1 : pm / 10 = nI k) (e2 : pm - pm / 10 * 10 = nI j) (hj : j ≤ 5) (hu : 0 ≤ u ∧ u ≤ nI 2) : MC M_C_find 2 0 0 [.ref 5, .int pm, .int u] (heap sc x m P) (some (.int (sp_found (i_looked p) (i_there p) (nI j)))) (heap sc x m (P.set k (i_wood p, i_place p, sp_lk (i_looked p) (nI j) u, sp_th (i_there p) (nI j) u, i_known p, i_num p))) := by
  have hk : k < P.length := (List.getElem?_eq_some_iff.mp hp).1
  have hi := (heap_get (sc := sc) (x := x) (m := m) hp).1
  refine mc_of k1_C_find k2_C_find (Nat.le_of_ble_eq_true rfl) ?_
  unfold heap at hi ⊢
  repeat (refine mw_step rfl ?_)
  refine mw_div rfl (by decide) ?_
  rw [show pm / 10 = nI k from e1]
  refine mw_call (c_pieceAt k h8 hk) rfl rfl (Nat.le_of_ble_eq_true rfl) (Nat.le_refl _) (Nat.le_refl _) ?_
  repeat (refine mw_step rfl ?_)
  refine mw_div rfl (by decide) ?_
  rw [show pm - pm / 10 * 10 = nI j from e2]
  repeat (refine mw_step rfl ?_)
  refine mw_call (c_isMark _ _) rfl rfl (Nat.le_of_ble_eq_true rfl) (Nat.le_refl _) (Nat.le_refl _) ?_
  refine mw_brF rfl (bI_ne (rng_in hj (by decide))) ?_
  repeat (refine mw_step rfl ?_)
  refine mw_call (c_within _ _ _ _) rfl rfl (Nat.le_of_ble_eq_true rfl) (Nat.le_refl _) (Nat.le_refl _) ?_
  refine mw_brF rfl (bI_ne hu) ?_
  repeat (refine mw_step rfl ?_)
  refine mw_callP (c_I_foundOf hi (by omega) (nI j)) rfl rfl hi (by omega) rfl (Nat.le_of_ble_eq_true rfl) (Nat.le_refl _) (Nat.le_refl _) ?_
  repeat (refine mw_step rfl ?_)
  refine mw_callP (c_I_setFound hi (by omega) (nI j) u) rfl rfl hi (by omega) rfl (Nat.le_of_ble_eq_true rfl) (Nat.le_refl _) (Nat.le_refl _) ?_
  repeat (refine mw_step rfl ?_)
  exact mw_r1 rfl trivial (Nat.le_refl _) (Nat.le_refl _) (rfl ) ( by rw [heapN_set, List.length_set, ← piece_set1 (q := (i_wood p, i_place p, sp_lk (i_looked p) (nI j) u, sp_th (i_there p) (nI j) u, i_known p, i_num p)) hp rfl])
theorem c_O_isPart {N : Nat} {tl : MH} (k : Int32) : MC M_O_isPart 1 0 0 [.ref 39, .int k] (heapN N sc x m tl) (some (.int (bI (0 ≤ k ∧ k ≤ zp_parts m - 1)))) (heapN N sc x m tl) := by
  refine mc_of k1_O_isPart k2_O_isPart (Nat.le_of_ble_eq_true rfl) ?_
  repeat (refine mw_step rfl ?_)
  refine mw_call (c_withinO32 _ k 0 (zp_parts m - 1)) rfl rfl (Nat.le_of_ble_eq_true rfl) (Nat.le_refl _) (Nat.le_refl _) ?_
  exact mw_r1 rfl bI_nar (Nat.le_refl _) (Nat.le_refl _) rfl rfl
theorem sp_pm_nn {N : Nat} {pm : Int32} (h : sp_pm N pm) (hN : N ≤ 8) : ¬ pm < 0 := by
  intro z
  obtain ⟨⟨k, hk, e⟩, h2, -⟩ := h
  rcases dm_neg pm 10 (by decide) (by decide) z with h3 | h3
  · rw [show pm / nI 10 = nI k from e] at h3
    exact nI_pos (by omega) h3
  · exact m_nlt h2 h3
theorem c_O_isPm {N n : Nat} {tl : MH} (hp : zp_parts m = nI n) (hn : n ≤ 8) (pm : Int32) [Decidable (sp_pm n pm)] : MC M_O_isPm 2 0 0 [.ref 39, .int pm] (heapN N sc x m tl) (some (.int (bI (sp_pm n pm)))) (heapN N sc x m tl) := by
  refine mc_of k1_O_isPm k2_O_isPm (Nat.le_of_ble_eq_true rfl) ?_
  repeat (refine mw_step rfl ?_)
  refine mw_br rfl (fun h0 => ?_) (fun h0 => ?_)
  · repeat (refine mw_step rfl ?_)
    exact mw_r1 rfl rfl (Nat.le_refl _) (Nat.le_refl _) (by rw [bI_f]; exact fun z => sp_pm_nn z hn h0) rfl
  · repeat (refine mw_step rfl ?_)
    refine mw_div rfl (by decide) ?_
    refine mw_call (c_O_isPart _) rfl rfl (Nat.le_of_ble_eq_true rfl) (Nat.le_refl _) (Nat.le_refl _) ?_
    refine mw_br rfl (fun h1 => ?_) (fun h1 => ?_)
    · repeat (refine mw_step rfl ?_)
      exact mw_r1 rfl rfl (Nat.le_refl _) (Nat.le_refl _) (by rw [bI_f]; rintro ⟨⟨k, hk, e⟩, -⟩; exact bI_0.mp h1 (by rw [e, hp]; exact n_predI hk (by omega))) rfl
    · repeat (refine mw_step rfl ?_)
      refine mw_div rfl (by decide) ?_
      refine mw_call (c_O_isMark _ _) rfl rfl (Nat.le_of_ble_eq_true rfl) (Nat.le_refl _) (Nat.le_refl _) ?_
      refine mw_br rfl (fun h2 => ?_) (fun h2 => ?_)
      · repeat (refine mw_step rfl ?_)
        exact mw_r1 rfl rfl (Nat.le_refl _) (Nat.le_refl _) (by rw [bI_f]; rintro ⟨-, z⟩; exact bI_0.mp h2 z) rfl
      · repeat (refine mw_step rfl ?_)
        exact mw_r1 rfl rfl (Nat.le_refl _) (Nat.le_refl _) (by rw [bI_t ⟨n_predN (by omega) (by have := bI_of h1; rw [hp] at this; exact this), bI_of h2⟩]) rfl
theorem c_O_find_bad {N n : Nat} {tl : MH} (hp : zp_parts m = nI n) (hn : n ≤ 8) (pm u : Int32) (h : ¬ (sp_pm n pm ∧ (0 ≤ u ∧ u ≤ nI 2))) : MC M_O_find 3 0 0 [.ref 39, .int pm, .int u] (heapN N sc x m tl) (some (.int (-1))) (heapN N sc x m tl) := by
  have : Decidable (sp_pm n pm) := Classical.propDecidable _
  refine mc_of k1_O_find k2_O_find (Nat.le_of_ble_eq_true rfl) ?_
  repeat (refine mw_step rfl ?_)
  refine mw_call (c_O_isPm hp hn pm) rfl rfl (Nat.le_of_ble_eq_true rfl) (Nat.le_refl _) (Nat.le_refl _) ?_
  refine mw_br rfl (fun h1 => ?_) (fun h1 => ?_)
  · repeat (refine mw_step rfl ?_)
    exact mw_r1 rfl trivial (Nat.le_refl _) (Nat.le_refl _) rfl rfl
  · repeat (refine mw_step rfl ?_)
    refine mw_call (c_withinO32 _ u 0 (nI 2)) rfl rfl (Nat.le_of_ble_eq_true rfl) (Nat.le_refl _) (Nat.le_refl _) ?_
    refine mw_br rfl (fun h2 => ?_) (fun h2 => ?_)
    · repeat (refine mw_step rfl ?_)
      exact mw_r1 rfl trivial (Nat.le_refl _) (Nat.le_refl _) rfl rfl
    · exact absurd ⟨bI_of h1, bI_of h2⟩ h
theorem c_O_find {N n : Nat} {tl : MH} (hp : zp_parts m = nI n) (hn : n ≤ 8) (pm u : Int32) (k j : Nat) (hk : k < n) (e1 : pm / 10 = nI k) (e2 : pm - pm / 10 * 10 = nI j) (hj : j ≤ 5) (hu : 0 ≤ u ∧ u ≤ nI 2) : MC M_O_find 3 0 0 [.ref 39, .int pm, .int u] (heapN N sc x m tl) (some (.int (zp_found m (6 * k + j)))) (heapN N sc x (zp_found_s m (upd (zp_found m) (6 * k + j) u)) tl) := by
  have : Decidable (sp_pm n pm) := Classical.propDecidable _
  have e3 : (6 : Int32) * (pm / 10) + (pm - pm / 10 * 10) = nI (6 * k + j) := by rw [e2, e1, show (6 : Int32) = nI 6 from rfl, pk_mul, nI_add]
  refine mc_of k1_O_find k2_O_find (Nat.le_of_ble_eq_true rfl) ?_
  repeat (refine mw_step rfl ?_)
  refine mw_call (c_O_isPm hp hn pm) rfl rfl (Nat.le_of_ble_eq_true rfl) (Nat.le_refl _) (Nat.le_refl _) ?_
  refine mw_brF rfl (bI_ne ⟨⟨k, hk, e1⟩, by rw [e2]; exact rng_in hj (by decide)⟩) ?_
  repeat (refine mw_step rfl ?_)
  refine mw_call (c_withinO32 _ u 0 (nI 2)) rfl rfl (Nat.le_of_ble_eq_true rfl) (Nat.le_refl _) (Nat.le_refl _) ?_
  refine mw_brF rfl (bI_ne hu) ?_
  repeat (refine mw_step rfl ?_)
  refine mw_div rfl (by decide) ?_
  repeat (refine mw_step rfl ?_)
  refine mw_div rfl (by decide) ?_
  repeat (refine mw_step rfl ?_)
  refine mw_ild rfl (e3) (by omega) (by decide) ?_
  repeat (refine mw_step rfl ?_)
  refine mw_ist rfl (e3) (by omega) (by decide) ?_
  repeat (refine mw_step rfl ?_)
  exact mw_r1 rfl trivial (Nat.le_refl _) (Nat.le_refl _) rfl rfl
/-- feed -/
theorem c_C_feed_bad {N : Nat} {tl : MH} (c : Int32) (h : ¬ (0 ≤ c ∧ c ≤ nI 255)) : MC M_C_feed 1 0 0 [.ref 5, .int c] (heapN N sc x m tl) (some (.int (-1))) (heapN N sc x m tl) := by
  refine mc_of k1_C_feed k2_C_feed (Nat.le_of_ble_eq_true rfl) ?_
  repeat (refine mw_step rfl ?_)
  refine mw_call (c_within _ _ _ _) rfl rfl (Nat.le_of_ble_eq_true rfl) (Nat.le_refl _) (Nat.le_refl _) ?_
  refine mw_brT rfl (bI_f h) ?_
  repeat (refine mw_step rfl ?_)
  exact mw_r1 rfl trivial (Nat.le_refl _) (Nat.le_refl _) rfl rfl
theorem c_R_take {N n : Nat} {tl : MH} (c : Int32) (hn : xR_len x = nI n) (h1 : n < 120) : MC M_R_take 0 0 0 [.ref 15, .int c] (heapN N sc x m tl) (some (.int 1)) (heapN N sc (xR_s x (upd (xR_tape x) n c, nI (n + 1), xR_code x, xR_size x, xR_at x, xR_fault x)) m tl) := by
  refine mc_of k1_R_take k2_R_take (Nat.le_of_ble_eq_true rfl) ?_
  repeat (refine mw_step rfl ?_)
  refine mw_brF rfl (by rw [hn]; exact nI_pos (by omega)) ?_
  repeat (refine mw_step rfl ?_)
  refine mw_brT rfl (by rw [hn]; exact n_lt (b := 120) h1 (by omega)) ?_
  repeat (refine mw_step rfl ?_)
  refine mw_ist rfl (hn) (by omega) (by decide) ?_
  repeat (refine mw_step rfl ?_)
  exact mw_r1 rfl rfl (Nat.le_refl _) (Nat.le_refl _) rfl (by rw [← nI_1, ← hn]; rfl)
theorem c_R_take_full {N : Nat} {tl : MH} (c : Int32) (hn : xR_len x = nI 120) : MC M_R_take 0 0 0 [.ref 15, .int c] (heapN N sc x m tl) (some (.int 0)) (heapN N sc x m tl) := by
  refine mc_of k1_R_take k2_R_take (Nat.le_of_ble_eq_true rfl) ?_
  repeat (refine mw_step rfl ?_)
  refine mw_brF rfl (by rw [hn]; decide) ?_
  repeat (refine mw_step rfl ?_)
  refine mw_brF rfl (by rw [hn]; decide) ?_
  repeat (refine mw_step rfl ?_)
  exact mw_r1 rfl rfl (Nat.le_refl _) (Nat.le_refl _) rfl rfl
theorem c_C_feed {N n : Nat} {tl : MH} (c : Int32) (h : 0 ≤ c ∧ c ≤ nI 255) (hn : xR_len x = nI n) (h1 : n < 120) : MC M_C_feed 1 0 0 [.ref 5, .int c] (heapN N sc x m tl) (some (.int (nI (n + 1)))) (heapN N sc (xR_s x (upd (xR_tape x) n c, nI (n + 1), xR_code x, xR_size x, xR_at x, xR_fault x)) m tl) := by
  refine mc_of k1_C_feed k2_C_feed (Nat.le_of_ble_eq_true rfl) ?_
  repeat (refine mw_step rfl ?_)
  refine mw_call (c_within _ _ _ _) rfl rfl (Nat.le_of_ble_eq_true rfl) (Nat.le_refl _) (Nat.le_refl _) ?_
  refine mw_brF rfl (bI_ne h) ?_
  repeat (refine mw_step rfl ?_)
  refine mw_call (c_R_take c hn h1) rfl rfl (Nat.le_of_ble_eq_true rfl) (Nat.le_refl _) (Nat.le_refl _) ?_
  refine mw_brF rfl (by decide) ?_
  repeat (refine mw_step rfl ?_)
  exact mw_r1 rfl trivial (Nat.le_refl _) (Nat.le_refl _) rfl rfl
theorem c_C_feed_full {N : Nat} {tl : MH} (c : Int32) (h : 0 ≤ c ∧ c ≤ nI 255) (hn : xR_len x = nI 120) : MC M_C_feed 1 0 0 [.ref 5, .int c] (heapN N sc x m tl) (some (.int (-3))) (heapN N sc x m tl) := by
  refine mc_of k1_C_feed k2_C_feed (Nat.le_of_ble_eq_true rfl) ?_
  repeat (refine mw_step rfl ?_)
  refine mw_call (c_within _ _ _ _) rfl rfl (Nat.le_of_ble_eq_true rfl) (Nat.le_refl _) (Nat.le_refl _) ?_
  refine mw_brF rfl (bI_ne h) ?_
  repeat (refine mw_step rfl ?_)
  refine mw_call (c_R_take_full c hn) rfl rfl (Nat.le_of_ble_eq_true rfl) (Nat.le_refl _) (Nat.le_refl _) ?_
  refine mw_brT rfl (rfl) ?_
  repeat (refine mw_step rfl ?_)
  exact mw_r1 rfl trivial (Nat.le_refl _) (Nat.le_refl _) rfl rfl
theorem c_O_feed_bad {N : Nat} {tl : MH} (c : Int32) (h : ¬ (0 ≤ c ∧ c ≤ nI 255)) : MC M_O_feed 1 0 0 [.ref 39, .int c] (heapN N sc x m tl) (some (.int (-1))) (heapN N sc x m tl) := by
  refine mc_of k1_O_feed k2_O_feed (Nat.le_of_ble_eq_true rfl) ?_
  repeat (refine mw_step rfl ?_)
  refine mw_call (c_withinO32 _ c 0 (nI 255)) rfl rfl (Nat.le_of_ble_eq_true rfl) (Nat.le_refl _) (Nat.le_refl _) ?_
  refine mw_brT rfl (bI_f h) ?_
  repeat (refine mw_step rfl ?_)
  exact mw_r1 rfl trivial (Nat.le_refl _) (Nat.le_refl _) rfl rfl
theorem c_O_feed {N n : Nat} {tl : MH} (c : Int32) (h : 0 ≤ c ∧ c ≤ nI 255) (hn : zt_tapeMany m = nI n) (h1 : n < 120) : MC M_O_feed 1 0 0 [.ref 39, .int c] (heapN N sc x m tl) (some (.int (nI (n + 1)))) (heapN N sc x (zt_s m (upd (zt_tape m) n c, nI (n + 1), zt_text m, zt_textMany m, zt_base m, zt_at m, zt_ends m, zt_fault m, zt_opened m, zt_names m)) tl) := by
  refine mc_of k1_O_feed k2_O_feed (Nat.le_of_ble_eq_true rfl) ?_
  repeat (refine mw_step rfl ?_)
  refine mw_call (c_withinO32 _ c 0 (nI 255)) rfl rfl (Nat.le_of_ble_eq_true rfl) (Nat.le_refl _) (Nat.le_refl _) ?_
  refine mw_brF rfl (bI_ne h) ?_
  repeat (refine mw_step rfl ?_)
  refine mw_brF rfl (by rw [hn]; intro e; have := (nI_eq (by omega) (b := 120) (by omega)).mp e; omega) ?_
  repeat (refine mw_step rfl ?_)
  refine mw_ist rfl (hn) (by omega) (by decide) ?_
  repeat (refine mw_step rfl ?_)
  exact mw_r1 rfl trivial (Nat.le_refl _) (Nat.le_refl _) (by rw [← nI_1, ← hn] ) ( by rw [← nI_1, ← hn]; rfl)
theorem c_O_feed_full {N : Nat} {tl : MH} (c : Int32) (h : 0 ≤ c ∧ c ≤ nI 255) (hn : zt_tapeMany m = nI 120) : MC M_O_feed 1 0 0 [.ref 39, .int c] (heapN N sc x m tl) (some (.int (-3))) (heapN N sc x m tl) := by
  refine mc_of k1_O_feed k2_O_feed (Nat.le_of_ble_eq_true rfl) ?_
  repeat (refine mw_step rfl ?_)
  refine mw_call (c_withinO32 _ c 0 (nI 255)) rfl rfl (Nat.le_of_ble_eq_true rfl) (Nat.le_refl _) (Nat.le_refl _) ?_
  refine mw_brF rfl (bI_ne h) ?_
  repeat (refine mw_step rfl ?_)
  refine mw_brT rfl (by rw [hn]; rfl) ?_
  repeat (refine mw_step rfl ?_)
  exact mw_r1 rfl trivial (Nat.le_refl _) (Nat.le_refl _) rfl rfl
end MK
