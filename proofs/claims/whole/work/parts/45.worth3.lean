/-! worth, as it is called -/
theorem lk_out {d x : Int} : ∀ ps : List (Int × Int), (∀ q ∈ ps, ¬ q.1 = x) → Op.lookupswitch.offset ps d x = d
  | [], _ => rfl
  | q :: r, h => by
    rw [Op.lookupswitch.offset_cons, if_neg (h q List.mem_cons_self)]
    exact lk_out r (fun q hq => h q (List.mem_cons_of_mem _ hq))
theorem m_sw_lk {M : MD} {pc : Nat} {x dflt : Int} {ps : Array (Int × Int)} {e : Nat × Nat × Nat × Nat × MethodName × Value} {t : Int} (hf : m_find pc M.2.2.2.2.2 = some (.lookupswitch dflt ps, e)) (h : ∀ q ∈ ps.toList, ¬ q.1 = x) (ht : (pc : Int) + dflt = t) : m_sw M pc x = some t := by
  unfold m_sw
  rw [hf]
  simp only [lk_out _ h, ht]
theorem n_neq {j : Nat} {c : Int32} (hj : j < 2 ^ 31) (hc : c < 0) : ¬ nI j = c := fun e => nI_pos hj (by rw [e]; exact hc)
theorem sp_uv_op {y k w p : Int32} {top : Nat} {stk : Nat → Int32} (s : Nat) (hs : sp_isOp s) : sp_uv (-nI s) y k w p top stk = (2, sp_join s (sp_lf top stk) (sp_rt top stk)) := by
  rcases hs with rfl | rfl | rfl | rfl | rfl | rfl | rfl | rfl | rfl | rfl <;> rfl
theorem sp_uv_num {y k w p : Int32} {top : Nat} {stk : Nat → Int32} (j : Nat) (hj : j < 10000) : sp_uv (nI j) y k w p top stk = (0, nI j) := by
  unfold sp_uv
  rw [if_neg (n_neq (by omega) (by decide)), if_neg (n_neq (by omega) (by decide)), if_neg (n_neq (by omega) (by decide)), if_neg (n_neq (by omega) (by decide)), if_neg (n_neq (by omega) (by decide)), if_neg (n_neq (by omega) (by decide)), if_neg (nI_pos (by omega))]
section WL
variable {N : Nat} {sc : Nat × (Nat → Int32)} {x : XS} {m : OS} {tl : MH} {mk k y w p e : Int32} {v : Option Value} {hT : MH}
theorem l_w2 (stk : Nat → Int32) (top at_ : Nat) (c : Int32) (hc : sp_cok c) (h1 : ¬ c = -59) (h2 : ¬ c = -63) (K : MW M_L_worth 2 0 0 v hT 0 0 358 (lW mk k y w p e [(7, .int (nI top)), (8, .int 0), (9, .int (nI at_)), (13, .int (nI (sp_uv c y k w p top stk).1)), (14, .int (sp_uv c y k w p top stk).2)]) [] (heapN N sc (xW_stack_s x stk) m tl)) : MW M_L_worth 2 0 0 v hT 0 0 160 (lW mk k y w p e [(7, .int (nI top)), (8, .int 0), (9, .int (nI at_)), (10, .int c), (11, .int (sp_rt top stk)), (12, .int (sp_lf top stk)), (13, .int 2), (14, .int 0)]) [] (heapN N sc (xW_stack_s x stk) m tl) := by
  repeat (refine mw_step rfl ?_)
  rcases hc with ⟨j, hj, rfl⟩ | rfl | rfl | rfl | rfl | rfl | rfl | rfl | rfl | ⟨s, hs, rfl⟩
  · refine mw_sw (t := 324) (m_sw_lk rfl (fun q hq => ?_) rfl) ?_
    · rw [nI_toInt (by omega)]
      have : q.1 < 0 := (List.all_eq_true.mp (show ([((-126 : Int), (151 : Int)), (-121, 95), (-119, 113), (-112, 123), (-107, 104), (-63, 77), (-59, 74), (-33, 133)].all fun q => decide (q.1 < 0)) = true by decide) q hq) |> of_decide_eq_true
      omega
    · rw [sp_uv_num j hj] at K
      repeat (refine mw_step rfl ?_)
      refine mw_brF rfl (nI_pos (by omega)) ?_
      repeat (refine mw_step rfl ?_)
      refine mw_brF rfl (nI_pos (by omega)) ?_
      repeat (refine mw_to 358 rfl rfl ?_)
      refine mw_pick [0, 1, 2, 3, 4, 5, 6, 7, 8, 9, 13, 14] rfl ?_
      exact K
  · exact absurd rfl h1
  · exact absurd rfl h2
  · refine mw_sw (t := 257) rfl ?_
    repeat (refine mw_to 358 rfl rfl ?_)
    refine mw_pick [0, 1, 2, 3, 4, 5, 6, 7, 8, 9, 13, 14] rfl ?_
    exact K
  · refine mw_sw (t := 266) rfl ?_
    repeat (refine mw_to 358 rfl rfl ?_)
    refine mw_pick [0, 1, 2, 3, 4, 5, 6, 7, 8, 9, 13, 14] rfl ?_
    exact K
  · refine mw_sw (t := 275) rfl ?_
    repeat (refine mw_to 358 rfl rfl ?_)
    refine mw_pick [0, 1, 2, 3, 4, 5, 6, 7, 8, 9, 13, 14] rfl ?_
    exact K
  · refine mw_sw (t := 285) rfl ?_
    repeat (refine mw_to 358 rfl rfl ?_)
    refine mw_pick [0, 1, 2, 3, 4, 5, 6, 7, 8, 9, 13, 14] rfl ?_
    exact K
  · refine mw_sw (t := 295) rfl ?_
    rw [show sp_uv (-33) y k w p top stk = (1, bI (sp_rt top stk = 0)) from rfl] at K
    repeat (refine mw_step rfl ?_)
    refine mw_br rfl (fun h3 => ?_) (fun h3 => ?_)
    · rw [bI_t h3] at K
      repeat (refine mw_to 358 rfl rfl ?_)
      refine mw_pick [0, 1, 2, 3, 4, 5, 6, 7, 8, 9, 13, 14] rfl ?_
      exact K
    · rw [bI_f h3] at K
      repeat (refine mw_to 358 rfl rfl ?_)
      refine mw_pick [0, 1, 2, 3, 4, 5, 6, 7, 8, 9, 13, 14] rfl ?_
      exact K
  · refine mw_sw (t := 313) rfl ?_
    repeat (refine mw_to 358 rfl rfl ?_)
    refine mw_pick [0, 1, 2, 3, 4, 5, 6, 7, 8, 9, 13, 14] rfl ?_
    exact K
  · rw [sp_uv_op s hs] at K
    have hlt : -nI s < 0 := by rcases hs with rfl | rfl | rfl | rfl | rfl | rfl | rfl | rfl | rfl | rfl <;> decide
    refine mw_sw (t := 324) (by rcases hs with rfl | rfl | rfl | rfl | rfl | rfl | rfl | rfl | rfl | rfl <;> rfl) ?_
    repeat (refine mw_step rfl ?_)
    refine mw_brT rfl (hlt) ?_
    repeat (refine mw_step rfl ?_)
    refine mw_brT rfl (hlt) ?_
    repeat (refine mw_step rfl ?_)
    rw [Int32.neg_neg]
    refine mw_call (c_L_joined _ s hs _ _) rfl rfl (Nat.le_of_ble_eq_true rfl) (Nat.le_refl _) (Nat.le_refl _) ?_
    repeat (refine mw_to 358 rfl rfl ?_)
    refine mw_pick [0, 1, 2, 3, 4, 5, 6, 7, 8, 9, 13, 14] rfl ?_
    exact K
theorem l_worth (b en : Nat) (hen : en ≤ 720) (hco : ∀ j, b ≤ j → j < en → sp_cok (xW_code x j)) : ∀ r at_ top sk stk, b ≤ at_ → at_ + r = en → top ≤ 120 → MW M_L_worth 2 0 0 (some (.int (sp_wk (xW_code x) y k w p r at_ top sk stk).1)) (heapN N sc (xW_stack_s x (sp_wk (xW_code x) y k w p r at_ top sk stk).2) m tl) 0 0 58 (lW mk k y w p (nI en) [(7, .int (nI top)), (8, .int (bI (sk = true))), (9, .int (nI at_))]) [] (heapN N sc (xW_stack_s x stk) m tl) := by
  intro r
  induction r with
  | zero =>
    intro at_ top sk stk hb ha ht
    rw [show at_ = en by omega]
    repeat (refine mw_step rfl ?_)
    refine mw_brF rfl (n_nlt (by omega) (by omega)) ?_
    repeat (refine mw_step rfl ?_)
    refine mw_call (c_within _ _ _ _) rfl rfl (Nat.le_of_ble_eq_true rfl) (Nat.le_refl _) (Nat.le_refl _) ?_
    by_cases h1 : 1 ≤ top
    · refine mw_brF rfl (bI_ne (show nI 1 ≤ nI top ∧ nI top ≤ nI 120 from ⟨nI_le h1 (by omega), nI_le ht (by omega)⟩)) ?_
      repeat (refine mw_step rfl ?_)
      refine mw_ild rfl (show nI top - nI 1 = nI (top - 1) from pk_sub h1) (by omega) (by decide) ?_
      repeat (refine mw_step rfl ?_)
      exact mw_r1 rfl trivial (Nat.le_refl _) (Nat.le_refl _) (by rw [sp_wk, sp_rt, if_pos h1]) rfl
    · refine mw_brT rfl (bI_f (fun z => h1 ((nI_leI (a := 1) (by omega) (by omega)).mp z.1))) ?_
      repeat (refine mw_step rfl ?_)
      exact mw_r1 rfl trivial (Nat.le_refl _) (Nat.le_refl _) (by rw [sp_wk, sp_rt, if_neg h1]) rfl
  | succ r ih =>
    intro at_ top sk stk hb ha ht
    have hc := hco at_ hb (by omega)
    repeat (refine mw_step rfl ?_)
    refine mw_brT rfl (n_lt (by omega) (by omega)) ?_
    repeat (refine mw_step rfl ?_)
    refine mw_ild rfl (rfl) (by omega) (by decide) ?_
    repeat (refine mw_step rfl ?_)
    cases sk with
    | true =>
      refine mw_brF rfl (bI_ne rfl) ?_
      repeat (refine mw_step rfl ?_)
      have L := ih (at_ + 1) top (decide (¬ xW_code x at_ = -59)) stk (by omega) (by omega) ht
      rw [sp_wk, if_pos rfl]
      refine mw_br rfl (fun h1 => ?_) (fun h1 => ?_)
      · rw [show decide (¬ xW_code x at_ = -59) = false from decide_eq_false (fun z => z h1)] at L ⊢
        repeat (refine mw_to 58 rfl rfl ?_)
        rw [nI_1]
        refine mw_pick [0, 1, 2, 3, 4, 5, 6, 7, 8, 9] rfl ?_
        exact L
      · rw [show decide (¬ xW_code x at_ = -59) = true from decide_eq_true h1] at L ⊢
        repeat (refine mw_to 58 rfl rfl ?_)
        rw [nI_1]
        refine mw_pick [0, 1, 2, 3, 4, 5, 6, 7, 8, 9] rfl ?_
        exact L
    | false =>
      refine mw_brT rfl (bI_f (show ¬ (false = true) by decide)) ?_
      rw [sp_wk, if_neg (show ¬ (false = true) by decide)]
      refine mw_pick [0, 1, 2, 3, 4, 5, 6, 7, 8, 9, 10] rfl ?_
      refine l_w1 stk top at_ ht (xW_code x at_) ?_
      by_cases h1 : xW_code x at_ = -59
      · rw [if_pos h1]
        rw [h1]
        repeat (refine mw_step rfl ?_)
        refine mw_sw (t := 236) rfl ?_
        repeat (refine mw_step rfl ?_)
        exact mw_r1 rfl trivial (Nat.le_refl _) (Nat.le_refl _) rfl rfl
      · rw [if_neg h1]
        by_cases h2 : xW_code x at_ = -63
        · rw [if_pos h2]
          have L := ih (at_ + 1) 0 (decide (sp_rt top stk = 0)) stk (by omega) (by omega) (by omega)
          rw [h2]
          repeat (refine mw_step rfl ?_)
          refine mw_sw (t := 239) rfl ?_
          repeat (refine mw_step rfl ?_)
          refine mw_br rfl (fun h3 => ?_) (fun h3 => ?_)
          · rw [show decide (sp_rt top stk = 0) = true from decide_eq_true h3] at L ⊢
            repeat (refine mw_to 58 rfl rfl ?_)
            rw [nI_1]
            refine mw_pick [0, 1, 2, 3, 4, 5, 6, 7, 8, 9] rfl ?_
            exact L
          · rw [show decide (sp_rt top stk = 0) = false from decide_eq_false h3] at L ⊢
            repeat (refine mw_to 58 rfl rfl ?_)
            rw [nI_1]
            refine mw_pick [0, 1, 2, 3, 4, 5, 6, 7, 8, 9] rfl ?_
            exact L
        · rw [if_neg h2]
          have hu : (sp_uv (xW_code x at_) y k w p top stk).1 ≤ 2 := by
            unfold sp_uv
            repeat' split
            all_goals exact Nat.le_of_ble_eq_true rfl
          refine l_w2 stk top at_ _ hc h1 h2 (l_w3 stk top at_ _ ht hu _ (fun h => ?_) (fun h => ?_))
          · rw [if_pos h]
            exact ih (at_ + 1) _ false _ (by omega) (by omega) (by omega)
          · rw [if_neg h]
            exact ih (at_ + 1) _ false _ (by omega) (by omega) (by omega)
theorem c_L_worth0 (a : Nat) (ha : a < 6) (h0 : xW_sizes x a = 0) (k y w p : Int32) : MC M_L_worth 2 0 0 [.ref 11, .int (nI a), .int k, .int y, .int w, .int p] (heapN N sc x m tl) (some (.int 50)) (heapN N sc x m tl) := by
  refine mc_of k1_L_worth k2_L_worth (Nat.le_of_ble_eq_true rfl) ?_
  repeat (refine mw_step rfl ?_)
  refine mw_brF rfl (nI_pos (by omega)) ?_
  repeat (refine mw_step rfl ?_)
  refine mw_brT rfl (n_lt (b := 6) ha (by omega)) ?_
  repeat (refine mw_step rfl ?_)
  refine mw_ild rfl (rfl) (by omega) (by decide) ?_
  rw [h0]
  refine mw_brT rfl (rfl) ?_
  repeat (refine mw_step rfl ?_)
  exact mw_r1 rfl trivial (Nat.le_refl _) (Nat.le_refl _) rfl rfl
theorem c_L_worth (a z : Nat) (ha : a < 6) (hz : xW_sizes x a = nI z) (h1 : 1 ≤ z) (h2 : z ≤ 120) (hco : ∀ j, a * 120 ≤ j → j < a * 120 + z → sp_cok (xW_code x j)) (k y w p : Int32) : MC M_L_worth 2 0 0 [.ref 11, .int (nI a), .int k, .int y, .int w, .int p] (heapN N sc x m tl) (some (.int (sp_wk (xW_code x) y k w p z (a * 120) 0 false (xW_stack x)).1)) (heapN N sc (xW_stack_s x (sp_wk (xW_code x) y k w p z (a * 120) 0 false (xW_stack x)).2) m tl) := by
  have e1 : nI a * 120 + nI z = nI (a * 120 + z) := by rw [show (120 : Int32) = nI 120 from rfl, pk_mul, nI_add]
  have e2 : nI a * 120 = nI (a * 120) := by rw [show (120 : Int32) = nI 120 from rfl, pk_mul]
  refine mc_of k1_L_worth k2_L_worth (Nat.le_of_ble_eq_true rfl) ?_
  repeat (refine mw_step rfl ?_)
  refine mw_brF rfl (nI_pos (by omega)) ?_
  repeat (refine mw_step rfl ?_)
  refine mw_brT rfl (n_lt (b := 6) ha (by omega)) ?_
  repeat (refine mw_step rfl ?_)
  refine mw_ild rfl (rfl) (by omega) (by decide) ?_
  rw [hz]
  refine mw_brF rfl (nI_ne0 (by omega) (by omega)) ?_
  repeat (refine mw_step rfl ?_)
  refine mw_ild rfl (rfl) (by omega) (by decide) ?_
  rw [hz]
  repeat (refine mw_step rfl ?_)
  refine mw_call (c_J_min _ _ _) rfl rfl (Nat.le_of_ble_eq_true rfl) (Nat.le_refl _) (Nat.le_refl _) ?_
  rw [e1, if_neg (show ¬ Int32.ofNat 720 < nI (a * 120 + z) from n_nlt (b := a * 120 + z) (a := 720) (by omega) (by omega))]
  repeat (refine mw_to 58 rfl rfl ?_)
  rw [e2]
  refine mw_pick [0, 1, 2, 3, 4, 5, 6, 7, 8, 9] rfl ?_
  exact l_worth (a * 120) (a * 120 + z) (by omega) hco z (a * 120) 0 false (xW_stack x) (Nat.le_refl _) (by omega) (by omega)
end WL
