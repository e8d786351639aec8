/-! the marks' laws as code: joined, worth -/
def sp_join (s : Nat) (l r : Int32) : Int32 :=
  if s = 43 then l + r else if s = 45 then l - r else if s = 42 then l * r else if s = 47 then (if r = 0 then 0 else l / r) else if s = 37 then (if r = 0 then 0 else l - l / r * r)
  else if s = 60 then bI (l < r) else if s = 61 then bI (l = r) else if s = 62 then bI (r < l) else if s = 38 then bI (¬ l = 0 ∧ ¬ r = 0) else bI (¬ l = 0 ∨ ¬ r = 0)
def sp_isOp (s : Nat) : Prop := s = 43 ∨ s = 45 ∨ s = 42 ∨ s = 47 ∨ s = 37 ∨ s = 60 ∨ s = 61 ∨ s = 62 ∨ s = 38 ∨ s = 124
theorem c_J_min (h : MH) (a b : Int32) : MC M_J_minI 0 0 0 [.int a, .int b] h (some (.int (if b < a then b else a))) h := by
  refine mc_of k1_J_minI k2_J_minI (Nat.le_of_ble_eq_true rfl) ?_
  repeat (refine mw_step rfl ?_)
  refine mw_br rfl (fun h1 => ?_) (fun h1 => ?_)
  · repeat (refine mw_step rfl ?_)
    exact mw_r1 rfl trivial (Nat.le_refl _) (Nat.le_refl _) (by rw [if_pos h1]) rfl
  · repeat (refine mw_step rfl ?_)
    exact mw_r1 rfl trivial (Nat.le_refl _) (Nat.le_refl _) (by rw [if_neg h1]) rfl
theorem c_J_max (h : MH) (a b : Int32) : MC M_J_maxI 0 0 0 [.int a, .int b] h (some (.int (if a < b then b else a))) h := by
  refine mc_of k1_J_maxI k2_J_maxI (Nat.le_of_ble_eq_true rfl) ?_
  repeat (refine mw_step rfl ?_)
  refine mw_br rfl (fun h1 => ?_) (fun h1 => ?_)
  · repeat (refine mw_step rfl ?_)
    exact mw_r1 rfl trivial (Nat.le_refl _) (Nat.le_refl _) (by rw [if_pos h1]) rfl
  · repeat (refine mw_step rfl ?_)
    exact mw_r1 rfl trivial (Nat.le_refl _) (Nat.le_refl _) (by rw [if_neg h1]) rfl
theorem c_L_joined (h : MH) (s : Nat) (hs : sp_isOp s) (l r : Int32) : MC M_L_joined 0 0 0 [.int (nI s), .int l, .int r] h (some (.int (sp_join s l r))) h := by
  refine mc_of k1_L_joined k2_L_joined (Nat.le_of_ble_eq_true rfl) ?_
  repeat (refine mw_step rfl ?_)
  rcases hs with rfl | rfl | rfl | rfl | rfl | rfl | rfl | rfl | rfl | rfl
  · refine mw_sw (t := 120) rfl ?_
    repeat (refine mw_step rfl ?_)
    exact mw_r1 rfl trivial (Nat.le_refl _) (Nat.le_refl _) rfl rfl
  · refine mw_sw (t := 124) rfl ?_
    repeat (refine mw_step rfl ?_)
    exact mw_r1 rfl trivial (Nat.le_refl _) (Nat.le_refl _) rfl rfl
  · refine mw_sw (t := 128) rfl ?_
    repeat (refine mw_step rfl ?_)
    exact mw_r1 rfl trivial (Nat.le_refl _) (Nat.le_refl _) rfl rfl
  · refine mw_sw (t := 132) rfl ?_
    repeat (refine mw_step rfl ?_)
    refine mw_br rfl (fun h1 => ?_) (fun h1 => ?_)
    · repeat (refine mw_step rfl ?_)
      exact mw_r1 rfl trivial (Nat.le_refl _) (Nat.le_refl _) (by rw [show sp_join 47 l r = if r = 0 then 0 else l / r from rfl, if_pos h1]) rfl
    · repeat (refine mw_step rfl ?_)
      refine mw_div rfl (h1) ?_
      exact mw_r1 rfl trivial (Nat.le_refl _) (Nat.le_refl _) (by rw [show sp_join 47 l r = if r = 0 then 0 else l / r from rfl, if_neg h1]) rfl
  · refine mw_sw (t := 144) rfl ?_
    repeat (refine mw_step rfl ?_)
    refine mw_br rfl (fun h1 => ?_) (fun h1 => ?_)
    · repeat (refine mw_step rfl ?_)
      exact mw_r1 rfl trivial (Nat.le_refl _) (Nat.le_refl _) (by rw [show sp_join 37 l r = if r = 0 then 0 else l - l / r * r from rfl, if_pos h1]) rfl
    · repeat (refine mw_step rfl ?_)
      refine mw_div rfl (h1) ?_
      exact mw_r1 rfl trivial (Nat.le_refl _) (Nat.le_refl _) (by rw [show sp_join 37 l r = if r = 0 then 0 else l - l / r * r from rfl, if_neg h1]) rfl
  · refine mw_sw (t := 156) rfl ?_
    repeat (refine mw_step rfl ?_)
    refine mw_br rfl (fun h1 => ?_) (fun h1 => ?_)
    · repeat (refine mw_step rfl ?_)
      exact mw_r1 rfl trivial (Nat.le_refl _) (Nat.le_refl _) (by rw [show sp_join 60 l r = bI (l < r) from rfl, bI_t h1]) rfl
    · repeat (refine mw_step rfl ?_)
      exact mw_r1 rfl trivial (Nat.le_refl _) (Nat.le_refl _) (by rw [show sp_join 60 l r = bI (l < r) from rfl, bI_f h1]) rfl
  · refine mw_sw (t := 167) rfl ?_
    repeat (refine mw_step rfl ?_)
    refine mw_br rfl (fun h1 => ?_) (fun h1 => ?_)
    · repeat (refine mw_step rfl ?_)
      exact mw_r1 rfl trivial (Nat.le_refl _) (Nat.le_refl _) (by rw [show sp_join 61 l r = bI (l = r) from rfl, bI_t h1]) rfl
    · repeat (refine mw_step rfl ?_)
      exact mw_r1 rfl trivial (Nat.le_refl _) (Nat.le_refl _) (by rw [show sp_join 61 l r = bI (l = r) from rfl, bI_f h1]) rfl
  · refine mw_sw (t := 178) rfl ?_
    repeat (refine mw_step rfl ?_)
    refine mw_br rfl (fun h1 => ?_) (fun h1 => ?_)
    · repeat (refine mw_step rfl ?_)
      exact mw_r1 rfl trivial (Nat.le_refl _) (Nat.le_refl _) (by rw [show sp_join 62 l r = bI (r < l) from rfl, bI_t h1]) rfl
    · repeat (refine mw_step rfl ?_)
      exact mw_r1 rfl trivial (Nat.le_refl _) (Nat.le_refl _) (by rw [show sp_join 62 l r = bI (r < l) from rfl, bI_f h1]) rfl
  · refine mw_sw (t := 189) rfl ?_
    repeat (refine mw_step rfl ?_)
    refine mw_br rfl (fun h1 => ?_) (fun h1 => ?_)
    · repeat (refine mw_step rfl ?_)
      exact mw_r1 rfl trivial (Nat.le_refl _) (Nat.le_refl _) (by rw [show sp_join 38 l r = bI (¬ l = 0 ∧ ¬ r = 0) from rfl, bI_f (fun z => z.1 h1)]) rfl
    · repeat (refine mw_step rfl ?_)
      refine mw_br rfl (fun h2 => ?_) (fun h2 => ?_)
      · repeat (refine mw_step rfl ?_)
        exact mw_r1 rfl trivial (Nat.le_refl _) (Nat.le_refl _) (by rw [show sp_join 38 l r = bI (¬ l = 0 ∧ ¬ r = 0) from rfl, bI_f (fun z => z.2 h2)]) rfl
      · repeat (refine mw_step rfl ?_)
        exact mw_r1 rfl trivial (Nat.le_refl _) (Nat.le_refl _) (by rw [show sp_join 38 l r = bI (¬ l = 0 ∧ ¬ r = 0) from rfl, bI_t ⟨h1, h2⟩]) rfl
  · refine mw_sw (t := 203) rfl ?_
    repeat (refine mw_step rfl ?_)
    refine mw_br rfl (fun h1 => ?_) (fun h1 => ?_)
    · repeat (refine mw_step rfl ?_)
      refine mw_br rfl (fun h2 => ?_) (fun h2 => ?_)
      · repeat (refine mw_step rfl ?_)
        exact mw_r1 rfl trivial (Nat.le_refl _) (Nat.le_refl _) (by rw [show sp_join 124 l r = bI (¬ l = 0 ∨ ¬ r = 0) from rfl, bI_f (fun z => z.elim (fun y => y h1) (fun y => y h2))]) rfl
      · repeat (refine mw_step rfl ?_)
        exact mw_r1 rfl trivial (Nat.le_refl _) (Nat.le_refl _) (by rw [show sp_join 124 l r = bI (¬ l = 0 ∨ ¬ r = 0) from rfl, bI_t (Or.inr h2)]) rfl
    · repeat (refine mw_step rfl ?_)
      exact mw_r1 rfl trivial (Nat.le_refl _) (Nat.le_refl _) (by rw [show sp_join 124 l r = bI (¬ l = 0 ∨ ¬ r = 0) from rfl, bI_t (Or.inl h1)]) rfl
/-- what a code word may be: a number, or a sign -/
def sp_cok (c : Int32) : Prop := (∃ j : Nat, j < 10000 ∧ c = nI j) ∨ c = -59 ∨ c = -63 ∨ c = -121 ∨ c = -107 ∨ c = -119 ∨ c = -112 ∨ c = -33 ∨ c = -126 ∨ ∃ s, sp_isOp s ∧ c = -nI s
def sp_rt (top : Nat) (stk : Nat → Int32) : Int32 := if 1 ≤ top then stk (top - 1) else 0
def sp_lf (top : Nat) (stk : Nat → Int32) : Int32 := if 2 ≤ top then stk (top - 2) else 0
/-- how many are used, and what comes -/
def sp_uv (c y k w p : Int32) (top : Nat) (stk : Nat → Int32) : Nat × Int32 :=
  if c = -121 then (0, y) else if c = -107 then (0, k) else if c = -119 then (0, w) else if c = -112 then (0, p) else if c = -33 then (1, bI (sp_rt top stk = 0)) else if c = -126 then (1, -sp_rt top stk)
  else if c < 0 then (2, sp_join (-c).toNatClampNeg (sp_lf top stk) (sp_rt top stk)) else (0, c)
def sp_wk (cd : Nat → Int32) (y k w p : Int32) : Nat → Nat → Nat → Bool → (Nat → Int32) → Int32 × (Nat → Int32)
  | 0, _, top, _, stk => (sp_rt top stk, stk)
  | r + 1, at_, top, sk, stk =>
    if sk = true then sp_wk cd y k w p r (at_ + 1) top (decide (¬ cd at_ = -59)) stk
    else if cd at_ = -59 then (sp_rt top stk, stk)
    else if cd at_ = -63 then sp_wk cd y k w p r (at_ + 1) 0 (decide (sp_rt top stk = 0)) stk
    else if top - (sp_uv (cd at_) y k w p top stk).1 < 120 then sp_wk cd y k w p r (at_ + 1) (top - (sp_uv (cd at_) y k w p top stk).1 + 1) false (upd stk (top - (sp_uv (cd at_) y k w p top stk).1) (sp_uv (cd at_) y k w p top stk).2)
    else sp_wk cd y k w p r (at_ + 1) (top - (sp_uv (cd at_) y k w p top stk).1) false stk
