/-! acts: the class -/
def sp_note (b : Int32) (t : (Nat → Int32) × Nat) : (Nat → Int32) × Nat := (if t.2 < 24 then upd t.1 t.2 b else t.1, t.2 + 1)
abbrev TR : Type := (Nat → Int32) × Nat
abbrev wB (x : XS) (t : TR) : XS := xB_s x (xB_kinds x, xB_many x, t.1, nI t.2)
def rA0 (nb x : Int32) (t : TR) : Int32 × TR := (x + nb, sp_note 1 t)
def rA (k : Nat) (nb x : Int32) (t : TR) : Int32 × TR := if k = 1 ∨ k = 4 ∨ k = 7 then ((rA0 nb x (sp_note 20 t)).1 + 3, (rA0 nb x (sp_note 20 t)).2) else if k = 6 then ((rA0 nb x (sp_note 70 t)).1 * 2, (rA0 nb x (sp_note 70 t)).2) else rA0 nb x t
def rJ0 (o : Nat) (nb x : Int32) (t : TR) : Int32 × TR := ((rA o nb x (sp_note 10 t)).1 * 2, (rA o nb x (sp_note 10 t)).2)
def rS0 (nb x : Int32) (t : TR) : Int32 × TR := (x ^^^ nb, sp_note 11 t)
def rS (k o : Nat) (nb x : Int32) (t : TR) : Int32 × TR := if k = 3 ∨ k = 5 then ((rS0 nb x (sp_note 40 t)).1 * 3, (rS0 nb x (sp_note 40 t)).2) else if k = 4 ∨ k = 7 then ((rS0 nb x (sp_note 50 t)).1 - (rA o nb 2 (rS0 nb x (sp_note 50 t)).2).1, (rA o nb 2 (rS0 nb x (sp_note 50 t)).2).2) else rS0 nb x t
def rJ2 (o : Nat) (nb x : Int32) (t : TR) : Int32 × TR := (-(rJ0 o nb x (sp_note 30 t)).1, (rJ0 o nb x (sp_note 30 t)).2)
def rJ (k o : Nat) (nb x : Int32) (t : TR) : Int32 × TR := if k = 3 ∨ k = 5 then rJ2 o nb (x + 1) (sp_note 41 t) else if k = 2 then rJ2 o nb x t else if k = 7 then ((rJ0 o nb x (sp_note 80 t)).1 + (rS o o nb 2 (rJ0 o nb x (sp_note 80 t)).2).1, (rS o o nb 2 (rJ0 o nb x (sp_note 80 t)).2).2) else rJ0 o nb x t
def rT0 (o : Nat) (nb x : Int32) (t : TR) : Int32 × TR := ((rJ o o nb x (sp_note 2 t)).1 - (rS o o nb 1 (rJ o o nb x (sp_note 2 t)).2).1, (rS o o nb 1 (rJ o o nb x (sp_note 2 t)).2).2)
def rT (k o : Nat) (nb x : Int32) (t : TR) : Int32 × TR := if k = 5 then ((rT0 o nb x (sp_note 60 t)).1 ^^^ 5, (rT0 o nb x (sp_note 60 t)).2) else if k = 7 then ((rT0 o nb x (sp_note 81 t)).1 - 1, (rT0 o nb x (sp_note 81 t)).2) else rT0 o nb x t
section AC
variable {sc : Nat × (Nat → Int32)} {x : XS} {m : OS} {N n b o dp : Nat} {tl : MH} {t : TR}
theorem c_B_bodyIn (k a : Nat) (h : k * 4 + a < 32) : MC M_B_bodyIn 0 0 0 [.int (nI k), .int (nI a)] (heapN N sc x m tl) (some (.int (k_own (k * 4 + a)))) (heapN N sc x m tl) := by
  have e : nI k * 4 + nI a = nI (k * 4 + a) := by rw [show (4 : Int32) = nI 4 from rfl, pk_mul, nI_add]
  refine mc_of k1_B_bodyIn k2_B_bodyIn (Nat.le_of_ble_eq_true rfl) ?_
  repeat (refine mw_step rfl ?_)
  refine mw_brF rfl (by rw [e]; exact nI_pos (by omega)) ?_
  repeat (refine mw_step rfl ?_)
  refine mw_brT rfl (by rw [e]; exact n_lt (b := 32) h (by omega)) ?_
  repeat (refine mw_step rfl ?_)
  refine mw_ild rfl (e) (by omega) (by decide) ?_
  repeat (refine mw_step rfl ?_)
  exact mw_r1 rfl trivial (Nat.le_refl _) (Nat.le_refl _) rfl rfl
theorem c_B_above (k : Nat) (h : k ≤ 7) : MC M_B_above 2 0 0 [.int (nI k)] (heapN N sc x m tl) (some (.int (k_above k))) (heapN N sc x m tl) := by
  refine mc_of k1_B_above k2_B_above (Nat.le_of_ble_eq_true rfl) ?_
  repeat (refine mw_step rfl ?_)
  refine mw_call (c_B_isBodyKind _ _) rfl rfl (Nat.le_of_ble_eq_true rfl) (Nat.le_refl _) (Nat.le_refl _) ?_
  refine mw_brF rfl (bI_ne (rng_in h (by decide))) ?_
  repeat (refine mw_step rfl ?_)
  refine mw_ild rfl (rfl) (by omega) (by decide) ?_
  repeat (refine mw_step rfl ?_)
  exact mw_r1 rfl trivial (Nat.le_refl _) (Nat.le_refl _) rfl rfl
theorem c_B_note (q : Int32) (ht : t.2 < 2 ^ 20) : MC M_B_note 0 0 0 [.ref 27, .int q] (heapN N sc (wB x t) m tl) none (heapN N sc (wB x (sp_note q t)) m tl) := by
  refine mc_of k1_B_note k2_B_note (Nat.le_of_ble_eq_true rfl) ?_
  repeat (refine mw_step rfl ?_)
  refine mw_brF rfl (nI_pos (by omega)) ?_
  repeat (refine mw_step rfl ?_)
  by_cases h : t.2 < 24
  · refine mw_brT rfl (n_lt (b := 24) h (by omega)) ?_
    repeat (refine mw_step rfl ?_)
    refine mw_ist rfl (rfl) (by omega) (by decide) ?_
    repeat (refine mw_step rfl ?_)
    exact mw_r0 rfl (Nat.le_refl _) (Nat.le_refl _) rfl (by rw [sp_note, if_pos h]; show heapN N sc (xB_s x (xB_kinds x, xB_many x, upd t.1 t.2 q, nI (t.2 + 1))) m tl = _; rw [← nI_1]; rfl)
  · refine mw_brF rfl (n_nlt (b := 24) (by omega) (by omega)) ?_
    repeat (refine mw_step rfl ?_)
    exact mw_r0 rfl (Nat.le_refl _) (Nat.le_refl _) rfl (by rw [sp_note, if_neg h]; show heapN N sc (xB_s x (xB_kinds x, xB_many x, t.1, nI (t.2 + 1))) m tl = _; rw [← nI_1]; rfl)
theorem c_B_bodyInV (k a : Nat) (v : Int32) (h : k * 4 + a < 32) (hv : k_own (k * 4 + a) = v) : MC M_B_bodyIn 0 0 0 [.int (nI k), .int (nI a)] (heapN N sc x m tl) (some (.int v)) (heapN N sc x m tl) := by
  rw [← hv]
  exact c_B_bodyIn k a h
theorem c_B_aboveV (k : Nat) (v : Int32) (h : k ≤ 7) (hv : k_above k = v) : MC M_B_above 2 0 0 [.int (nI k)] (heapN N sc x m tl) (some (.int v)) (heapN N sc x m tl) := by
  rw [← hv]
  exact c_B_above k h
theorem l_disp_0_0 {D : Nat} {v : Option Value} {hT : MH} {xx : Int32} (hn : xB_many x = nI n) (h50 : n ≤ 50) (hb : b < n) (ho : xB_kinds x b = nI o) (hd : dp ≤ 40) (ht : t.2 < 2 ^ 20) (K : MW M_B_run (D + 3) 0 0 v hT 0 0 90 [(0, .ref 27), (1, .int (nI b)), (4, .int xx), (7, .int (-1)), (8, .int (nI o)), (9, .int (nI (dp + 1))), (10, .int 1)] [.int 1] (heapN N sc (wB x (sp_note 1 t)) m tl)) : MW M_B_run (D + 3) 0 0 v hT 0 0 0 (lv_args 0 [.ref 27, .int (nI b), .int (nI 0), .int (nI 0), .int xx, .int (nI dp)]) [] (heapN N sc (wB x t) m tl) := by
  repeat (refine mw_step rfl ?_)
  refine mw_brT rfl (by decide) ?_
  repeat (refine mw_step rfl ?_)
  refine mw_brF rfl (by decide) ?_
  repeat (refine mw_step rfl ?_)
  refine mw_brF rfl (by decide) ?_
  repeat (refine mw_step rfl ?_)
  refine mw_brF rfl (n_nlt (a := 40) hd (by omega)) ?_
  repeat (refine mw_step rfl ?_)
  refine mw_call (c_B_aboveV 0 (-1) (by decide) (by decide)) rfl rfl (by omega) (Nat.le_refl _) (Nat.le_refl _) ?_
  repeat (refine mw_step rfl ?_)
  refine mw_call (c_B_kindOf (x := wB x t) b hn h50 hb) rfl rfl (by omega) (Nat.le_refl _) (Nat.le_refl _) ?_
  rw [show xB_kinds (wB x t) b = nI o from ho]
  repeat (refine mw_step rfl ?_)
  refine mw_call (c_B_bodyInV 0 0 1 (by decide) (by decide)) rfl rfl (by omega) (Nat.le_refl _) (Nat.le_refl _) ?_
  repeat (refine mw_step rfl ?_)
  refine mw_call (c_B_note (x := x) (t := t) 1 ht) rfl rfl (by omega) (Nat.le_refl _) (Nat.le_refl _) ?_
  repeat (refine mw_step rfl ?_)
  rw [nI_1]
  refine mw_pick [0, 1, 4, 7, 8, 9, 10] rfl ?_
  exact K
theorem l_disp_0_1 {D : Nat} {v : Option Value} {hT : MH} {xx : Int32} (hn : xB_many x = nI n) (h50 : n ≤ 50) (hb : b < n) (ho : xB_kinds x b = nI o) (hd : dp ≤ 40) (ht : t.2 < 2 ^ 20) (K : MW M_B_run (D + 3) 0 0 v hT 0 0 90 [(0, .ref 27), (1, .int (nI b)), (4, .int xx), (7, .int (-1)), (8, .int (nI o)), (9, .int (nI (dp + 1))), (10, .int 10)] [.int 10] (heapN N sc (wB x (sp_note 10 t)) m tl)) : MW M_B_run (D + 3) 0 0 v hT 0 0 0 (lv_args 0 [.ref 27, .int (nI b), .int (nI 0), .int (nI 1), .int xx, .int (nI dp)]) [] (heapN N sc (wB x t) m tl) := by
  repeat (refine mw_step rfl ?_)
  refine mw_brT rfl (by decide) ?_
  repeat (refine mw_step rfl ?_)
  refine mw_brF rfl (by decide) ?_
  repeat (refine mw_step rfl ?_)
  refine mw_brF rfl (by decide) ?_
  repeat (refine mw_step rfl ?_)
  refine mw_brF rfl (n_nlt (a := 40) hd (by omega)) ?_
  repeat (refine mw_step rfl ?_)
  refine mw_call (c_B_aboveV 0 (-1) (by decide) (by decide)) rfl rfl (by omega) (Nat.le_refl _) (Nat.le_refl _) ?_
  repeat (refine mw_step rfl ?_)
  refine mw_call (c_B_kindOf (x := wB x t) b hn h50 hb) rfl rfl (by omega) (Nat.le_refl _) (Nat.le_refl _) ?_
  rw [show xB_kinds (wB x t) b = nI o from ho]
  repeat (refine mw_step rfl ?_)
  refine mw_call (c_B_bodyInV 0 1 10 (by decide) (by decide)) rfl rfl (by omega) (Nat.le_refl _) (Nat.le_refl _) ?_
  repeat (refine mw_step rfl ?_)
  refine mw_call (c_B_note (x := x) (t := t) 10 ht) rfl rfl (by omega) (Nat.le_refl _) (Nat.le_refl _) ?_
  repeat (refine mw_step rfl ?_)
  rw [nI_1]
  refine mw_pick [0, 1, 4, 7, 8, 9, 10] rfl ?_
  exact K
theorem l_disp_0_2 {D : Nat} {v : Option Value} {hT : MH} {xx : Int32} (hn : xB_many x = nI n) (h50 : n ≤ 50) (hb : b < n) (ho : xB_kinds x b = nI o) (hd : dp ≤ 40) (ht : t.2 < 2 ^ 20) (K : MW M_B_run (D + 3) 0 0 v hT 0 0 90 [(0, .ref 27), (1, .int (nI b)), (4, .int xx), (7, .int (-1)), (8, .int (nI o)), (9, .int (nI (dp + 1))), (10, .int 11)] [.int 11] (heapN N sc (wB x (sp_note 11 t)) m tl)) : MW M_B_run (D + 3) 0 0 v hT 0 0 0 (lv_args 0 [.ref 27, .int (nI b), .int (nI 0), .int (nI 2), .int xx, .int (nI dp)]) [] (heapN N sc (wB x t) m tl) := by
  repeat (refine mw_step rfl ?_)
  refine mw_brT rfl (by decide) ?_
  repeat (refine mw_step rfl ?_)
  refine mw_brF rfl (by decide) ?_
  repeat (refine mw_step rfl ?_)
  refine mw_brF rfl (by decide) ?_
  repeat (refine mw_step rfl ?_)
  refine mw_brF rfl (n_nlt (a := 40) hd (by omega)) ?_
  repeat (refine mw_step rfl ?_)
  refine mw_call (c_B_aboveV 0 (-1) (by decide) (by decide)) rfl rfl (by omega) (Nat.le_refl _) (Nat.le_refl _) ?_
  repeat (refine mw_step rfl ?_)
  refine mw_call (c_B_kindOf (x := wB x t) b hn h50 hb) rfl rfl (by omega) (Nat.le_refl _) (Nat.le_refl _) ?_
  rw [show xB_kinds (wB x t) b = nI o from ho]
  repeat (refine mw_step rfl ?_)
  refine mw_call (c_B_bodyInV 0 2 11 (by decide) (by decide)) rfl rfl (by omega) (Nat.le_refl _) (Nat.le_refl _) ?_
  repeat (refine mw_step rfl ?_)
  refine mw_call (c_B_note (x := x) (t := t) 11 ht) rfl rfl (by omega) (Nat.le_refl _) (Nat.le_refl _) ?_
  repeat (refine mw_step rfl ?_)
  rw [nI_1]
  refine mw_pick [0, 1, 4, 7, 8, 9, 10] rfl ?_
  exact K
theorem l_disp_0_3 {D : Nat} {v : Option Value} {hT : MH} {xx : Int32} (hn : xB_many x = nI n) (h50 : n ≤ 50) (hb : b < n) (ho : xB_kinds x b = nI o) (hd : dp ≤ 40) (ht : t.2 < 2 ^ 20) (K : MW M_B_run (D + 3) 0 0 v hT 0 0 90 [(0, .ref 27), (1, .int (nI b)), (4, .int xx), (7, .int (-1)), (8, .int (nI o)), (9, .int (nI (dp + 1))), (10, .int 2)] [.int 2] (heapN N sc (wB x (sp_note 2 t)) m tl)) : MW M_B_run (D + 3) 0 0 v hT 0 0 0 (lv_args 0 [.ref 27, .int (nI b), .int (nI 0), .int (nI 3), .int xx, .int (nI dp)]) [] (heapN N sc (wB x t) m tl) := by
  repeat (refine mw_step rfl ?_)
  refine mw_brT rfl (by decide) ?_
  repeat (refine mw_step rfl ?_)
  refine mw_brF rfl (by decide) ?_
  repeat (refine mw_step rfl ?_)
  refine mw_brF rfl (by decide) ?_
  repeat (refine mw_step rfl ?_)
  refine mw_brF rfl (n_nlt (a := 40) hd (by omega)) ?_
  repeat (refine mw_step rfl ?_)
  refine mw_call (c_B_aboveV 0 (-1) (by decide) (by decide)) rfl rfl (by omega) (Nat.le_refl _) (Nat.le_refl _) ?_
  repeat (refine mw_step rfl ?_)
  refine mw_call (c_B_kindOf (x := wB x t) b hn h50 hb) rfl rfl (by omega) (Nat.le_refl _) (Nat.le_refl _) ?_
  rw [show xB_kinds (wB x t) b = nI o from ho]
  repeat (refine mw_step rfl ?_)
  refine mw_call (c_B_bodyInV 0 3 2 (by decide) (by decide)) rfl rfl (by omega) (Nat.le_refl _) (Nat.le_refl _) ?_
  repeat (refine mw_step rfl ?_)
  refine mw_call (c_B_note (x := x) (t := t) 2 ht) rfl rfl (by omega) (Nat.le_refl _) (Nat.le_refl _) ?_
  repeat (refine mw_step rfl ?_)
  rw [nI_1]
  refine mw_pick [0, 1, 4, 7, 8, 9, 10] rfl ?_
  exact K
theorem l_disp_1_0 {D : Nat} {v : Option Value} {hT : MH} {xx : Int32} (hn : xB_many x = nI n) (h50 : n ≤ 50) (hb : b < n) (ho : xB_kinds x b = nI o) (hd : dp ≤ 40) (ht : t.2 < 2 ^ 20) (K : MW M_B_run (D + 3) 0 0 v hT 0 0 90 [(0, .ref 27), (1, .int (nI b)), (4, .int xx), (7, .int 0), (8, .int (nI o)), (9, .int (nI (dp + 1))), (10, .int 20)] [.int 20] (heapN N sc (wB x (sp_note 20 t)) m tl)) : MW M_B_run (D + 3) 0 0 v hT 0 0 0 (lv_args 0 [.ref 27, .int (nI b), .int (nI 1), .int (nI 0), .int xx, .int (nI dp)]) [] (heapN N sc (wB x t) m tl) := by
  repeat (refine mw_step rfl ?_)
  refine mw_brT rfl (by decide) ?_
  repeat (refine mw_step rfl ?_)
  refine mw_brT rfl (by decide) ?_
  repeat (refine mw_step rfl ?_)
  refine mw_call (c_B_bodyInV 1 0 20 (by decide) (by decide)) rfl rfl (by omega) (Nat.le_refl _) (Nat.le_refl _) ?_
  refine mw_brF rfl (by decide) ?_
  repeat (refine mw_step rfl ?_)
  refine mw_brF rfl (by decide) ?_
  repeat (refine mw_step rfl ?_)
  refine mw_brF rfl (n_nlt (a := 40) hd (by omega)) ?_
  repeat (refine mw_step rfl ?_)
  refine mw_call (c_B_aboveV 1 0 (by decide) (by decide)) rfl rfl (by omega) (Nat.le_refl _) (Nat.le_refl _) ?_
  repeat (refine mw_step rfl ?_)
  refine mw_call (c_B_kindOf (x := wB x t) b hn h50 hb) rfl rfl (by omega) (Nat.le_refl _) (Nat.le_refl _) ?_
  rw [show xB_kinds (wB x t) b = nI o from ho]
  repeat (refine mw_step rfl ?_)
  refine mw_call (c_B_bodyInV 1 0 20 (by decide) (by decide)) rfl rfl (by omega) (Nat.le_refl _) (Nat.le_refl _) ?_
  repeat (refine mw_step rfl ?_)
  refine mw_call (c_B_note (x := x) (t := t) 20 ht) rfl rfl (by omega) (Nat.le_refl _) (Nat.le_refl _) ?_
  repeat (refine mw_step rfl ?_)
  rw [nI_1]
  refine mw_pick [0, 1, 4, 7, 8, 9, 10] rfl ?_
  exact K
theorem l_disp_1_1 {D : Nat} {v : Option Value} {hT : MH} {xx : Int32} (hn : xB_many x = nI n) (h50 : n ≤ 50) (hb : b < n) (ho : xB_kinds x b = nI o) (hd : dp ≤ 40) (ht : t.2 < 2 ^ 20) (K : MW M_B_run (D + 3) 0 0 v hT 0 0 90 [(0, .ref 27), (1, .int (nI b)), (4, .int xx), (7, .int (-1)), (8, .int (nI o)), (9, .int (nI (dp + 1))), (10, .int 10)] [.int 10] (heapN N sc (wB x (sp_note 10 t)) m tl)) : MW M_B_run (D + 3) 0 0 v hT 0 0 0 (lv_args 0 [.ref 27, .int (nI b), .int (nI 1), .int (nI 1), .int xx, .int (nI dp)]) [] (heapN N sc (wB x t) m tl) := by
  repeat (refine mw_step rfl ?_)
  refine mw_brT rfl (by decide) ?_
  repeat (refine mw_step rfl ?_)
  refine mw_brT rfl (by decide) ?_
  repeat (refine mw_step rfl ?_)
  refine mw_call (c_B_bodyInV 1 1 0 (by decide) (by decide)) rfl rfl (by omega) (Nat.le_refl _) (Nat.le_refl _) ?_
  refine mw_brT rfl (by decide) ?_
  repeat (refine mw_step rfl ?_)
  refine mw_call (c_B_aboveV 1 0 (by decide) (by decide)) rfl rfl (by omega) (Nat.le_refl _) (Nat.le_refl _) ?_
  repeat (refine mw_step rfl ?_)
  refine mw_brT rfl (by decide) ?_
  repeat (refine mw_step rfl ?_)
  refine mw_brF rfl (by decide) ?_
  repeat (refine mw_step rfl ?_)
  refine mw_brF rfl (by decide) ?_
  repeat (refine mw_step rfl ?_)
  refine mw_brF rfl (n_nlt (a := 40) hd (by omega)) ?_
  repeat (refine mw_step rfl ?_)
  refine mw_call (c_B_aboveV 0 (-1) (by decide) (by decide)) rfl rfl (by omega) (Nat.le_refl _) (Nat.le_refl _) ?_
  repeat (refine mw_step rfl ?_)
  refine mw_call (c_B_kindOf (x := wB x t) b hn h50 hb) rfl rfl (by omega) (Nat.le_refl _) (Nat.le_refl _) ?_
  rw [show xB_kinds (wB x t) b = nI o from ho]
  repeat (refine mw_step rfl ?_)
  refine mw_call (c_B_bodyInV 0 1 10 (by decide) (by decide)) rfl rfl (by omega) (Nat.le_refl _) (Nat.le_refl _) ?_
  repeat (refine mw_step rfl ?_)
  refine mw_call (c_B_note (x := x) (t := t) 10 ht) rfl rfl (by omega) (Nat.le_refl _) (Nat.le_refl _) ?_
  repeat (refine mw_step rfl ?_)
  rw [nI_1]
  refine mw_pick [0, 1, 4, 7, 8, 9, 10] rfl ?_
  exact K
theorem l_disp_1_2 {D : Nat} {v : Option Value} {hT : MH} {xx : Int32} (hn : xB_many x = nI n) (h50 : n ≤ 50) (hb : b < n) (ho : xB_kinds x b = nI o) (hd : dp ≤ 40) (ht : t.2 < 2 ^ 20) (K : MW M_B_run (D + 3) 0 0 v hT 0 0 90 [(0, .ref 27), (1, .int (nI b)), (4, .int xx), (7, .int (-1)), (8, .int (nI o)), (9, .int (nI (dp + 1))), (10, .int 11)] [.int 11] (heapN N sc (wB x (sp_note 11 t)) m tl)) : MW M_B_run (D + 3) 0 0 v hT 0 0 0 (lv_args 0 [.ref 27, .int (nI b), .int (nI 1), .int (nI 2), .int xx, .int (nI dp)]) [] (heapN N sc (wB x t) m tl) := by
  repeat (refine mw_step rfl ?_)
  refine mw_brT rfl (by decide) ?_
  repeat (refine mw_step rfl ?_)
  refine mw_brT rfl (by decide) ?_
  repeat (refine mw_step rfl ?_)
  refine mw_call (c_B_bodyInV 1 2 0 (by decide) (by decide)) rfl rfl (by omega) (Nat.le_refl _) (Nat.le_refl _) ?_
  refine mw_brT rfl (by decide) ?_
  repeat (refine mw_step rfl ?_)
  refine mw_call (c_B_aboveV 1 0 (by decide) (by decide)) rfl rfl (by omega) (Nat.le_refl _) (Nat.le_refl _) ?_
  repeat (refine mw_step rfl ?_)
  refine mw_brT rfl (by decide) ?_
  repeat (refine mw_step rfl ?_)
  refine mw_brF rfl (by decide) ?_
  repeat (refine mw_step rfl ?_)
  refine mw_brF rfl (by decide) ?_
  repeat (refine mw_step rfl ?_)
  refine mw_brF rfl (n_nlt (a := 40) hd (by omega)) ?_
  repeat (refine mw_step rfl ?_)
  refine mw_call (c_B_aboveV 0 (-1) (by decide) (by decide)) rfl rfl (by omega) (Nat.le_refl _) (Nat.le_refl _) ?_
  repeat (refine mw_step rfl ?_)
  refine mw_call (c_B_kindOf (x := wB x t) b hn h50 hb) rfl rfl (by omega) (Nat.le_refl _) (Nat.le_refl _) ?_
  rw [show xB_kinds (wB x t) b = nI o from ho]
  repeat (refine mw_step rfl ?_)
  refine mw_call (c_B_bodyInV 0 2 11 (by decide) (by decide)) rfl rfl (by omega) (Nat.le_refl _) (Nat.le_refl _) ?_
  repeat (refine mw_step rfl ?_)
  refine mw_call (c_B_note (x := x) (t := t) 11 ht) rfl rfl (by omega) (Nat.le_refl _) (Nat.le_refl _) ?_
  repeat (refine mw_step rfl ?_)
  rw [nI_1]
  refine mw_pick [0, 1, 4, 7, 8, 9, 10] rfl ?_
  exact K
theorem l_disp_1_3 {D : Nat} {v : Option Value} {hT : MH} {xx : Int32} (hn : xB_many x = nI n) (h50 : n ≤ 50) (hb : b < n) (ho : xB_kinds x b = nI o) (hd : dp ≤ 40) (ht : t.2 < 2 ^ 20) (K : MW M_B_run (D + 3) 0 0 v hT 0 0 90 [(0, .ref 27), (1, .int (nI b)), (4, .int xx), (7, .int (-1)), (8, .int (nI o)), (9, .int (nI (dp + 1))), (10, .int 2)] [.int 2] (heapN N sc (wB x (sp_note 2 t)) m tl)) : MW M_B_run (D + 3) 0 0 v hT 0 0 0 (lv_args 0 [.ref 27, .int (nI b), .int (nI 1), .int (nI 3), .int xx, .int (nI dp)]) [] (heapN N sc (wB x t) m tl) := by
  repeat (refine mw_step rfl ?_)
  refine mw_brT rfl (by decide) ?_
  repeat (refine mw_step rfl ?_)
  refine mw_brT rfl (by decide) ?_
  repeat (refine mw_step rfl ?_)
  refine mw_call (c_B_bodyInV 1 3 0 (by decide) (by decide)) rfl rfl (by omega) (Nat.le_refl _) (Nat.le_refl _) ?_
  refine mw_brT rfl (by decide) ?_
  repeat (refine mw_step rfl ?_)
  refine mw_call (c_B_aboveV 1 0 (by decide) (by decide)) rfl rfl (by omega) (Nat.le_refl _) (Nat.le_refl _) ?_
  repeat (refine mw_step rfl ?_)
  refine mw_brT rfl (by decide) ?_
  repeat (refine mw_step rfl ?_)
  refine mw_brF rfl (by decide) ?_
  repeat (refine mw_step rfl ?_)
  refine mw_brF rfl (by decide) ?_
  repeat (refine mw_step rfl ?_)
  refine mw_brF rfl (n_nlt (a := 40) hd (by omega)) ?_
  repeat (refine mw_step rfl ?_)
  refine mw_call (c_B_aboveV 0 (-1) (by decide) (by decide)) rfl rfl (by omega) (Nat.le_refl _) (Nat.le_refl _) ?_
  repeat (refine mw_step rfl ?_)
  refine mw_call (c_B_kindOf (x := wB x t) b hn h50 hb) rfl rfl (by omega) (Nat.le_refl _) (Nat.le_refl _) ?_
  rw [show xB_kinds (wB x t) b = nI o from ho]
  repeat (refine mw_step rfl ?_)
  refine mw_call (c_B_bodyInV 0 3 2 (by decide) (by decide)) rfl rfl (by omega) (Nat.le_refl _) (Nat.le_refl _) ?_
  repeat (refine mw_step rfl ?_)
  refine mw_call (c_B_note (x := x) (t := t) 2 ht) rfl rfl (by omega) (Nat.le_refl _) (Nat.le_refl _) ?_
  repeat (refine mw_step rfl ?_)
  rw [nI_1]
  refine mw_pick [0, 1, 4, 7, 8, 9, 10] rfl ?_
  exact K
theorem l_disp_2_0 {D : Nat} {v : Option Value} {hT : MH} {xx : Int32} (hn : xB_many x = nI n) (h50 : n ≤ 50) (hb : b < n) (ho : xB_kinds x b = nI o) (hd : dp ≤ 40) (ht : t.2 < 2 ^ 20) (K : MW M_B_run (D + 3) 0 0 v hT 0 0 90 [(0, .ref 27), (1, .int (nI b)), (4, .int xx), (7, .int (-1)), (8, .int (nI o)), (9, .int (nI (dp + 1))), (10, .int 1)] [.int 1] (heapN N sc (wB x (sp_note 1 t)) m tl)) : MW M_B_run (D + 3) 0 0 v hT 0 0 0 (lv_args 0 [.ref 27, .int (nI b), .int (nI 2), .int (nI 0), .int xx, .int (nI dp)]) [] (heapN N sc (wB x t) m tl) := by
  repeat (refine mw_step rfl ?_)
  refine mw_brT rfl (by decide) ?_
  repeat (refine mw_step rfl ?_)
  refine mw_brT rfl (by decide) ?_
  repeat (refine mw_step rfl ?_)
  refine mw_call (c_B_bodyInV 2 0 0 (by decide) (by decide)) rfl rfl (by omega) (Nat.le_refl _) (Nat.le_refl _) ?_
  refine mw_brT rfl (by decide) ?_
  repeat (refine mw_step rfl ?_)
  refine mw_call (c_B_aboveV 2 0 (by decide) (by decide)) rfl rfl (by omega) (Nat.le_refl _) (Nat.le_refl _) ?_
  repeat (refine mw_step rfl ?_)
  refine mw_brT rfl (by decide) ?_
  repeat (refine mw_step rfl ?_)
  refine mw_brF rfl (by decide) ?_
  repeat (refine mw_step rfl ?_)
  refine mw_brF rfl (by decide) ?_
  repeat (refine mw_step rfl ?_)
  refine mw_brF rfl (n_nlt (a := 40) hd (by omega)) ?_
  repeat (refine mw_step rfl ?_)
  refine mw_call (c_B_aboveV 0 (-1) (by decide) (by decide)) rfl rfl (by omega) (Nat.le_refl _) (Nat.le_refl _) ?_
  repeat (refine mw_step rfl ?_)
  refine mw_call (c_B_kindOf (x := wB x t) b hn h50 hb) rfl rfl (by omega) (Nat.le_refl _) (Nat.le_refl _) ?_
  rw [show xB_kinds (wB x t) b = nI o from ho]
  repeat (refine mw_step rfl ?_)
  refine mw_call (c_B_bodyInV 0 0 1 (by decide) (by decide)) rfl rfl (by omega) (Nat.le_refl _) (Nat.le_refl _) ?_
  repeat (refine mw_step rfl ?_)
  refine mw_call (c_B_note (x := x) (t := t) 1 ht) rfl rfl (by omega) (Nat.le_refl _) (Nat.le_refl _) ?_
  repeat (refine mw_step rfl ?_)
  rw [nI_1]
  refine mw_pick [0, 1, 4, 7, 8, 9, 10] rfl ?_
  exact K
theorem l_disp_2_1 {D : Nat} {v : Option Value} {hT : MH} {xx : Int32} (hn : xB_many x = nI n) (h50 : n ≤ 50) (hb : b < n) (ho : xB_kinds x b = nI o) (hd : dp ≤ 40) (ht : t.2 < 2 ^ 20) (K : MW M_B_run (D + 3) 0 0 v hT 0 0 90 [(0, .ref 27), (1, .int (nI b)), (4, .int xx), (7, .int 0), (8, .int (nI o)), (9, .int (nI (dp + 1))), (10, .int 30)] [.int 30] (heapN N sc (wB x (sp_note 30 t)) m tl)) : MW M_B_run (D + 3) 0 0 v hT 0 0 0 (lv_args 0 [.ref 27, .int (nI b), .int (nI 2), .int (nI 1), .int xx, .int (nI dp)]) [] (heapN N sc (wB x t) m tl) := by
  repeat (refine mw_step rfl ?_)
  refine mw_brT rfl (by decide) ?_
  repeat (refine mw_step rfl ?_)
  refine mw_brT rfl (by decide) ?_
  repeat (refine mw_step rfl ?_)
  refine mw_call (c_B_bodyInV 2 1 30 (by decide) (by decide)) rfl rfl (by omega) (Nat.le_refl _) (Nat.le_refl _) ?_
  refine mw_brF rfl (by decide) ?_
  repeat (refine mw_step rfl ?_)
  refine mw_brF rfl (by decide) ?_
  repeat (refine mw_step rfl ?_)
  refine mw_brF rfl (n_nlt (a := 40) hd (by omega)) ?_
  repeat (refine mw_step rfl ?_)
  refine mw_call (c_B_aboveV 2 0 (by decide) (by decide)) rfl rfl (by omega) (Nat.le_refl _) (Nat.le_refl _) ?_
  repeat (refine mw_step rfl ?_)
  refine mw_call (c_B_kindOf (x := wB x t) b hn h50 hb) rfl rfl (by omega) (Nat.le_refl _) (Nat.le_refl _) ?_
  rw [show xB_kinds (wB x t) b = nI o from ho]
  repeat (refine mw_step rfl ?_)
  refine mw_call (c_B_bodyInV 2 1 30 (by decide) (by decide)) rfl rfl (by omega) (Nat.le_refl _) (Nat.le_refl _) ?_
  repeat (refine mw_step rfl ?_)
  refine mw_call (c_B_note (x := x) (t := t) 30 ht) rfl rfl (by omega) (Nat.le_refl _) (Nat.le_refl _) ?_
  repeat (refine mw_step rfl ?_)
  rw [nI_1]
  refine mw_pick [0, 1, 4, 7, 8, 9, 10] rfl ?_
  exact K
theorem l_disp_2_2 {D : Nat} {v : Option Value} {hT : MH} {xx : Int32} (hn : xB_many x = nI n) (h50 : n ≤ 50) (hb : b < n) (ho : xB_kinds x b = nI o) (hd : dp ≤ 40) (ht : t.2 < 2 ^ 20) (K : MW M_B_run (D + 3) 0 0 v hT 0 0 90 [(0, .ref 27), (1, .int (nI b)), (4, .int xx), (7, .int (-1)), (8, .int (nI o)), (9, .int (nI (dp + 1))), (10, .int 11)] [.int 11] (heapN N sc (wB x (sp_note 11 t)) m tl)) : MW M_B_run (D + 3) 0 0 v hT 0 0 0 (lv_args 0 [.ref 27, .int (nI b), .int (nI 2), .int (nI 2), .int xx, .int (nI dp)]) [] (heapN N sc (wB x t) m tl) := by
  repeat (refine mw_step rfl ?_)
  refine mw_brT rfl (by decide) ?_
  repeat (refine mw_step rfl ?_)
  refine mw_brT rfl (by decide) ?_
  repeat (refine mw_step rfl ?_)
  refine mw_call (c_B_bodyInV 2 2 0 (by decide) (by decide)) rfl rfl (by omega) (Nat.le_refl _) (Nat.le_refl _) ?_
  refine mw_brT rfl (by decide) ?_
  repeat (refine mw_step rfl ?_)
  refine mw_call (c_B_aboveV 2 0 (by decide) (by decide)) rfl rfl (by omega) (Nat.le_refl _) (Nat.le_refl _) ?_
  repeat (refine mw_step rfl ?_)
  refine mw_brT rfl (by decide) ?_
  repeat (refine mw_step rfl ?_)
  refine mw_brF rfl (by decide) ?_
  repeat (refine mw_step rfl ?_)
  refine mw_brF rfl (by decide) ?_
  repeat (refine mw_step rfl ?_)
  refine mw_brF rfl (n_nlt (a := 40) hd (by omega)) ?_
  repeat (refine mw_step rfl ?_)
  refine mw_call (c_B_aboveV 0 (-1) (by decide) (by decide)) rfl rfl (by omega) (Nat.le_refl _) (Nat.le_refl _) ?_
  repeat (refine mw_step rfl ?_)
  refine mw_call (c_B_kindOf (x := wB x t) b hn h50 hb) rfl rfl (by omega) (Nat.le_refl _) (Nat.le_refl _) ?_
  rw [show xB_kinds (wB x t) b = nI o from ho]
  repeat (refine mw_step rfl ?_)
  refine mw_call (c_B_bodyInV 0 2 11 (by decide) (by decide)) rfl rfl (by omega) (Nat.le_refl _) (Nat.le_refl _) ?_
  repeat (refine mw_step rfl ?_)
  refine mw_call (c_B_note (x := x) (t := t) 11 ht) rfl rfl (by omega) (Nat.le_refl _) (Nat.le_refl _) ?_
  repeat (refine mw_step rfl ?_)
  rw [nI_1]
  refine mw_pick [0, 1, 4, 7, 8, 9, 10] rfl ?_
  exact K
theorem l_disp_2_3 {D : Nat} {v : Option Value} {hT : MH} {xx : Int32} (hn : xB_many x = nI n) (h50 : n ≤ 50) (hb : b < n) (ho : xB_kinds x b = nI o) (hd : dp ≤ 40) (ht : t.2 < 2 ^ 20) (K : MW M_B_run (D + 3) 0 0 v hT 0 0 90 [(0, .ref 27), (1, .int (nI b)), (4, .int xx), (7, .int (-1)), (8, .int (nI o)), (9, .int (nI (dp + 1))), (10, .int 2)] [.int 2] (heapN N sc (wB x (sp_note 2 t)) m tl)) : MW M_B_run (D + 3) 0 0 v hT 0 0 0 (lv_args 0 [.ref 27, .int (nI b), .int (nI 2), .int (nI 3), .int xx, .int (nI dp)]) [] (heapN N sc (wB x t) m tl) := by
  repeat (refine mw_step rfl ?_)
  refine mw_brT rfl (by decide) ?_
  repeat (refine mw_step rfl ?_)
  refine mw_brT rfl (by decide) ?_
  repeat (refine mw_step rfl ?_)
  refine mw_call (c_B_bodyInV 2 3 0 (by decide) (by decide)) rfl rfl (by omega) (Nat.le_refl _) (Nat.le_refl _) ?_
  refine mw_brT rfl (by decide) ?_
  repeat (refine mw_step rfl ?_)
  refine mw_call (c_B_aboveV 2 0 (by decide) (by decide)) rfl rfl (by omega) (Nat.le_refl _) (Nat.le_refl _) ?_
  repeat (refine mw_step rfl ?_)
  refine mw_brT rfl (by decide) ?_
  repeat (refine mw_step rfl ?_)
  refine mw_brF rfl (by decide) ?_
  repeat (refine mw_step rfl ?_)
  refine mw_brF rfl (by decide) ?_
  repeat (refine mw_step rfl ?_)
  refine mw_brF rfl (n_nlt (a := 40) hd (by omega)) ?_
  repeat (refine mw_step rfl ?_)
  refine mw_call (c_B_aboveV 0 (-1) (by decide) (by decide)) rfl rfl (by omega) (Nat.le_refl _) (Nat.le_refl _) ?_
  repeat (refine mw_step rfl ?_)
  refine mw_call (c_B_kindOf (x := wB x t) b hn h50 hb) rfl rfl (by omega) (Nat.le_refl _) (Nat.le_refl _) ?_
  rw [show xB_kinds (wB x t) b = nI o from ho]
  repeat (refine mw_step rfl ?_)
  refine mw_call (c_B_bodyInV 0 3 2 (by decide) (by decide)) rfl rfl (by omega) (Nat.le_refl _) (Nat.le_refl _) ?_
  repeat (refine mw_step rfl ?_)
  refine mw_call (c_B_note (x := x) (t := t) 2 ht) rfl rfl (by omega) (Nat.le_refl _) (Nat.le_refl _) ?_
  repeat (refine mw_step rfl ?_)
  rw [nI_1]
  refine mw_pick [0, 1, 4, 7, 8, 9, 10] rfl ?_
  exact K
theorem l_disp_3_0 {D : Nat} {v : Option Value} {hT : MH} {xx : Int32} (hn : xB_many x = nI n) (h50 : n ≤ 50) (hb : b < n) (ho : xB_kinds x b = nI o) (hd : dp ≤ 40) (ht : t.2 < 2 ^ 20) (K : MW M_B_run (D + 3) 0 0 v hT 0 0 90 [(0, .ref 27), (1, .int (nI b)), (4, .int xx), (7, .int (-1)), (8, .int (nI o)), (9, .int (nI (dp + 1))), (10, .int 1)] [.int 1] (heapN N sc (wB x (sp_note 1 t)) m tl)) : MW M_B_run (D + 3) 0 0 v hT 0 0 0 (lv_args 0 [.ref 27, .int (nI b), .int (nI 3), .int (nI 0), .int xx, .int (nI dp)]) [] (heapN N sc (wB x t) m tl) := by
  repeat (refine mw_step rfl ?_)
  refine mw_brT rfl (by decide) ?_
  repeat (refine mw_step rfl ?_)
  refine mw_brT rfl (by decide) ?_
  repeat (refine mw_step rfl ?_)
  refine mw_call (c_B_bodyInV 3 0 0 (by decide) (by decide)) rfl rfl (by omega) (Nat.le_refl _) (Nat.le_refl _) ?_
  refine mw_brT rfl (by decide) ?_
  repeat (refine mw_step rfl ?_)
  refine mw_call (c_B_aboveV 3 2 (by decide) (by decide)) rfl rfl (by omega) (Nat.le_refl _) (Nat.le_refl _) ?_
  repeat (refine mw_step rfl ?_)
  refine mw_brT rfl (by decide) ?_
  repeat (refine mw_step rfl ?_)
  refine mw_brT rfl (by decide) ?_
  repeat (refine mw_step rfl ?_)
  refine mw_call (c_B_bodyInV 2 0 0 (by decide) (by decide)) rfl rfl (by omega) (Nat.le_refl _) (Nat.le_refl _) ?_
  refine mw_brT rfl (by decide) ?_
  repeat (refine mw_step rfl ?_)
  refine mw_call (c_B_aboveV 2 0 (by decide) (by decide)) rfl rfl (by omega) (Nat.le_refl _) (Nat.le_refl _) ?_
  repeat (refine mw_step rfl ?_)
  refine mw_brT rfl (by decide) ?_
  repeat (refine mw_step rfl ?_)
  refine mw_brF rfl (by decide) ?_
  repeat (refine mw_step rfl ?_)
  refine mw_brF rfl (by decide) ?_
  repeat (refine mw_step rfl ?_)
  refine mw_brF rfl (n_nlt (a := 40) hd (by omega)) ?_
  repeat (refine mw_step rfl ?_)
  refine mw_call (c_B_aboveV 0 (-1) (by decide) (by decide)) rfl rfl (by omega) (Nat.le_refl _) (Nat.le_refl _) ?_
  repeat (refine mw_step rfl ?_)
  refine mw_call (c_B_kindOf (x := wB x t) b hn h50 hb) rfl rfl (by omega) (Nat.le_refl _) (Nat.le_refl _) ?_
  rw [show xB_kinds (wB x t) b = nI o from ho]
  repeat (refine mw_step rfl ?_)
  refine mw_call (c_B_bodyInV 0 0 1 (by decide) (by decide)) rfl rfl (by omega) (Nat.le_refl _) (Nat.le_refl _) ?_
  repeat (refine mw_step rfl ?_)
  refine mw_call (c_B_note (x := x) (t := t) 1 ht) rfl rfl (by omega) (Nat.le_refl _) (Nat.le_refl _) ?_
  repeat (refine mw_step rfl ?_)
  rw [nI_1]
  refine mw_pick [0, 1, 4, 7, 8, 9, 10] rfl ?_
  exact K
theorem l_disp_3_1 {D : Nat} {v : Option Value} {hT : MH} {xx : Int32} (hn : xB_many x = nI n) (h50 : n ≤ 50) (hb : b < n) (ho : xB_kinds x b = nI o) (hd : dp ≤ 40) (ht : t.2 < 2 ^ 20) (K : MW M_B_run (D + 3) 0 0 v hT 0 0 90 [(0, .ref 27), (1, .int (nI b)), (4, .int xx), (7, .int 2), (8, .int (nI o)), (9, .int (nI (dp + 1))), (10, .int 41)] [.int 41] (heapN N sc (wB x (sp_note 41 t)) m tl)) : MW M_B_run (D + 3) 0 0 v hT 0 0 0 (lv_args 0 [.ref 27, .int (nI b), .int (nI 3), .int (nI 1), .int xx, .int (nI dp)]) [] (heapN N sc (wB x t) m tl) := by
  repeat (refine mw_step rfl ?_)
  refine mw_brT rfl (by decide) ?_
  repeat (refine mw_step rfl ?_)
  refine mw_brT rfl (by decide) ?_
  repeat (refine mw_step rfl ?_)
  refine mw_call (c_B_bodyInV 3 1 41 (by decide) (by decide)) rfl rfl (by omega) (Nat.le_refl _) (Nat.le_refl _) ?_
  refine mw_brF rfl (by decide) ?_
  repeat (refine mw_step rfl ?_)
  refine mw_brF rfl (by decide) ?_
  repeat (refine mw_step rfl ?_)
  refine mw_brF rfl (n_nlt (a := 40) hd (by omega)) ?_
  repeat (refine mw_step rfl ?_)
  refine mw_call (c_B_aboveV 3 2 (by decide) (by decide)) rfl rfl (by omega) (Nat.le_refl _) (Nat.le_refl _) ?_
  repeat (refine mw_step rfl ?_)
  refine mw_call (c_B_kindOf (x := wB x t) b hn h50 hb) rfl rfl (by omega) (Nat.le_refl _) (Nat.le_refl _) ?_
  rw [show xB_kinds (wB x t) b = nI o from ho]
  repeat (refine mw_step rfl ?_)
  refine mw_call (c_B_bodyInV 3 1 41 (by decide) (by decide)) rfl rfl (by omega) (Nat.le_refl _) (Nat.le_refl _) ?_
  repeat (refine mw_step rfl ?_)
  refine mw_call (c_B_note (x := x) (t := t) 41 ht) rfl rfl (by omega) (Nat.le_refl _) (Nat.le_refl _) ?_
  repeat (refine mw_step rfl ?_)
  rw [nI_1]
  refine mw_pick [0, 1, 4, 7, 8, 9, 10] rfl ?_
  exact K
theorem l_disp_3_2 {D : Nat} {v : Option Value} {hT : MH} {xx : Int32} (hn : xB_many x = nI n) (h50 : n ≤ 50) (hb : b < n) (ho : xB_kinds x b = nI o) (hd : dp ≤ 40) (ht : t.2 < 2 ^ 20) (K : MW M_B_run (D + 3) 0 0 v hT 0 0 90 [(0, .ref 27), (1, .int (nI b)), (4, .int xx), (7, .int 2), (8, .int (nI o)), (9, .int (nI (dp + 1))), (10, .int 40)] [.int 40] (heapN N sc (wB x (sp_note 40 t)) m tl)) : MW M_B_run (D + 3) 0 0 v hT 0 0 0 (lv_args 0 [.ref 27, .int (nI b), .int (nI 3), .int (nI 2), .int xx, .int (nI dp)]) [] (heapN N sc (wB x t) m tl) := by
  repeat (refine mw_step rfl ?_)
  refine mw_brT rfl (by decide) ?_
  repeat (refine mw_step rfl ?_)
  refine mw_brT rfl (by decide) ?_
  repeat (refine mw_step rfl ?_)
  refine mw_call (c_B_bodyInV 3 2 40 (by decide) (by decide)) rfl rfl (by omega) (Nat.le_refl _) (Nat.le_refl _) ?_
  refine mw_brF rfl (by decide) ?_
  repeat (refine mw_step rfl ?_)
  refine mw_brF rfl (by decide) ?_
  repeat (refine mw_step rfl ?_)
  refine mw_brF rfl (n_nlt (a := 40) hd (by omega)) ?_
  repeat (refine mw_step rfl ?_)
  refine mw_call (c_B_aboveV 3 2 (by decide) (by decide)) rfl rfl (by omega) (Nat.le_refl _) (Nat.le_refl _) ?_
  repeat (refine mw_step rfl ?_)
  refine mw_call (c_B_kindOf (x := wB x t) b hn h50 hb) rfl rfl (by omega) (Nat.le_refl _) (Nat.le_refl _) ?_
  rw [show xB_kinds (wB x t) b = nI o from ho]
  repeat (refine mw_step rfl ?_)
  refine mw_call (c_B_bodyInV 3 2 40 (by decide) (by decide)) rfl rfl (by omega) (Nat.le_refl _) (Nat.le_refl _) ?_
  repeat (refine mw_step rfl ?_)
  refine mw_call (c_B_note (x := x) (t := t) 40 ht) rfl rfl (by omega) (Nat.le_refl _) (Nat.le_refl _) ?_
  repeat (refine mw_step rfl ?_)
  rw [nI_1]
  refine mw_pick [0, 1, 4, 7, 8, 9, 10] rfl ?_
  exact K
theorem l_disp_3_3 {D : Nat} {v : Option Value} {hT : MH} {xx : Int32} (hn : xB_many x = nI n) (h50 : n ≤ 50) (hb : b < n) (ho : xB_kinds x b = nI o) (hd : dp ≤ 40) (ht : t.2 < 2 ^ 20) (K : MW M_B_run (D + 3) 0 0 v hT 0 0 90 [(0, .ref 27), (1, .int (nI b)), (4, .int xx), (7, .int (-1)), (8, .int (nI o)), (9, .int (nI (dp + 1))), (10, .int 2)] [.int 2] (heapN N sc (wB x (sp_note 2 t)) m tl)) : MW M_B_run (D + 3) 0 0 v hT 0 0 0 (lv_args 0 [.ref 27, .int (nI b), .int (nI 3), .int (nI 3), .int xx, .int (nI dp)]) [] (heapN N sc (wB x t) m tl) := by
  repeat (refine mw_step rfl ?_)
  refine mw_brT rfl (by decide) ?_
  repeat (refine mw_step rfl ?_)
  refine mw_brT rfl (by decide) ?_
  repeat (refine mw_step rfl ?_)
  refine mw_call (c_B_bodyInV 3 3 0 (by decide) (by decide)) rfl rfl (by omega) (Nat.le_refl _) (Nat.le_refl _) ?_
  refine mw_brT rfl (by decide) ?_
  repeat (refine mw_step rfl ?_)
  refine mw_call (c_B_aboveV 3 2 (by decide) (by decide)) rfl rfl (by omega) (Nat.le_refl _) (Nat.le_refl _) ?_
  repeat (refine mw_step rfl ?_)
  refine mw_brT rfl (by decide) ?_
  repeat (refine mw_step rfl ?_)
  refine mw_brT rfl (by decide) ?_
  repeat (refine mw_step rfl ?_)
  refine mw_call (c_B_bodyInV 2 3 0 (by decide) (by decide)) rfl rfl (by omega) (Nat.le_refl _) (Nat.le_refl _) ?_
  refine mw_brT rfl (by decide) ?_
  repeat (refine mw_step rfl ?_)
  refine mw_call (c_B_aboveV 2 0 (by decide) (by decide)) rfl rfl (by omega) (Nat.le_refl _) (Nat.le_refl _) ?_
  repeat (refine mw_step rfl ?_)
  refine mw_brT rfl (by decide) ?_
  repeat (refine mw_step rfl ?_)
  refine mw_brF rfl (by decide) ?_
  repeat (refine mw_step rfl ?_)
  refine mw_brF rfl (by decide) ?_
  repeat (refine mw_step rfl ?_)
  refine mw_brF rfl (n_nlt (a := 40) hd (by omega)) ?_
  repeat (refine mw_step rfl ?_)
  refine mw_call (c_B_aboveV 0 (-1) (by decide) (by decide)) rfl rfl (by omega) (Nat.le_refl _) (Nat.le_refl _) ?_
  repeat (refine mw_step rfl ?_)
  refine mw_call (c_B_kindOf (x := wB x t) b hn h50 hb) rfl rfl (by omega) (Nat.le_refl _) (Nat.le_refl _) ?_
  rw [show xB_kinds (wB x t) b = nI o from ho]
  repeat (refine mw_step rfl ?_)
  refine mw_call (c_B_bodyInV 0 3 2 (by decide) (by decide)) rfl rfl (by omega) (Nat.le_refl _) (Nat.le_refl _) ?_
  repeat (refine mw_step rfl ?_)
  refine mw_call (c_B_note (x := x) (t := t) 2 ht) rfl rfl (by omega) (Nat.le_refl _) (Nat.le_refl _) ?_
  repeat (refine mw_step rfl ?_)
  rw [nI_1]
  refine mw_pick [0, 1, 4, 7, 8, 9, 10] rfl ?_
  exact K
theorem l_disp_4_0 {D : Nat} {v : Option Value} {hT : MH} {xx : Int32} (hn : xB_many x = nI n) (h50 : n ≤ 50) (hb : b < n) (ho : xB_kinds x b = nI o) (hd : dp ≤ 40) (ht : t.2 < 2 ^ 20) (K : MW M_B_run (D + 3) 0 0 v hT 0 0 90 [(0, .ref 27), (1, .int (nI b)), (4, .int xx), (7, .int 0), (8, .int (nI o)), (9, .int (nI (dp + 1))), (10, .int 20)] [.int 20] (heapN N sc (wB x (sp_note 20 t)) m tl)) : MW M_B_run (D + 3) 0 0 v hT 0 0 0 (lv_args 0 [.ref 27, .int (nI b), .int (nI 4), .int (nI 0), .int xx, .int (nI dp)]) [] (heapN N sc (wB x t) m tl) := by
  repeat (refine mw_step rfl ?_)
  refine mw_brT rfl (by decide) ?_
  repeat (refine mw_step rfl ?_)
  refine mw_brT rfl (by decide) ?_
  repeat (refine mw_step rfl ?_)
  refine mw_call (c_B_bodyInV 4 0 0 (by decide) (by decide)) rfl rfl (by omega) (Nat.le_refl _) (Nat.le_refl _) ?_
  refine mw_brT rfl (by decide) ?_
  repeat (refine mw_step rfl ?_)
  refine mw_call (c_B_aboveV 4 1 (by decide) (by decide)) rfl rfl (by omega) (Nat.le_refl _) (Nat.le_refl _) ?_
  repeat (refine mw_step rfl ?_)
  refine mw_brT rfl (by decide) ?_
  repeat (refine mw_step rfl ?_)
  refine mw_brT rfl (by decide) ?_
  repeat (refine mw_step rfl ?_)
  refine mw_call (c_B_bodyInV 1 0 20 (by decide) (by decide)) rfl rfl (by omega) (Nat.le_refl _) (Nat.le_refl _) ?_
  refine mw_brF rfl (by decide) ?_
  repeat (refine mw_step rfl ?_)
  refine mw_brF rfl (by decide) ?_
  repeat (refine mw_step rfl ?_)
  refine mw_brF rfl (n_nlt (a := 40) hd (by omega)) ?_
  repeat (refine mw_step rfl ?_)
  refine mw_call (c_B_aboveV 1 0 (by decide) (by decide)) rfl rfl (by omega) (Nat.le_refl _) (Nat.le_refl _) ?_
  repeat (refine mw_step rfl ?_)
  refine mw_call (c_B_kindOf (x := wB x t) b hn h50 hb) rfl rfl (by omega) (Nat.le_refl _) (Nat.le_refl _) ?_
  rw [show xB_kinds (wB x t) b = nI o from ho]
  repeat (refine mw_step rfl ?_)
  refine mw_call (c_B_bodyInV 1 0 20 (by decide) (by decide)) rfl rfl (by omega) (Nat.le_refl _) (Nat.le_refl _) ?_
  repeat (refine mw_step rfl ?_)
  refine mw_call (c_B_note (x := x) (t := t) 20 ht) rfl rfl (by omega) (Nat.le_refl _) (Nat.le_refl _) ?_
  repeat (refine mw_step rfl ?_)
  rw [nI_1]
  refine mw_pick [0, 1, 4, 7, 8, 9, 10] rfl ?_
  exact K
theorem l_disp_4_1 {D : Nat} {v : Option Value} {hT : MH} {xx : Int32} (hn : xB_many x = nI n) (h50 : n ≤ 50) (hb : b < n) (ho : xB_kinds x b = nI o) (hd : dp ≤ 40) (ht : t.2 < 2 ^ 20) (K : MW M_B_run (D + 3) 0 0 v hT 0 0 90 [(0, .ref 27), (1, .int (nI b)), (4, .int xx), (7, .int (-1)), (8, .int (nI o)), (9, .int (nI (dp + 1))), (10, .int 10)] [.int 10] (heapN N sc (wB x (sp_note 10 t)) m tl)) : MW M_B_run (D + 3) 0 0 v hT 0 0 0 (lv_args 0 [.ref 27, .int (nI b), .int (nI 4), .int (nI 1), .int xx, .int (nI dp)]) [] (heapN N sc (wB x t) m tl) := by
  repeat (refine mw_step rfl ?_)
  refine mw_brT rfl (by decide) ?_
  repeat (refine mw_step rfl ?_)
  refine mw_brT rfl (by decide) ?_
  repeat (refine mw_step rfl ?_)
  refine mw_call (c_B_bodyInV 4 1 0 (by decide) (by decide)) rfl rfl (by omega) (Nat.le_refl _) (Nat.le_refl _) ?_
  refine mw_brT rfl (by decide) ?_
  repeat (refine mw_step rfl ?_)
  refine mw_call (c_B_aboveV 4 1 (by decide) (by decide)) rfl rfl (by omega) (Nat.le_refl _) (Nat.le_refl _) ?_
  repeat (refine mw_step rfl ?_)
  refine mw_brT rfl (by decide) ?_
  repeat (refine mw_step rfl ?_)
  refine mw_brT rfl (by decide) ?_
  repeat (refine mw_step rfl ?_)
  refine mw_call (c_B_bodyInV 1 1 0 (by decide) (by decide)) rfl rfl (by omega) (Nat.le_refl _) (Nat.le_refl _) ?_
  refine mw_brT rfl (by decide) ?_
  repeat (refine mw_step rfl ?_)
  refine mw_call (c_B_aboveV 1 0 (by decide) (by decide)) rfl rfl (by omega) (Nat.le_refl _) (Nat.le_refl _) ?_
  repeat (refine mw_step rfl ?_)
  refine mw_brT rfl (by decide) ?_
  repeat (refine mw_step rfl ?_)
  refine mw_brF rfl (by decide) ?_
  repeat (refine mw_step rfl ?_)
  refine mw_brF rfl (by decide) ?_
  repeat (refine mw_step rfl ?_)
  refine mw_brF rfl (n_nlt (a := 40) hd (by omega)) ?_
  repeat (refine mw_step rfl ?_)
  refine mw_call (c_B_aboveV 0 (-1) (by decide) (by decide)) rfl rfl (by omega) (Nat.le_refl _) (Nat.le_refl _) ?_
  repeat (refine mw_step rfl ?_)
  refine mw_call (c_B_kindOf (x := wB x t) b hn h50 hb) rfl rfl (by omega) (Nat.le_refl _) (Nat.le_refl _) ?_
  rw [show xB_kinds (wB x t) b = nI o from ho]
  repeat (refine mw_step rfl ?_)
  refine mw_call (c_B_bodyInV 0 1 10 (by decide) (by decide)) rfl rfl (by omega) (Nat.le_refl _) (Nat.le_refl _) ?_
  repeat (refine mw_step rfl ?_)
  refine mw_call (c_B_note (x := x) (t := t) 10 ht) rfl rfl (by omega) (Nat.le_refl _) (Nat.le_refl _) ?_
  repeat (refine mw_step rfl ?_)
  rw [nI_1]
  refine mw_pick [0, 1, 4, 7, 8, 9, 10] rfl ?_
  exact K
theorem l_disp_4_2 {D : Nat} {v : Option Value} {hT : MH} {xx : Int32} (hn : xB_many x = nI n) (h50 : n ≤ 50) (hb : b < n) (ho : xB_kinds x b = nI o) (hd : dp ≤ 40) (ht : t.2 < 2 ^ 20) (K : MW M_B_run (D + 3) 0 0 v hT 0 0 90 [(0, .ref 27), (1, .int (nI b)), (4, .int xx), (7, .int 1), (8, .int (nI o)), (9, .int (nI (dp + 1))), (10, .int 50)] [.int 50] (heapN N sc (wB x (sp_note 50 t)) m tl)) : MW M_B_run (D + 3) 0 0 v hT 0 0 0 (lv_args 0 [.ref 27, .int (nI b), .int (nI 4), .int (nI 2), .int xx, .int (nI dp)]) [] (heapN N sc (wB x t) m tl) := by
  repeat (refine mw_step rfl ?_)
  refine mw_brT rfl (by decide) ?_
  repeat (refine mw_step rfl ?_)
  refine mw_brT rfl (by decide) ?_
  repeat (refine mw_step rfl ?_)
  refine mw_call (c_B_bodyInV 4 2 50 (by decide) (by decide)) rfl rfl (by omega) (Nat.le_refl _) (Nat.le_refl _) ?_
  refine mw_brF rfl (by decide) ?_
  repeat (refine mw_step rfl ?_)
  refine mw_brF rfl (by decide) ?_
  repeat (refine mw_step rfl ?_)
  refine mw_brF rfl (n_nlt (a := 40) hd (by omega)) ?_
  repeat (refine mw_step rfl ?_)
  refine mw_call (c_B_aboveV 4 1 (by decide) (by decide)) rfl rfl (by omega) (Nat.le_refl _) (Nat.le_refl _) ?_
  repeat (refine mw_step rfl ?_)
  refine mw_call (c_B_kindOf (x := wB x t) b hn h50 hb) rfl rfl (by omega) (Nat.le_refl _) (Nat.le_refl _) ?_
  rw [show xB_kinds (wB x t) b = nI o from ho]
  repeat (refine mw_step rfl ?_)
  refine mw_call (c_B_bodyInV 4 2 50 (by decide) (by decide)) rfl rfl (by omega) (Nat.le_refl _) (Nat.le_refl _) ?_
  repeat (refine mw_step rfl ?_)
  refine mw_call (c_B_note (x := x) (t := t) 50 ht) rfl rfl (by omega) (Nat.le_refl _) (Nat.le_refl _) ?_
  repeat (refine mw_step rfl ?_)
  rw [nI_1]
  refine mw_pick [0, 1, 4, 7, 8, 9, 10] rfl ?_
  exact K
theorem l_disp_4_3 {D : Nat} {v : Option Value} {hT : MH} {xx : Int32} (hn : xB_many x = nI n) (h50 : n ≤ 50) (hb : b < n) (ho : xB_kinds x b = nI o) (hd : dp ≤ 40) (ht : t.2 < 2 ^ 20) (K : MW M_B_run (D + 3) 0 0 v hT 0 0 90 [(0, .ref 27), (1, .int (nI b)), (4, .int xx), (7, .int (-1)), (8, .int (nI o)), (9, .int (nI (dp + 1))), (10, .int 2)] [.int 2] (heapN N sc (wB x (sp_note 2 t)) m tl)) : MW M_B_run (D + 3) 0 0 v hT 0 0 0 (lv_args 0 [.ref 27, .int (nI b), .int (nI 4), .int (nI 3), .int xx, .int (nI dp)]) [] (heapN N sc (wB x t) m tl) := by
  repeat (refine mw_step rfl ?_)
  refine mw_brT rfl (by decide) ?_
  repeat (refine mw_step rfl ?_)
  refine mw_brT rfl (by decide) ?_
  repeat (refine mw_step rfl ?_)
  refine mw_call (c_B_bodyInV 4 3 0 (by decide) (by decide)) rfl rfl (by omega) (Nat.le_refl _) (Nat.le_refl _) ?_
  refine mw_brT rfl (by decide) ?_
  repeat (refine mw_step rfl ?_)
  refine mw_call (c_B_aboveV 4 1 (by decide) (by decide)) rfl rfl (by omega) (Nat.le_refl _) (Nat.le_refl _) ?_
  repeat (refine mw_step rfl ?_)
  refine mw_brT rfl (by decide) ?_
  repeat (refine mw_step rfl ?_)
  refine mw_brT rfl (by decide) ?_
  repeat (refine mw_step rfl ?_)
  refine mw_call (c_B_bodyInV 1 3 0 (by decide) (by decide)) rfl rfl (by omega) (Nat.le_refl _) (Nat.le_refl _) ?_
  refine mw_brT rfl (by decide) ?_
  repeat (refine mw_step rfl ?_)
  refine mw_call (c_B_aboveV 1 0 (by decide) (by decide)) rfl rfl (by omega) (Nat.le_refl _) (Nat.le_refl _) ?_
  repeat (refine mw_step rfl ?_)
  refine mw_brT rfl (by decide) ?_
  repeat (refine mw_step rfl ?_)
  refine mw_brF rfl (by decide) ?_
  repeat (refine mw_step rfl ?_)
  refine mw_brF rfl (by decide) ?_
  repeat (refine mw_step rfl ?_)
  refine mw_brF rfl (n_nlt (a := 40) hd (by omega)) ?_
  repeat (refine mw_step rfl ?_)
  refine mw_call (c_B_aboveV 0 (-1) (by decide) (by decide)) rfl rfl (by omega) (Nat.le_refl _) (Nat.le_refl _) ?_
  repeat (refine mw_step rfl ?_)
  refine mw_call (c_B_kindOf (x := wB x t) b hn h50 hb) rfl rfl (by omega) (Nat.le_refl _) (Nat.le_refl _) ?_
  rw [show xB_kinds (wB x t) b = nI o from ho]
  repeat (refine mw_step rfl ?_)
  refine mw_call (c_B_bodyInV 0 3 2 (by decide) (by decide)) rfl rfl (by omega) (Nat.le_refl _) (Nat.le_refl _) ?_
  repeat (refine mw_step rfl ?_)
  refine mw_call (c_B_note (x := x) (t := t) 2 ht) rfl rfl (by omega) (Nat.le_refl _) (Nat.le_refl _) ?_
  repeat (refine mw_step rfl ?_)
  rw [nI_1]
  refine mw_pick [0, 1, 4, 7, 8, 9, 10] rfl ?_
  exact K
theorem l_disp_5_0 {D : Nat} {v : Option Value} {hT : MH} {xx : Int32} (hn : xB_many x = nI n) (h50 : n ≤ 50) (hb : b < n) (ho : xB_kinds x b = nI o) (hd : dp ≤ 40) (ht : t.2 < 2 ^ 20) (K : MW M_B_run (D + 3) 0 0 v hT 0 0 90 [(0, .ref 27), (1, .int (nI b)), (4, .int xx), (7, .int (-1)), (8, .int (nI o)), (9, .int (nI (dp + 1))), (10, .int 1)] [.int 1] (heapN N sc (wB x (sp_note 1 t)) m tl)) : MW M_B_run (D + 3) 0 0 v hT 0 0 0 (lv_args 0 [.ref 27, .int (nI b), .int (nI 5), .int (nI 0), .int xx, .int (nI dp)]) [] (heapN N sc (wB x t) m tl) := by
  repeat (refine mw_step rfl ?_)
  refine mw_brT rfl (by decide) ?_
  repeat (refine mw_step rfl ?_)
  refine mw_brT rfl (by decide) ?_
  repeat (refine mw_step rfl ?_)
  refine mw_call (c_B_bodyInV 5 0 0 (by decide) (by decide)) rfl rfl (by omega) (Nat.le_refl _) (Nat.le_refl _) ?_
  refine mw_brT rfl (by decide) ?_
  repeat (refine mw_step rfl ?_)
  refine mw_call (c_B_aboveV 5 3 (by decide) (by decide)) rfl rfl (by omega) (Nat.le_refl _) (Nat.le_refl _) ?_
  repeat (refine mw_step rfl ?_)
  refine mw_brT rfl (by decide) ?_
  repeat (refine mw_step rfl ?_)
  refine mw_brT rfl (by decide) ?_
  repeat (refine mw_step rfl ?_)
  refine mw_call (c_B_bodyInV 3 0 0 (by decide) (by decide)) rfl rfl (by omega) (Nat.le_refl _) (Nat.le_refl _) ?_
  refine mw_brT rfl (by decide) ?_
  repeat (refine mw_step rfl ?_)
  refine mw_call (c_B_aboveV 3 2 (by decide) (by decide)) rfl rfl (by omega) (Nat.le_refl _) (Nat.le_refl _) ?_
  repeat (refine mw_step rfl ?_)
  refine mw_brT rfl (by decide) ?_
  repeat (refine mw_step rfl ?_)
  refine mw_brT rfl (by decide) ?_
  repeat (refine mw_step rfl ?_)
  refine mw_call (c_B_bodyInV 2 0 0 (by decide) (by decide)) rfl rfl (by omega) (Nat.le_refl _) (Nat.le_refl _) ?_
  refine mw_brT rfl (by decide) ?_
  repeat (refine mw_step rfl ?_)
  refine mw_call (c_B_aboveV 2 0 (by decide) (by decide)) rfl rfl (by omega) (Nat.le_refl _) (Nat.le_refl _) ?_
  repeat (refine mw_step rfl ?_)
  refine mw_brT rfl (by decide) ?_
  repeat (refine mw_step rfl ?_)
  refine mw_brF rfl (by decide) ?_
  repeat (refine mw_step rfl ?_)
  refine mw_brF rfl (by decide) ?_
  repeat (refine mw_step rfl ?_)
  refine mw_brF rfl (n_nlt (a := 40) hd (by omega)) ?_
  repeat (refine mw_step rfl ?_)
  refine mw_call (c_B_aboveV 0 (-1) (by decide) (by decide)) rfl rfl (by omega) (Nat.le_refl _) (Nat.le_refl _) ?_
  repeat (refine mw_step rfl ?_)
  refine mw_call (c_B_kindOf (x := wB x t) b hn h50 hb) rfl rfl (by omega) (Nat.le_refl _) (Nat.le_refl _) ?_
  rw [show xB_kinds (wB x t) b = nI o from ho]
  repeat (refine mw_step rfl ?_)
  refine mw_call (c_B_bodyInV 0 0 1 (by decide) (by decide)) rfl rfl (by omega) (Nat.le_refl _) (Nat.le_refl _) ?_
  repeat (refine mw_step rfl ?_)
  refine mw_call (c_B_note (x := x) (t := t) 1 ht) rfl rfl (by omega) (Nat.le_refl _) (Nat.le_refl _) ?_
  repeat (refine mw_step rfl ?_)
  rw [nI_1]
  refine mw_pick [0, 1, 4, 7, 8, 9, 10] rfl ?_
  exact K
theorem l_disp_5_1 {D : Nat} {v : Option Value} {hT : MH} {xx : Int32} (hn : xB_many x = nI n) (h50 : n ≤ 50) (hb : b < n) (ho : xB_kinds x b = nI o) (hd : dp ≤ 40) (ht : t.2 < 2 ^ 20) (K : MW M_B_run (D + 3) 0 0 v hT 0 0 90 [(0, .ref 27), (1, .int (nI b)), (4, .int xx), (7, .int 2), (8, .int (nI o)), (9, .int (nI (dp + 1))), (10, .int 41)] [.int 41] (heapN N sc (wB x (sp_note 41 t)) m tl)) : MW M_B_run (D + 3) 0 0 v hT 0 0 0 (lv_args 0 [.ref 27, .int (nI b), .int (nI 5), .int (nI 1), .int xx, .int (nI dp)]) [] (heapN N sc (wB x t) m tl) := by
  repeat (refine mw_step rfl ?_)
  refine mw_brT rfl (by decide) ?_
  repeat (refine mw_step rfl ?_)
  refine mw_brT rfl (by decide) ?_
  repeat (refine mw_step rfl ?_)
  refine mw_call (c_B_bodyInV 5 1 0 (by decide) (by decide)) rfl rfl (by omega) (Nat.le_refl _) (Nat.le_refl _) ?_
  refine mw_brT rfl (by decide) ?_
  repeat (refine mw_step rfl ?_)
  refine mw_call (c_B_aboveV 5 3 (by decide) (by decide)) rfl rfl (by omega) (Nat.le_refl _) (Nat.le_refl _) ?_
  repeat (refine mw_step rfl ?_)
  refine mw_brT rfl (by decide) ?_
  repeat (refine mw_step rfl ?_)
  refine mw_brT rfl (by decide) ?_
  repeat (refine mw_step rfl ?_)
  refine mw_call (c_B_bodyInV 3 1 41 (by decide) (by decide)) rfl rfl (by omega) (Nat.le_refl _) (Nat.le_refl _) ?_
  refine mw_brF rfl (by decide) ?_
  repeat (refine mw_step rfl ?_)
  refine mw_brF rfl (by decide) ?_
  repeat (refine mw_step rfl ?_)
  refine mw_brF rfl (n_nlt (a := 40) hd (by omega)) ?_
  repeat (refine mw_step rfl ?_)
  refine mw_call (c_B_aboveV 3 2 (by decide) (by decide)) rfl rfl (by omega) (Nat.le_refl _) (Nat.le_refl _) ?_
  repeat (refine mw_step rfl ?_)
  refine mw_call (c_B_kindOf (x := wB x t) b hn h50 hb) rfl rfl (by omega) (Nat.le_refl _) (Nat.le_refl _) ?_
  rw [show xB_kinds (wB x t) b = nI o from ho]
  repeat (refine mw_step rfl ?_)
  refine mw_call (c_B_bodyInV 3 1 41 (by decide) (by decide)) rfl rfl (by omega) (Nat.le_refl _) (Nat.le_refl _) ?_
  repeat (refine mw_step rfl ?_)
  refine mw_call (c_B_note (x := x) (t := t) 41 ht) rfl rfl (by omega) (Nat.le_refl _) (Nat.le_refl _) ?_
  repeat (refine mw_step rfl ?_)
  rw [nI_1]
  refine mw_pick [0, 1, 4, 7, 8, 9, 10] rfl ?_
  exact K
theorem l_disp_5_2 {D : Nat} {v : Option Value} {hT : MH} {xx : Int32} (hn : xB_many x = nI n) (h50 : n ≤ 50) (hb : b < n) (ho : xB_kinds x b = nI o) (hd : dp ≤ 40) (ht : t.2 < 2 ^ 20) (K : MW M_B_run (D + 3) 0 0 v hT 0 0 90 [(0, .ref 27), (1, .int (nI b)), (4, .int xx), (7, .int 2), (8, .int (nI o)), (9, .int (nI (dp + 1))), (10, .int 40)] [.int 40] (heapN N sc (wB x (sp_note 40 t)) m tl)) : MW M_B_run (D + 3) 0 0 v hT 0 0 0 (lv_args 0 [.ref 27, .int (nI b), .int (nI 5), .int (nI 2), .int xx, .int (nI dp)]) [] (heapN N sc (wB x t) m tl) := by
  repeat (refine mw_step rfl ?_)
  refine mw_brT rfl (by decide) ?_
  repeat (refine mw_step rfl ?_)
  refine mw_brT rfl (by decide) ?_
  repeat (refine mw_step rfl ?_)
  refine mw_call (c_B_bodyInV 5 2 0 (by decide) (by decide)) rfl rfl (by omega) (Nat.le_refl _) (Nat.le_refl _) ?_
  refine mw_brT rfl (by decide) ?_
  repeat (refine mw_step rfl ?_)
  refine mw_call (c_B_aboveV 5 3 (by decide) (by decide)) rfl rfl (by omega) (Nat.le_refl _) (Nat.le_refl _) ?_
  repeat (refine mw_step rfl ?_)
  refine mw_brT rfl (by decide) ?_
  repeat (refine mw_step rfl ?_)
  refine mw_brT rfl (by decide) ?_
  repeat (refine mw_step rfl ?_)
  refine mw_call (c_B_bodyInV 3 2 40 (by decide) (by decide)) rfl rfl (by omega) (Nat.le_refl _) (Nat.le_refl _) ?_
  refine mw_brF rfl (by decide) ?_
  repeat (refine mw_step rfl ?_)
  refine mw_brF rfl (by decide) ?_
  repeat (refine mw_step rfl ?_)
  refine mw_brF rfl (n_nlt (a := 40) hd (by omega)) ?_
  repeat (refine mw_step rfl ?_)
  refine mw_call (c_B_aboveV 3 2 (by decide) (by decide)) rfl rfl (by omega) (Nat.le_refl _) (Nat.le_refl _) ?_
  repeat (refine mw_step rfl ?_)
  refine mw_call (c_B_kindOf (x := wB x t) b hn h50 hb) rfl rfl (by omega) (Nat.le_refl _) (Nat.le_refl _) ?_
  rw [show xB_kinds (wB x t) b = nI o from ho]
  repeat (refine mw_step rfl ?_)
  refine mw_call (c_B_bodyInV 3 2 40 (by decide) (by decide)) rfl rfl (by omega) (Nat.le_refl _) (Nat.le_refl _) ?_
  repeat (refine mw_step rfl ?_)
  refine mw_call (c_B_note (x := x) (t := t) 40 ht) rfl rfl (by omega) (Nat.le_refl _) (Nat.le_refl _) ?_
  repeat (refine mw_step rfl ?_)
  rw [nI_1]
  refine mw_pick [0, 1, 4, 7, 8, 9, 10] rfl ?_
  exact K
theorem l_disp_5_3 {D : Nat} {v : Option Value} {hT : MH} {xx : Int32} (hn : xB_many x = nI n) (h50 : n ≤ 50) (hb : b < n) (ho : xB_kinds x b = nI o) (hd : dp ≤ 40) (ht : t.2 < 2 ^ 20) (K : MW M_B_run (D + 3) 0 0 v hT 0 0 90 [(0, .ref 27), (1, .int (nI b)), (4, .int xx), (7, .int 3), (8, .int (nI o)), (9, .int (nI (dp + 1))), (10, .int 60)] [.int 60] (heapN N sc (wB x (sp_note 60 t)) m tl)) : MW M_B_run (D + 3) 0 0 v hT 0 0 0 (lv_args 0 [.ref 27, .int (nI b), .int (nI 5), .int (nI 3), .int xx, .int (nI dp)]) [] (heapN N sc (wB x t) m tl) := by
  repeat (refine mw_step rfl ?_)
  refine mw_brT rfl (by decide) ?_
  repeat (refine mw_step rfl ?_)
  refine mw_brT rfl (by decide) ?_
  repeat (refine mw_step rfl ?_)
  refine mw_call (c_B_bodyInV 5 3 60 (by decide) (by decide)) rfl rfl (by omega) (Nat.le_refl _) (Nat.le_refl _) ?_
  refine mw_brF rfl (by decide) ?_
  repeat (refine mw_step rfl ?_)
  refine mw_brF rfl (by decide) ?_
  repeat (refine mw_step rfl ?_)
  refine mw_brF rfl (n_nlt (a := 40) hd (by omega)) ?_
  repeat (refine mw_step rfl ?_)
  refine mw_call (c_B_aboveV 5 3 (by decide) (by decide)) rfl rfl (by omega) (Nat.le_refl _) (Nat.le_refl _) ?_
  repeat (refine mw_step rfl ?_)
  refine mw_call (c_B_kindOf (x := wB x t) b hn h50 hb) rfl rfl (by omega) (Nat.le_refl _) (Nat.le_refl _) ?_
  rw [show xB_kinds (wB x t) b = nI o from ho]
  repeat (refine mw_step rfl ?_)
  refine mw_call (c_B_bodyInV 5 3 60 (by decide) (by decide)) rfl rfl (by omega) (Nat.le_refl _) (Nat.le_refl _) ?_
  repeat (refine mw_step rfl ?_)
  refine mw_call (c_B_note (x := x) (t := t) 60 ht) rfl rfl (by omega) (Nat.le_refl _) (Nat.le_refl _) ?_
  repeat (refine mw_step rfl ?_)
  rw [nI_1]
  refine mw_pick [0, 1, 4, 7, 8, 9, 10] rfl ?_
  exact K
theorem l_disp_6_0 {D : Nat} {v : Option Value} {hT : MH} {xx : Int32} (hn : xB_many x = nI n) (h50 : n ≤ 50) (hb : b < n) (ho : xB_kinds x b = nI o) (hd : dp ≤ 40) (ht : t.2 < 2 ^ 20) (K : MW M_B_run (D + 3) 0 0 v hT 0 0 90 [(0, .ref 27), (1, .int (nI b)), (4, .int xx), (7, .int 0), (8, .int (nI o)), (9, .int (nI (dp + 1))), (10, .int 70)] [.int 70] (heapN N sc (wB x (sp_note 70 t)) m tl)) : MW M_B_run (D + 3) 0 0 v hT 0 0 0 (lv_args 0 [.ref 27, .int (nI b), .int (nI 6), .int (nI 0), .int xx, .int (nI dp)]) [] (heapN N sc (wB x t) m tl) := by
  repeat (refine mw_step rfl ?_)
  refine mw_brT rfl (by decide) ?_
  repeat (refine mw_step rfl ?_)
  refine mw_brT rfl (by decide) ?_
  repeat (refine mw_step rfl ?_)
  refine mw_call (c_B_bodyInV 6 0 70 (by decide) (by decide)) rfl rfl (by omega) (Nat.le_refl _) (Nat.le_refl _) ?_
  refine mw_brF rfl (by decide) ?_
  repeat (refine mw_step rfl ?_)
  refine mw_brF rfl (by decide) ?_
  repeat (refine mw_step rfl ?_)
  refine mw_brF rfl (n_nlt (a := 40) hd (by omega)) ?_
  repeat (refine mw_step rfl ?_)
  refine mw_call (c_B_aboveV 6 0 (by decide) (by decide)) rfl rfl (by omega) (Nat.le_refl _) (Nat.le_refl _) ?_
  repeat (refine mw_step rfl ?_)
  refine mw_call (c_B_kindOf (x := wB x t) b hn h50 hb) rfl rfl (by omega) (Nat.le_refl _) (Nat.le_refl _) ?_
  rw [show xB_kinds (wB x t) b = nI o from ho]
  repeat (refine mw_step rfl ?_)
  refine mw_call (c_B_bodyInV 6 0 70 (by decide) (by decide)) rfl rfl (by omega) (Nat.le_refl _) (Nat.le_refl _) ?_
  repeat (refine mw_step rfl ?_)
  refine mw_call (c_B_note (x := x) (t := t) 70 ht) rfl rfl (by omega) (Nat.le_refl _) (Nat.le_refl _) ?_
  repeat (refine mw_step rfl ?_)
  rw [nI_1]
  refine mw_pick [0, 1, 4, 7, 8, 9, 10] rfl ?_
  exact K
theorem l_disp_6_1 {D : Nat} {v : Option Value} {hT : MH} {xx : Int32} (hn : xB_many x = nI n) (h50 : n ≤ 50) (hb : b < n) (ho : xB_kinds x b = nI o) (hd : dp ≤ 40) (ht : t.2 < 2 ^ 20) (K : MW M_B_run (D + 3) 0 0 v hT 0 0 90 [(0, .ref 27), (1, .int (nI b)), (4, .int xx), (7, .int (-1)), (8, .int (nI o)), (9, .int (nI (dp + 1))), (10, .int 10)] [.int 10] (heapN N sc (wB x (sp_note 10 t)) m tl)) : MW M_B_run (D + 3) 0 0 v hT 0 0 0 (lv_args 0 [.ref 27, .int (nI b), .int (nI 6), .int (nI 1), .int xx, .int (nI dp)]) [] (heapN N sc (wB x t) m tl) := by
  repeat (refine mw_step rfl ?_)
  refine mw_brT rfl (by decide) ?_
  repeat (refine mw_step rfl ?_)
  refine mw_brT rfl (by decide) ?_
  repeat (refine mw_step rfl ?_)
  refine mw_call (c_B_bodyInV 6 1 0 (by decide) (by decide)) rfl rfl (by omega) (Nat.le_refl _) (Nat.le_refl _) ?_
  refine mw_brT rfl (by decide) ?_
  repeat (refine mw_step rfl ?_)
  refine mw_call (c_B_aboveV 6 0 (by decide) (by decide)) rfl rfl (by omega) (Nat.le_refl _) (Nat.le_refl _) ?_
  repeat (refine mw_step rfl ?_)
  refine mw_brT rfl (by decide) ?_
  repeat (refine mw_step rfl ?_)
  refine mw_brF rfl (by decide) ?_
  repeat (refine mw_step rfl ?_)
  refine mw_brF rfl (by decide) ?_
  repeat (refine mw_step rfl ?_)
  refine mw_brF rfl (n_nlt (a := 40) hd (by omega)) ?_
  repeat (refine mw_step rfl ?_)
  refine mw_call (c_B_aboveV 0 (-1) (by decide) (by decide)) rfl rfl (by omega) (Nat.le_refl _) (Nat.le_refl _) ?_
  repeat (refine mw_step rfl ?_)
  refine mw_call (c_B_kindOf (x := wB x t) b hn h50 hb) rfl rfl (by omega) (Nat.le_refl _) (Nat.le_refl _) ?_
  rw [show xB_kinds (wB x t) b = nI o from ho]
  repeat (refine mw_step rfl ?_)
  refine mw_call (c_B_bodyInV 0 1 10 (by decide) (by decide)) rfl rfl (by omega) (Nat.le_refl _) (Nat.le_refl _) ?_
  repeat (refine mw_step rfl ?_)
  refine mw_call (c_B_note (x := x) (t := t) 10 ht) rfl rfl (by omega) (Nat.le_refl _) (Nat.le_refl _) ?_
  repeat (refine mw_step rfl ?_)
  rw [nI_1]
  refine mw_pick [0, 1, 4, 7, 8, 9, 10] rfl ?_
  exact K
theorem l_disp_6_2 {D : Nat} {v : Option Value} {hT : MH} {xx : Int32} (hn : xB_many x = nI n) (h50 : n ≤ 50) (hb : b < n) (ho : xB_kinds x b = nI o) (hd : dp ≤ 40) (ht : t.2 < 2 ^ 20) (K : MW M_B_run (D + 3) 0 0 v hT 0 0 90 [(0, .ref 27), (1, .int (nI b)), (4, .int xx), (7, .int (-1)), (8, .int (nI o)), (9, .int (nI (dp + 1))), (10, .int 11)] [.int 11] (heapN N sc (wB x (sp_note 11 t)) m tl)) : MW M_B_run (D + 3) 0 0 v hT 0 0 0 (lv_args 0 [.ref 27, .int (nI b), .int (nI 6), .int (nI 2), .int xx, .int (nI dp)]) [] (heapN N sc (wB x t) m tl) := by
  repeat (refine mw_step rfl ?_)
  refine mw_brT rfl (by decide) ?_
  repeat (refine mw_step rfl ?_)
  refine mw_brT rfl (by decide) ?_
  repeat (refine mw_step rfl ?_)
  refine mw_call (c_B_bodyInV 6 2 0 (by decide) (by decide)) rfl rfl (by omega) (Nat.le_refl _) (Nat.le_refl _) ?_
  refine mw_brT rfl (by decide) ?_
  repeat (refine mw_step rfl ?_)
  refine mw_call (c_B_aboveV 6 0 (by decide) (by decide)) rfl rfl (by omega) (Nat.le_refl _) (Nat.le_refl _) ?_
  repeat (refine mw_step rfl ?_)
  refine mw_brT rfl (by decide) ?_
  repeat (refine mw_step rfl ?_)
  refine mw_brF rfl (by decide) ?_
  repeat (refine mw_step rfl ?_)
  refine mw_brF rfl (by decide) ?_
  repeat (refine mw_step rfl ?_)
  refine mw_brF rfl (n_nlt (a := 40) hd (by omega)) ?_
  repeat (refine mw_step rfl ?_)
  refine mw_call (c_B_aboveV 0 (-1) (by decide) (by decide)) rfl rfl (by omega) (Nat.le_refl _) (Nat.le_refl _) ?_
  repeat (refine mw_step rfl ?_)
  refine mw_call (c_B_kindOf (x := wB x t) b hn h50 hb) rfl rfl (by omega) (Nat.le_refl _) (Nat.le_refl _) ?_
  rw [show xB_kinds (wB x t) b = nI o from ho]
  repeat (refine mw_step rfl ?_)
  refine mw_call (c_B_bodyInV 0 2 11 (by decide) (by decide)) rfl rfl (by omega) (Nat.le_refl _) (Nat.le_refl _) ?_
  repeat (refine mw_step rfl ?_)
  refine mw_call (c_B_note (x := x) (t := t) 11 ht) rfl rfl (by omega) (Nat.le_refl _) (Nat.le_refl _) ?_
  repeat (refine mw_step rfl ?_)
  rw [nI_1]
  refine mw_pick [0, 1, 4, 7, 8, 9, 10] rfl ?_
  exact K
theorem l_disp_6_3 {D : Nat} {v : Option Value} {hT : MH} {xx : Int32} (hn : xB_many x = nI n) (h50 : n ≤ 50) (hb : b < n) (ho : xB_kinds x b = nI o) (hd : dp ≤ 40) (ht : t.2 < 2 ^ 20) (K : MW M_B_run (D + 3) 0 0 v hT 0 0 90 [(0, .ref 27), (1, .int (nI b)), (4, .int xx), (7, .int (-1)), (8, .int (nI o)), (9, .int (nI (dp + 1))), (10, .int 2)] [.int 2] (heapN N sc (wB x (sp_note 2 t)) m tl)) : MW M_B_run (D + 3) 0 0 v hT 0 0 0 (lv_args 0 [.ref 27, .int (nI b), .int (nI 6), .int (nI 3), .int xx, .int (nI dp)]) [] (heapN N sc (wB x t) m tl) := by
  repeat (refine mw_step rfl ?_)
  refine mw_brT rfl (by decide) ?_
  repeat (refine mw_step rfl ?_)
  refine mw_brT rfl (by decide) ?_
  repeat (refine mw_step rfl ?_)
  refine mw_call (c_B_bodyInV 6 3 0 (by decide) (by decide)) rfl rfl (by omega) (Nat.le_refl _) (Nat.le_refl _) ?_
  refine mw_brT rfl (by decide) ?_
  repeat (refine mw_step rfl ?_)
  refine mw_call (c_B_aboveV 6 0 (by decide) (by decide)) rfl rfl (by omega) (Nat.le_refl _) (Nat.le_refl _) ?_
  repeat (refine mw_step rfl ?_)
  refine mw_brT rfl (by decide) ?_
  repeat (refine mw_step rfl ?_)
  refine mw_brF rfl (by decide) ?_
  repeat (refine mw_step rfl ?_)
  refine mw_brF rfl (by decide) ?_
  repeat (refine mw_step rfl ?_)
  refine mw_brF rfl (n_nlt (a := 40) hd (by omega)) ?_
  repeat (refine mw_step rfl ?_)
  refine mw_call (c_B_aboveV 0 (-1) (by decide) (by decide)) rfl rfl (by omega) (Nat.le_refl _) (Nat.le_refl _) ?_
  repeat (refine mw_step rfl ?_)
  refine mw_call (c_B_kindOf (x := wB x t) b hn h50 hb) rfl rfl (by omega) (Nat.le_refl _) (Nat.le_refl _) ?_
  rw [show xB_kinds (wB x t) b = nI o from ho]
  repeat (refine mw_step rfl ?_)
  refine mw_call (c_B_bodyInV 0 3 2 (by decide) (by decide)) rfl rfl (by omega) (Nat.le_refl _) (Nat.le_refl _) ?_
  repeat (refine mw_step rfl ?_)
  refine mw_call (c_B_note (x := x) (t := t) 2 ht) rfl rfl (by omega) (Nat.le_refl _) (Nat.le_refl _) ?_
  repeat (refine mw_step rfl ?_)
  rw [nI_1]
  refine mw_pick [0, 1, 4, 7, 8, 9, 10] rfl ?_
  exact K
theorem l_disp_7_0 {D : Nat} {v : Option Value} {hT : MH} {xx : Int32} (hn : xB_many x = nI n) (h50 : n ≤ 50) (hb : b < n) (ho : xB_kinds x b = nI o) (hd : dp ≤ 40) (ht : t.2 < 2 ^ 20) (K : MW M_B_run (D + 3) 0 0 v hT 0 0 90 [(0, .ref 27), (1, .int (nI b)), (4, .int xx), (7, .int 0), (8, .int (nI o)), (9, .int (nI (dp + 1))), (10, .int 20)] [.int 20] (heapN N sc (wB x (sp_note 20 t)) m tl)) : MW M_B_run (D + 3) 0 0 v hT 0 0 0 (lv_args 0 [.ref 27, .int (nI b), .int (nI 7), .int (nI 0), .int xx, .int (nI dp)]) [] (heapN N sc (wB x t) m tl) := by
  repeat (refine mw_step rfl ?_)
  refine mw_brT rfl (by decide) ?_
  repeat (refine mw_step rfl ?_)
  refine mw_brT rfl (by decide) ?_
  repeat (refine mw_step rfl ?_)
  refine mw_call (c_B_bodyInV 7 0 0 (by decide) (by decide)) rfl rfl (by omega) (Nat.le_refl _) (Nat.le_refl _) ?_
  refine mw_brT rfl (by decide) ?_
  repeat (refine mw_step rfl ?_)
  refine mw_call (c_B_aboveV 7 4 (by decide) (by decide)) rfl rfl (by omega) (Nat.le_refl _) (Nat.le_refl _) ?_
  repeat (refine mw_step rfl ?_)
  refine mw_brT rfl (by decide) ?_
  repeat (refine mw_step rfl ?_)
  refine mw_brT rfl (by decide) ?_
  repeat (refine mw_step rfl ?_)
  refine mw_call (c_B_bodyInV 4 0 0 (by decide) (by decide)) rfl rfl (by omega) (Nat.le_refl _) (Nat.le_refl _) ?_
  refine mw_brT rfl (by decide) ?_
  repeat (refine mw_step rfl ?_)
  refine mw_call (c_B_aboveV 4 1 (by decide) (by decide)) rfl rfl (by omega) (Nat.le_refl _) (Nat.le_refl _) ?_
  repeat (refine mw_step rfl ?_)
  refine mw_brT rfl (by decide) ?_
  repeat (refine mw_step rfl ?_)
  refine mw_brT rfl (by decide) ?_
  repeat (refine mw_step rfl ?_)
  refine mw_call (c_B_bodyInV 1 0 20 (by decide) (by decide)) rfl rfl (by omega) (Nat.le_refl _) (Nat.le_refl _) ?_
  refine mw_brF rfl (by decide) ?_
  repeat (refine mw_step rfl ?_)
  refine mw_brF rfl (by decide) ?_
  repeat (refine mw_step rfl ?_)
  refine mw_brF rfl (n_nlt (a := 40) hd (by omega)) ?_
  repeat (refine mw_step rfl ?_)
  refine mw_call (c_B_aboveV 1 0 (by decide) (by decide)) rfl rfl (by omega) (Nat.le_refl _) (Nat.le_refl _) ?_
  repeat (refine mw_step rfl ?_)
  refine mw_call (c_B_kindOf (x := wB x t) b hn h50 hb) rfl rfl (by omega) (Nat.le_refl _) (Nat.le_refl _) ?_
  rw [show xB_kinds (wB x t) b = nI o from ho]
  repeat (refine mw_step rfl ?_)
  refine mw_call (c_B_bodyInV 1 0 20 (by decide) (by decide)) rfl rfl (by omega) (Nat.le_refl _) (Nat.le_refl _) ?_
  repeat (refine mw_step rfl ?_)
  refine mw_call (c_B_note (x := x) (t := t) 20 ht) rfl rfl (by omega) (Nat.le_refl _) (Nat.le_refl _) ?_
  repeat (refine mw_step rfl ?_)
  rw [nI_1]
  refine mw_pick [0, 1, 4, 7, 8, 9, 10] rfl ?_
  exact K
theorem l_disp_7_1 {D : Nat} {v : Option Value} {hT : MH} {xx : Int32} (hn : xB_many x = nI n) (h50 : n ≤ 50) (hb : b < n) (ho : xB_kinds x b = nI o) (hd : dp ≤ 40) (ht : t.2 < 2 ^ 20) (K : MW M_B_run (D + 3) 0 0 v hT 0 0 90 [(0, .ref 27), (1, .int (nI b)), (4, .int xx), (7, .int 4), (8, .int (nI o)), (9, .int (nI (dp + 1))), (10, .int 80)] [.int 80] (heapN N sc (wB x (sp_note 80 t)) m tl)) : MW M_B_run (D + 3) 0 0 v hT 0 0 0 (lv_args 0 [.ref 27, .int (nI b), .int (nI 7), .int (nI 1), .int xx, .int (nI dp)]) [] (heapN N sc (wB x t) m tl) := by
  repeat (refine mw_step rfl ?_)
  refine mw_brT rfl (by decide) ?_
  repeat (refine mw_step rfl ?_)
  refine mw_brT rfl (by decide) ?_
  repeat (refine mw_step rfl ?_)
  refine mw_call (c_B_bodyInV 7 1 80 (by decide) (by decide)) rfl rfl (by omega) (Nat.le_refl _) (Nat.le_refl _) ?_
  refine mw_brF rfl (by decide) ?_
  repeat (refine mw_step rfl ?_)
  refine mw_brF rfl (by decide) ?_
  repeat (refine mw_step rfl ?_)
  refine mw_brF rfl (n_nlt (a := 40) hd (by omega)) ?_
  repeat (refine mw_step rfl ?_)
  refine mw_call (c_B_aboveV 7 4 (by decide) (by decide)) rfl rfl (by omega) (Nat.le_refl _) (Nat.le_refl _) ?_
  repeat (refine mw_step rfl ?_)
  refine mw_call (c_B_kindOf (x := wB x t) b hn h50 hb) rfl rfl (by omega) (Nat.le_refl _) (Nat.le_refl _) ?_
  rw [show xB_kinds (wB x t) b = nI o from ho]
  repeat (refine mw_step rfl ?_)
  refine mw_call (c_B_bodyInV 7 1 80 (by decide) (by decide)) rfl rfl (by omega) (Nat.le_refl _) (Nat.le_refl _) ?_
  repeat (refine mw_step rfl ?_)
  refine mw_call (c_B_note (x := x) (t := t) 80 ht) rfl rfl (by omega) (Nat.le_refl _) (Nat.le_refl _) ?_
  repeat (refine mw_step rfl ?_)
  rw [nI_1]
  refine mw_pick [0, 1, 4, 7, 8, 9, 10] rfl ?_
  exact K
theorem l_disp_7_2 {D : Nat} {v : Option Value} {hT : MH} {xx : Int32} (hn : xB_many x = nI n) (h50 : n ≤ 50) (hb : b < n) (ho : xB_kinds x b = nI o) (hd : dp ≤ 40) (ht : t.2 < 2 ^ 20) (K : MW M_B_run (D + 3) 0 0 v hT 0 0 90 [(0, .ref 27), (1, .int (nI b)), (4, .int xx), (7, .int 1), (8, .int (nI o)), (9, .int (nI (dp + 1))), (10, .int 50)] [.int 50] (heapN N sc (wB x (sp_note 50 t)) m tl)) : MW M_B_run (D + 3) 0 0 v hT 0 0 0 (lv_args 0 [.ref 27, .int (nI b), .int (nI 7), .int (nI 2), .int xx, .int (nI dp)]) [] (heapN N sc (wB x t) m tl) := by
  repeat (refine mw_step rfl ?_)
  refine mw_brT rfl (by decide) ?_
  repeat (refine mw_step rfl ?_)
  refine mw_brT rfl (by decide) ?_
  repeat (refine mw_step rfl ?_)
  refine mw_call (c_B_bodyInV 7 2 0 (by decide) (by decide)) rfl rfl (by omega) (Nat.le_refl _) (Nat.le_refl _) ?_
  refine mw_brT rfl (by decide) ?_
  repeat (refine mw_step rfl ?_)
  refine mw_call (c_B_aboveV 7 4 (by decide) (by decide)) rfl rfl (by omega) (Nat.le_refl _) (Nat.le_refl _) ?_
  repeat (refine mw_step rfl ?_)
  refine mw_brT rfl (by decide) ?_
  repeat (refine mw_step rfl ?_)
  refine mw_brT rfl (by decide) ?_
  repeat (refine mw_step rfl ?_)
  refine mw_call (c_B_bodyInV 4 2 50 (by decide) (by decide)) rfl rfl (by omega) (Nat.le_refl _) (Nat.le_refl _) ?_
  refine mw_brF rfl (by decide) ?_
  repeat (refine mw_step rfl ?_)
  refine mw_brF rfl (by decide) ?_
  repeat (refine mw_step rfl ?_)
  refine mw_brF rfl (n_nlt (a := 40) hd (by omega)) ?_
  repeat (refine mw_step rfl ?_)
  refine mw_call (c_B_aboveV 4 1 (by decide) (by decide)) rfl rfl (by omega) (Nat.le_refl _) (Nat.le_refl _) ?_
  repeat (refine mw_step rfl ?_)
  refine mw_call (c_B_kindOf (x := wB x t) b hn h50 hb) rfl rfl (by omega) (Nat.le_refl _) (Nat.le_refl _) ?_
  rw [show xB_kinds (wB x t) b = nI o from ho]
  repeat (refine mw_step rfl ?_)
  refine mw_call (c_B_bodyInV 4 2 50 (by decide) (by decide)) rfl rfl (by omega) (Nat.le_refl _) (Nat.le_refl _) ?_
  repeat (refine mw_step rfl ?_)
  refine mw_call (c_B_note (x := x) (t := t) 50 ht) rfl rfl (by omega) (Nat.le_refl _) (Nat.le_refl _) ?_
  repeat (refine mw_step rfl ?_)
  rw [nI_1]
  refine mw_pick [0, 1, 4, 7, 8, 9, 10] rfl ?_
  exact K
theorem l_disp_7_3 {D : Nat} {v : Option Value} {hT : MH} {xx : Int32} (hn : xB_many x = nI n) (h50 : n ≤ 50) (hb : b < n) (ho : xB_kinds x b = nI o) (hd : dp ≤ 40) (ht : t.2 < 2 ^ 20) (K : MW M_B_run (D + 3) 0 0 v hT 0 0 90 [(0, .ref 27), (1, .int (nI b)), (4, .int xx), (7, .int 4), (8, .int (nI o)), (9, .int (nI (dp + 1))), (10, .int 81)] [.int 81] (heapN N sc (wB x (sp_note 81 t)) m tl)) : MW M_B_run (D + 3) 0 0 v hT 0 0 0 (lv_args 0 [.ref 27, .int (nI b), .int (nI 7), .int (nI 3), .int xx, .int (nI dp)]) [] (heapN N sc (wB x t) m tl) := by
  repeat (refine mw_step rfl ?_)
  refine mw_brT rfl (by decide) ?_
  repeat (refine mw_step rfl ?_)
  refine mw_brT rfl (by decide) ?_
  repeat (refine mw_step rfl ?_)
  refine mw_call (c_B_bodyInV 7 3 81 (by decide) (by decide)) rfl rfl (by omega) (Nat.le_refl _) (Nat.le_refl _) ?_
  refine mw_brF rfl (by decide) ?_
  repeat (refine mw_step rfl ?_)
  refine mw_brF rfl (by decide) ?_
  repeat (refine mw_step rfl ?_)
  refine mw_brF rfl (n_nlt (a := 40) hd (by omega)) ?_
  repeat (refine mw_step rfl ?_)
  refine mw_call (c_B_aboveV 7 4 (by decide) (by decide)) rfl rfl (by omega) (Nat.le_refl _) (Nat.le_refl _) ?_
  repeat (refine mw_step rfl ?_)
  refine mw_call (c_B_kindOf (x := wB x t) b hn h50 hb) rfl rfl (by omega) (Nat.le_refl _) (Nat.le_refl _) ?_
  rw [show xB_kinds (wB x t) b = nI o from ho]
  repeat (refine mw_step rfl ?_)
  refine mw_call (c_B_bodyInV 7 3 81 (by decide) (by decide)) rfl rfl (by omega) (Nat.le_refl _) (Nat.le_refl _) ?_
  repeat (refine mw_step rfl ?_)
  refine mw_call (c_B_note (x := x) (t := t) 81 ht) rfl rfl (by omega) (Nat.le_refl _) (Nat.le_refl _) ?_
  repeat (refine mw_step rfl ?_)
  rw [nI_1]
  refine mw_pick [0, 1, 4, 7, 8, 9, 10] rfl ?_
  exact K
end AC
