/-! the reference's constructor -/
abbrev hoO (p0 p1 p2 p3 p4 p5 p6 p7 p8 p9 p10 p11 p12 p13 p14 p15 p16 p17 p18 p19 p20 p21 p22 p23 p24 p25 p26 p27 p28 p29 p30 p31 p32 p33 p34 p35 p36 p37 p38 : MCell) (f g e : Nat → Int32) : MH := [p0, p1, p2, p3, p4, p5, p6, p7, p8, p9, p10, p11, p12, p13, p14, p15, p16, p17, p18, p19, p20, p21, p22, p23, p24, p25, p26, p27, p28, p29, p30, p31, p32, p33, p34, p35, p36, p37, p38, .inr (9, [.ref 40, .ref 41, .ref 42, .ref 43, .int 0, .int 0, .int 0, .ref 44, .ref 45, .ref 46, .ref 47, .int 0, .ref 48, .ref 49, .int 0, .int 0, .int 0, .int 0, .int 0, .ref 50, .ref 51, .ref 52, .ref 53, .ref 54, .long 0, .ref 55, .ref 56, .int 0, .ref 57, .ref 58, .ref 59, .ref 60, .int 0, .int 0, .int 0, .ref 61, .ref 62, .int 0, .int 0, .int 0, .ref 63, .ref 64, .ref 65, .ref 66]), .inl (.int, 24, .inl f), .inl (.int, 40, .inl (fun _ => 0)), .inl (.int, 40, .inl (fun _ => 0)), .inl (.int, 40, .inl (fun _ => 0)), .inl (.int, 8, .inl (fun _ => 0)), .inl (.int, 8, .inl (fun _ => 0)), .inl (.int, 48, .inl (fun _ => 0)), .inl (.int, 120, .inl (fun _ => 0)), .inl (.int, 720, .inl (fun _ => 0)), .inl (.int, 6, .inl g), .inl (.int, 4, .inl (fun _ => 0)), .inl (.int, 1080, .inl (fun _ => 0)), .inl (.int, 6, .inl (fun _ => 0)), .inl (.long, 180, .inr (.inl (fun _ => 0))), .inl (.long, 6, .inr (.inl (fun _ => 0))), .inl (.int, 8, .inl (fun _ => 0)), .inl (.int, 8, .inl (fun _ => 0)), .inl (.int, 10, .inl (fun _ => 0)), .inl (.int, 10, .inl (fun _ => 0)), .inl (.int, 10, .inl (fun _ => 0)), .inl (.int, 48, .inl (fun _ => 0)), .inl (.int, 50, .inl (fun _ => 0)), .inl (.int, 24, .inl (fun _ => 0)), .inl (.int, 6, .inl e), .inl (.int, 6, .inl (fun _ => 0)), .inl (.long, 360, .inr (.inl (fun _ => 0))), .inl (.long, 60, .inr (.inl (fun _ => 0)))]
def fillN (v : Int32) (e : Nat → Int32) (t : Nat) : Nat → Int32 := fun j => if j < t then v else e j
theorem fillN_1 (v : Int32) (e : Nat → Int32) (t : Nat) : upd (fillN v e t) t v = fillN v e (t + 1) := by
  funext j
  unfold upd fillN
  by_cases h : j = t
  · rw [if_pos h, if_pos (by omega)]
  · rw [if_neg h]
    by_cases h2 : j < t
    · rw [if_pos h2, if_pos (by omega)]
    · rw [if_neg h2, if_neg (by omega)]
theorem fillN_0 (v : Int32) (e : Nat → Int32) : fillN v e 0 = e := by
  funext j
  exact if_neg (by omega)
def may2 (t : Nat) : Nat → Int32 := fun j => if 12 ≤ j ∧ j < 12 + t then 1 else if 18 ≤ j ∧ j < 18 + t then 10 else 0
theorem may2_1 (t : Nat) (ht : t < 6) : upd (upd (may2 t) (12 + t) 1) (18 + t) 10 = may2 (t + 1) := by
  funext j
  unfold upd may2
  by_cases h1 : j = 18 + t
  · rw [if_pos h1, if_neg (by omega), if_pos (by omega)]
  · rw [if_neg h1]
    by_cases h2 : j = 12 + t
    · rw [if_pos h2, if_pos (by omega)]
    · rw [if_neg h2]
      by_cases h3 : 12 ≤ j ∧ j < 12 + t
      · rw [if_pos h3, if_pos (by omega)]
      · rw [if_neg h3]
        by_cases h4 : 18 ≤ j ∧ j < 18 + t
        · rw [if_pos h4, if_neg (by omega), if_pos (by omega)]
        · rw [if_neg h4, if_neg (by omega), if_neg (by omega)]
section OI0
variable (p0 p1 p2 p3 p4 p5 p6 p7 p8 p9 p10 p11 p12 p13 p14 p15 p16 p17 p18 p19 p20 p21 p22 p23 p24 p25 p26 p27 p28 p29 p30 p31 p32 p33 p34 p35 p36 p37 p38 : MCell) {hT : MH}
theorem l_Oi1 (f g e : Nat → Int32) (K : MW M_O_init 1 30 3000 none hT 27 2930 244 [(0, .ref 39)] [] (hoO p0 p1 p2 p3 p4 p5 p6 p7 p8 p9 p10 p11 p12 p13 p14 p15 p16 p17 p18 p19 p20 p21 p22 p23 p24 p25 p26 p27 p28 p29 p30 p31 p32 p33 p34 p35 p36 p37 p38 f g (fillN (-1) e 6))) : ∀ r t, t + r = 6 → MW M_O_init 1 30 3000 none hT 27 2930 225 [(0, .ref 39), (1, .int (nI t))] [] (hoO p0 p1 p2 p3 p4 p5 p6 p7 p8 p9 p10 p11 p12 p13 p14 p15 p16 p17 p18 p19 p20 p21 p22 p23 p24 p25 p26 p27 p28 p29 p30 p31 p32 p33 p34 p35 p36 p37 p38 f g (fillN (-1) e t)) := by
  intro r
  induction r with
  | zero =>
    intro t ht
    rw [show t = 6 by omega]
    repeat (refine mw_step rfl ?_)
    refine mw_brF rfl (by decide) ?_
    refine mw_pick [0] rfl ?_
    exact K
  | succ r ih =>
    intro t ht
    have L := ih (t + 1) (by omega)
    rw [← fillN_1 (-1) e t] at L
    repeat (refine mw_step rfl ?_)
    refine mw_brT rfl (n_lt (b := 6) (by omega) (by omega)) ?_
    repeat (refine mw_step rfl ?_)
    refine mw_ist rfl (rfl) (by omega) (by decide) ?_
    repeat (refine mw_to 225 rfl rfl ?_)
    rw [nI_1]
    refine mw_pick [0, 1] rfl ?_
    exact L
theorem l_Oi2 (g e : Nat → Int32) (K : MW M_O_init 1 30 3000 none hT 27 2930 286 [(0, .ref 39)] [] (hoO p0 p1 p2 p3 p4 p5 p6 p7 p8 p9 p10 p11 p12 p13 p14 p15 p16 p17 p18 p19 p20 p21 p22 p23 p24 p25 p26 p27 p28 p29 p30 p31 p32 p33 p34 p35 p36 p37 p38 (may2 6) (fillN (-1) g 6) e)) : ∀ r t, t + r = 6 → MW M_O_init 1 30 3000 none hT 27 2930 246 [(0, .ref 39), (1, .int (nI t))] [] (hoO p0 p1 p2 p3 p4 p5 p6 p7 p8 p9 p10 p11 p12 p13 p14 p15 p16 p17 p18 p19 p20 p21 p22 p23 p24 p25 p26 p27 p28 p29 p30 p31 p32 p33 p34 p35 p36 p37 p38 (may2 t) (fillN (-1) g t) e) := by
  intro r
  induction r with
  | zero =>
    intro t ht
    rw [show t = 6 by omega]
    repeat (refine mw_step rfl ?_)
    refine mw_brF rfl (by decide) ?_
    refine mw_pick [0] rfl ?_
    exact K
  | succ r ih =>
    intro t ht
    have L := ih (t + 1) (by omega)
    rw [← fillN_1 (-1) g t, ← may2_1 t (by omega)] at L
    repeat (refine mw_step rfl ?_)
    refine mw_brT rfl (n_lt (b := 6) (by omega) (by omega)) ?_
    repeat (refine mw_step rfl ?_)
    refine mw_ist rfl (rfl) (by omega) (by decide) ?_
    repeat (refine mw_step rfl ?_)
    refine mw_ist rfl (show (12 : Int32) + nI t = nI (12 + t) by rw [show (12 : Int32) = nI 12 from rfl, nI_add]) (by omega) (by decide) ?_
    repeat (refine mw_step rfl ?_)
    refine mw_ist rfl (show (18 : Int32) + nI t = nI (18 + t) by rw [show (18 : Int32) = nI 18 from rfl, nI_add]) (by omega) (by decide) ?_
    repeat (refine mw_to 246 rfl rfl ?_)
    rw [nI_1]
    refine mw_pick [0, 1] rfl ?_
    exact L
theorem l_Oi3 (f g e : Nat → Int32) (K : MW M_O_init 1 30 3000 none hT 27 2930 307 [(0, .ref 39)] [] (hoO p0 p1 p2 p3 p4 p5 p6 p7 p8 p9 p10 p11 p12 p13 p14 p15 p16 p17 p18 p19 p20 p21 p22 p23 p24 p25 p26 p27 p28 p29 p30 p31 p32 p33 p34 p35 p36 p37 p38 (fillN 1 f 6) g e)) : ∀ r t, t + r = 6 → MW M_O_init 1 30 3000 none hT 27 2930 288 [(0, .ref 39), (1, .int (nI t))] [] (hoO p0 p1 p2 p3 p4 p5 p6 p7 p8 p9 p10 p11 p12 p13 p14 p15 p16 p17 p18 p19 p20 p21 p22 p23 p24 p25 p26 p27 p28 p29 p30 p31 p32 p33 p34 p35 p36 p37 p38 (fillN 1 f t) g e) := by
  intro r
  induction r with
  | zero =>
    intro t ht
    rw [show t = 6 by omega]
    repeat (refine mw_step rfl ?_)
    refine mw_brF rfl (by decide) ?_
    refine mw_pick [0] rfl ?_
    exact K
  | succ r ih =>
    intro t ht
    have L := ih (t + 1) (by omega)
    rw [← fillN_1 1 f t] at L
    repeat (refine mw_step rfl ?_)
    refine mw_brT rfl (n_lt (b := 6) (by omega) (by omega)) ?_
    repeat (refine mw_step rfl ?_)
    refine mw_ist rfl (rfl) (by omega) (by decide) ?_
    repeat (refine mw_to 288 rfl rfl ?_)
    rw [nI_1]
    refine mw_pick [0, 1] rfl ?_
    exact L
theorem may2_0 : may2 0 = fun _ => 0 := by
  funext j
  unfold may2
  rw [if_neg (by omega), if_neg (by omega)]
theorem c_O_init : MC M_O_init 1 30 3000 [.ref 39] [p0, p1, p2, p3, p4, p5, p6, p7, p8, p9, p10, p11, p12, p13, p14, p15, p16, p17, p18, p19, p20, p21, p22, p23, p24, p25, p26, p27, p28, p29, p30, p31, p32, p33, p34, p35, p36, p37, p38, .inr (9, m_dfl 9)] none (hoO p0 p1 p2 p3 p4 p5 p6 p7 p8 p9 p10 p11 p12 p13 p14 p15 p16 p17 p18 p19 p20 p21 p22 p23 p24 p25 p26 p27 p28 p29 p30 p31 p32 p33 p34 p35 p36 p37 p38 (fillN 1 (may2 6) 6) (fillN (-1) (fun _ => 0) 6) (fillN (-1) (fun _ => 0) 6)) := by
  refine mc_of k1_O_init k2_O_init (Nat.le_of_ble_eq_true rfl) ?_
  repeat (refine mw_step rfl ?_)
  refine mw_obj rfl (by decide) ?_
  repeat (refine mw_step rfl ?_)
  refine mw_newa (N := 24) (by decide) (by decide) rfl (by decide) (Nat.le_of_ble_eq_true rfl) (Nat.le_of_ble_eq_true rfl) ?_
  repeat (refine mw_to 12 rfl rfl ?_)
  show MW M_O_init 1 30 3000 none _ 1 24 12 [(0, .ref 39)] [] [p0, p1, p2, p3, p4, p5, p6, p7, p8, p9, p10, p11, p12, p13, p14, p15, p16, p17, p18, p19, p20, p21, p22, p23, p24, p25, p26, p27, p28, p29, p30, p31, p32, p33, p34, p35, p36, p37, p38, .inr (9, [.ref 40, .null, .null, .null, .int 0, .int 0, .int 0, .null, .null, .null, .null, .int 0, .null, .null, .int 0, .int 0, .int 0, .int 0, .int 0, .null, .null, .null, .null, .null, .long 0, .null, .null, .int 0, .null, .null, .null, .null, .int 0, .int 0, .int 0, .null, .null, .int 0, .int 0, .int 0, .null, .null, .null, .null]), .inl (.int, 24, .inl (fun _ => 0))]
  repeat (refine mw_step rfl ?_)
  refine mw_newa (N := 40) (by decide) (by decide) rfl (by decide) (Nat.le_of_ble_eq_true rfl) (Nat.le_of_ble_eq_true rfl) ?_
  repeat (refine mw_to 20 rfl rfl ?_)
  show MW M_O_init 1 30 3000 none _ 2 64 20 [(0, .ref 39)] [] [p0, p1, p2, p3, p4, p5, p6, p7, p8, p9, p10, p11, p12, p13, p14, p15, p16, p17, p18, p19, p20, p21, p22, p23, p24, p25, p26, p27, p28, p29, p30, p31, p32, p33, p34, p35, p36, p37, p38, .inr (9, [.ref 40, .ref 41, .null, .null, .int 0, .int 0, .int 0, .null, .null, .null, .null, .int 0, .null, .null, .int 0, .int 0, .int 0, .int 0, .int 0, .null, .null, .null, .null, .null, .long 0, .null, .null, .int 0, .null, .null, .null, .null, .int 0, .int 0, .int 0, .null, .null, .int 0, .int 0, .int 0, .null, .null, .null, .null]), .inl (.int, 24, .inl (fun _ => 0)), .inl (.int, 40, .inl (fun _ => 0))]
  repeat (refine mw_step rfl ?_)
  refine mw_newa (N := 40) (by decide) (by decide) rfl (by decide) (Nat.le_of_ble_eq_true rfl) (Nat.le_of_ble_eq_true rfl) ?_
  repeat (refine mw_to 28 rfl rfl ?_)
  show MW M_O_init 1 30 3000 none _ 3 104 28 [(0, .ref 39)] [] [p0, p1, p2, p3, p4, p5, p6, p7, p8, p9, p10, p11, p12, p13, p14, p15, p16, p17, p18, p19, p20, p21, p22, p23, p24, p25, p26, p27, p28, p29, p30, p31, p32, p33, p34, p35, p36, p37, p38, .inr (9, [.ref 40, .ref 41, .ref 42, .null, .int 0, .int 0, .int 0, .null, .null, .null, .null, .int 0, .null, .null, .int 0, .int 0, .int 0, .int 0, .int 0, .null, .null, .null, .null, .null, .long 0, .null, .null, .int 0, .null, .null, .null, .null, .int 0, .int 0, .int 0, .null, .null, .int 0, .int 0, .int 0, .null, .null, .null, .null]), .inl (.int, 24, .inl (fun _ => 0)), .inl (.int, 40, .inl (fun _ => 0)), .inl (.int, 40, .inl (fun _ => 0))]
  repeat (refine mw_step rfl ?_)
  refine mw_newa (N := 40) (by decide) (by decide) rfl (by decide) (Nat.le_of_ble_eq_true rfl) (Nat.le_of_ble_eq_true rfl) ?_
  repeat (refine mw_to 36 rfl rfl ?_)
  show MW M_O_init 1 30 3000 none _ 4 144 36 [(0, .ref 39)] [] [p0, p1, p2, p3, p4, p5, p6, p7, p8, p9, p10, p11, p12, p13, p14, p15, p16, p17, p18, p19, p20, p21, p22, p23, p24, p25, p26, p27, p28, p29, p30, p31, p32, p33, p34, p35, p36, p37, p38, .inr (9, [.ref 40, .ref 41, .ref 42, .ref 43, .int 0, .int 0, .int 0, .null, .null, .null, .null, .int 0, .null, .null, .int 0, .int 0, .int 0, .int 0, .int 0, .null, .null, .null, .null, .null, .long 0, .null, .null, .int 0, .null, .null, .null, .null, .int 0, .int 0, .int 0, .null, .null, .int 0, .int 0, .int 0, .null, .null, .null, .null]), .inl (.int, 24, .inl (fun _ => 0)), .inl (.int, 40, .inl (fun _ => 0)), .inl (.int, 40, .inl (fun _ => 0)), .inl (.int, 40, .inl (fun _ => 0))]
  repeat (refine mw_step rfl ?_)
  refine mw_newa (N := 8) (by decide) (by decide) rfl (by decide) (Nat.le_of_ble_eq_true rfl) (Nat.le_of_ble_eq_true rfl) ?_
  repeat (refine mw_to 44 rfl rfl ?_)
  show MW M_O_init 1 30 3000 none _ 5 152 44 [(0, .ref 39)] [] [p0, p1, p2, p3, p4, p5, p6, p7, p8, p9, p10, p11, p12, p13, p14, p15, p16, p17, p18, p19, p20, p21, p22, p23, p24, p25, p26, p27, p28, p29, p30, p31, p32, p33, p34, p35, p36, p37, p38, .inr (9, [.ref 40, .ref 41, .ref 42, .ref 43, .int 0, .int 0, .int 0, .ref 44, .null, .null, .null, .int 0, .null, .null, .int 0, .int 0, .int 0, .int 0, .int 0, .null, .null, .null, .null, .null, .long 0, .null, .null, .int 0, .null, .null, .null, .null, .int 0, .int 0, .int 0, .null, .null, .int 0, .int 0, .int 0, .null, .null, .null, .null]), .inl (.int, 24, .inl (fun _ => 0)), .inl (.int, 40, .inl (fun _ => 0)), .inl (.int, 40, .inl (fun _ => 0)), .inl (.int, 40, .inl (fun _ => 0)), .inl (.int, 8, .inl (fun _ => 0))]
  repeat (refine mw_step rfl ?_)
  refine mw_newa (N := 8) (by decide) (by decide) rfl (by decide) (Nat.le_of_ble_eq_true rfl) (Nat.le_of_ble_eq_true rfl) ?_
  repeat (refine mw_to 52 rfl rfl ?_)
  show MW M_O_init 1 30 3000 none _ 6 160 52 [(0, .ref 39)] [] [p0, p1, p2, p3, p4, p5, p6, p7, p8, p9, p10, p11, p12, p13, p14, p15, p16, p17, p18, p19, p20, p21, p22, p23, p24, p25, p26, p27, p28, p29, p30, p31, p32, p33, p34, p35, p36, p37, p38, .inr (9, [.ref 40, .ref 41, .ref 42, .ref 43, .int 0, .int 0, .int 0, .ref 44, .ref 45, .null, .null, .int 0, .null, .null, .int 0, .int 0, .int 0, .int 0, .int 0, .null, .null, .null, .null, .null, .long 0, .null, .null, .int 0, .null, .null, .null, .null, .int 0, .int 0, .int 0, .null, .null, .int 0, .int 0, .int 0, .null, .null, .null, .null]), .inl (.int, 24, .inl (fun _ => 0)), .inl (.int, 40, .inl (fun _ => 0)), .inl (.int, 40, .inl (fun _ => 0)), .inl (.int, 40, .inl (fun _ => 0)), .inl (.int, 8, .inl (fun _ => 0)), .inl (.int, 8, .inl (fun _ => 0))]
  repeat (refine mw_step rfl ?_)
  refine mw_newa (N := 48) (by decide) (by decide) rfl (by decide) (Nat.le_of_ble_eq_true rfl) (Nat.le_of_ble_eq_true rfl) ?_
  repeat (refine mw_to 60 rfl rfl ?_)
  show MW M_O_init 1 30 3000 none _ 7 208 60 [(0, .ref 39)] [] [p0, p1, p2, p3, p4, p5, p6, p7, p8, p9, p10, p11, p12, p13, p14, p15, p16, p17, p18, p19, p20, p21, p22, p23, p24, p25, p26, p27, p28, p29, p30, p31, p32, p33, p34, p35, p36, p37, p38, .inr (9, [.ref 40, .ref 41, .ref 42, .ref 43, .int 0, .int 0, .int 0, .ref 44, .ref 45, .ref 46, .null, .int 0, .null, .null, .int 0, .int 0, .int 0, .int 0, .int 0, .null, .null, .null, .null, .null, .long 0, .null, .null, .int 0, .null, .null, .null, .null, .int 0, .int 0, .int 0, .null, .null, .int 0, .int 0, .int 0, .null, .null, .null, .null]), .inl (.int, 24, .inl (fun _ => 0)), .inl (.int, 40, .inl (fun _ => 0)), .inl (.int, 40, .inl (fun _ => 0)), .inl (.int, 40, .inl (fun _ => 0)), .inl (.int, 8, .inl (fun _ => 0)), .inl (.int, 8, .inl (fun _ => 0)), .inl (.int, 48, .inl (fun _ => 0))]
  repeat (refine mw_step rfl ?_)
  refine mw_newa (N := 120) (by decide) (by decide) rfl (by decide) (Nat.le_of_ble_eq_true rfl) (Nat.le_of_ble_eq_true rfl) ?_
  repeat (refine mw_to 68 rfl rfl ?_)
  show MW M_O_init 1 30 3000 none _ 8 328 68 [(0, .ref 39)] [] [p0, p1, p2, p3, p4, p5, p6, p7, p8, p9, p10, p11, p12, p13, p14, p15, p16, p17, p18, p19, p20, p21, p22, p23, p24, p25, p26, p27, p28, p29, p30, p31, p32, p33, p34, p35, p36, p37, p38, .inr (9, [.ref 40, .ref 41, .ref 42, .ref 43, .int 0, .int 0, .int 0, .ref 44, .ref 45, .ref 46, .ref 47, .int 0, .null, .null, .int 0, .int 0, .int 0, .int 0, .int 0, .null, .null, .null, .null, .null, .long 0, .null, .null, .int 0, .null, .null, .null, .null, .int 0, .int 0, .int 0, .null, .null, .int 0, .int 0, .int 0, .null, .null, .null, .null]), .inl (.int, 24, .inl (fun _ => 0)), .inl (.int, 40, .inl (fun _ => 0)), .inl (.int, 40, .inl (fun _ => 0)), .inl (.int, 40, .inl (fun _ => 0)), .inl (.int, 8, .inl (fun _ => 0)), .inl (.int, 8, .inl (fun _ => 0)), .inl (.int, 48, .inl (fun _ => 0)), .inl (.int, 120, .inl (fun _ => 0))]
  repeat (refine mw_step rfl ?_)
  refine mw_newa (N := 720) (by decide) (by decide) rfl (by decide) (Nat.le_of_ble_eq_true rfl) (Nat.le_of_ble_eq_true rfl) ?_
  repeat (refine mw_to 77 rfl rfl ?_)
  show MW M_O_init 1 30 3000 none _ 9 1048 77 [(0, .ref 39)] [] [p0, p1, p2, p3, p4, p5, p6, p7, p8, p9, p10, p11, p12, p13, p14, p15, p16, p17, p18, p19, p20, p21, p22, p23, p24, p25, p26, p27, p28, p29, p30, p31, p32, p33, p34, p35, p36, p37, p38, .inr (9, [.ref 40, .ref 41, .ref 42, .ref 43, .int 0, .int 0, .int 0, .ref 44, .ref 45, .ref 46, .ref 47, .int 0, .ref 48, .null, .int 0, .int 0, .int 0, .int 0, .int 0, .null, .null, .null, .null, .null, .long 0, .null, .null, .int 0, .null, .null, .null, .null, .int 0, .int 0, .int 0, .null, .null, .int 0, .int 0, .int 0, .null, .null, .null, .null]), .inl (.int, 24, .inl (fun _ => 0)), .inl (.int, 40, .inl (fun _ => 0)), .inl (.int, 40, .inl (fun _ => 0)), .inl (.int, 40, .inl (fun _ => 0)), .inl (.int, 8, .inl (fun _ => 0)), .inl (.int, 8, .inl (fun _ => 0)), .inl (.int, 48, .inl (fun _ => 0)), .inl (.int, 120, .inl (fun _ => 0)), .inl (.int, 720, .inl (fun _ => 0))]
  repeat (refine mw_step rfl ?_)
  refine mw_newa (N := 6) (by decide) (by decide) rfl (by decide) (Nat.le_of_ble_eq_true rfl) (Nat.le_of_ble_eq_true rfl) ?_
  repeat (refine mw_to 85 rfl rfl ?_)
  show MW M_O_init 1 30 3000 none _ 10 1054 85 [(0, .ref 39)] [] [p0, p1, p2, p3, p4, p5, p6, p7, p8, p9, p10, p11, p12, p13, p14, p15, p16, p17, p18, p19, p20, p21, p22, p23, p24, p25, p26, p27, p28, p29, p30, p31, p32, p33, p34, p35, p36, p37, p38, .inr (9, [.ref 40, .ref 41, .ref 42, .ref 43, .int 0, .int 0, .int 0, .ref 44, .ref 45, .ref 46, .ref 47, .int 0, .ref 48, .ref 49, .int 0, .int 0, .int 0, .int 0, .int 0, .null, .null, .null, .null, .null, .long 0, .null, .null, .int 0, .null, .null, .null, .null, .int 0, .int 0, .int 0, .null, .null, .int 0, .int 0, .int 0, .null, .null, .null, .null]), .inl (.int, 24, .inl (fun _ => 0)), .inl (.int, 40, .inl (fun _ => 0)), .inl (.int, 40, .inl (fun _ => 0)), .inl (.int, 40, .inl (fun _ => 0)), .inl (.int, 8, .inl (fun _ => 0)), .inl (.int, 8, .inl (fun _ => 0)), .inl (.int, 48, .inl (fun _ => 0)), .inl (.int, 120, .inl (fun _ => 0)), .inl (.int, 720, .inl (fun _ => 0)), .inl (.int, 6, .inl (fun _ => 0))]
  repeat (refine mw_step rfl ?_)
  refine mw_newa (N := 4) (by decide) (by decide) rfl (by decide) (Nat.le_of_ble_eq_true rfl) (Nat.le_of_ble_eq_true rfl) ?_
  repeat (refine mw_to 92 rfl rfl ?_)
  show MW M_O_init 1 30 3000 none _ 11 1058 92 [(0, .ref 39)] [] [p0, p1, p2, p3, p4, p5, p6, p7, p8, p9, p10, p11, p12, p13, p14, p15, p16, p17, p18, p19, p20, p21, p22, p23, p24, p25, p26, p27, p28, p29, p30, p31, p32, p33, p34, p35, p36, p37, p38, .inr (9, [.ref 40, .ref 41, .ref 42, .ref 43, .int 0, .int 0, .int 0, .ref 44, .ref 45, .ref 46, .ref 47, .int 0, .ref 48, .ref 49, .int 0, .int 0, .int 0, .int 0, .int 0, .ref 50, .null, .null, .null, .null, .long 0, .null, .null, .int 0, .null, .null, .null, .null, .int 0, .int 0, .int 0, .null, .null, .int 0, .int 0, .int 0, .null, .null, .null, .null]), .inl (.int, 24, .inl (fun _ => 0)), .inl (.int, 40, .inl (fun _ => 0)), .inl (.int, 40, .inl (fun _ => 0)), .inl (.int, 40, .inl (fun _ => 0)), .inl (.int, 8, .inl (fun _ => 0)), .inl (.int, 8, .inl (fun _ => 0)), .inl (.int, 48, .inl (fun _ => 0)), .inl (.int, 120, .inl (fun _ => 0)), .inl (.int, 720, .inl (fun _ => 0)), .inl (.int, 6, .inl (fun _ => 0)), .inl (.int, 4, .inl (fun _ => 0))]
  repeat (refine mw_step rfl ?_)
  refine mw_newa (N := 1080) (by decide) (by decide) rfl (by decide) (Nat.le_of_ble_eq_true rfl) (Nat.le_of_ble_eq_true rfl) ?_
  repeat (refine mw_to 101 rfl rfl ?_)
  show MW M_O_init 1 30 3000 none _ 12 2138 101 [(0, .ref 39)] [] [p0, p1, p2, p3, p4, p5, p6, p7, p8, p9, p10, p11, p12, p13, p14, p15, p16, p17, p18, p19, p20, p21, p22, p23, p24, p25, p26, p27, p28, p29, p30, p31, p32, p33, p34, p35, p36, p37, p38, .inr (9, [.ref 40, .ref 41, .ref 42, .ref 43, .int 0, .int 0, .int 0, .ref 44, .ref 45, .ref 46, .ref 47, .int 0, .ref 48, .ref 49, .int 0, .int 0, .int 0, .int 0, .int 0, .ref 50, .ref 51, .null, .null, .null, .long 0, .null, .null, .int 0, .null, .null, .null, .null, .int 0, .int 0, .int 0, .null, .null, .int 0, .int 0, .int 0, .null, .null, .null, .null]), .inl (.int, 24, .inl (fun _ => 0)), .inl (.int, 40, .inl (fun _ => 0)), .inl (.int, 40, .inl (fun _ => 0)), .inl (.int, 40, .inl (fun _ => 0)), .inl (.int, 8, .inl (fun _ => 0)), .inl (.int, 8, .inl (fun _ => 0)), .inl (.int, 48, .inl (fun _ => 0)), .inl (.int, 120, .inl (fun _ => 0)), .inl (.int, 720, .inl (fun _ => 0)), .inl (.int, 6, .inl (fun _ => 0)), .inl (.int, 4, .inl (fun _ => 0)), .inl (.int, 1080, .inl (fun _ => 0))]
  repeat (refine mw_step rfl ?_)
  refine mw_newa (N := 6) (by decide) (by decide) rfl (by decide) (Nat.le_of_ble_eq_true rfl) (Nat.le_of_ble_eq_true rfl) ?_
  repeat (refine mw_to 109 rfl rfl ?_)
  show MW M_O_init 1 30 3000 none _ 13 2144 109 [(0, .ref 39)] [] [p0, p1, p2, p3, p4, p5, p6, p7, p8, p9, p10, p11, p12, p13, p14, p15, p16, p17, p18, p19, p20, p21, p22, p23, p24, p25, p26, p27, p28, p29, p30, p31, p32, p33, p34, p35, p36, p37, p38, .inr (9, [.ref 40, .ref 41, .ref 42, .ref 43, .int 0, .int 0, .int 0, .ref 44, .ref 45, .ref 46, .ref 47, .int 0, .ref 48, .ref 49, .int 0, .int 0, .int 0, .int 0, .int 0, .ref 50, .ref 51, .ref 52, .null, .null, .long 0, .null, .null, .int 0, .null, .null, .null, .null, .int 0, .int 0, .int 0, .null, .null, .int 0, .int 0, .int 0, .null, .null, .null, .null]), .inl (.int, 24, .inl (fun _ => 0)), .inl (.int, 40, .inl (fun _ => 0)), .inl (.int, 40, .inl (fun _ => 0)), .inl (.int, 40, .inl (fun _ => 0)), .inl (.int, 8, .inl (fun _ => 0)), .inl (.int, 8, .inl (fun _ => 0)), .inl (.int, 48, .inl (fun _ => 0)), .inl (.int, 120, .inl (fun _ => 0)), .inl (.int, 720, .inl (fun _ => 0)), .inl (.int, 6, .inl (fun _ => 0)), .inl (.int, 4, .inl (fun _ => 0)), .inl (.int, 1080, .inl (fun _ => 0)), .inl (.int, 6, .inl (fun _ => 0))]
  repeat (refine mw_step rfl ?_)
  refine mw_newa (N := 180) (by decide) (by decide) rfl (by decide) (Nat.le_of_ble_eq_true rfl) (Nat.le_of_ble_eq_true rfl) ?_
  repeat (refine mw_to 118 rfl rfl ?_)
  show MW M_O_init 1 30 3000 none _ 14 2324 118 [(0, .ref 39)] [] [p0, p1, p2, p3, p4, p5, p6, p7, p8, p9, p10, p11, p12, p13, p14, p15, p16, p17, p18, p19, p20, p21, p22, p23, p24, p25, p26, p27, p28, p29, p30, p31, p32, p33, p34, p35, p36, p37, p38, .inr (9, [.ref 40, .ref 41, .ref 42, .ref 43, .int 0, .int 0, .int 0, .ref 44, .ref 45, .ref 46, .ref 47, .int 0, .ref 48, .ref 49, .int 0, .int 0, .int 0, .int 0, .int 0, .ref 50, .ref 51, .ref 52, .ref 53, .null, .long 0, .null, .null, .int 0, .null, .null, .null, .null, .int 0, .int 0, .int 0, .null, .null, .int 0, .int 0, .int 0, .null, .null, .null, .null]), .inl (.int, 24, .inl (fun _ => 0)), .inl (.int, 40, .inl (fun _ => 0)), .inl (.int, 40, .inl (fun _ => 0)), .inl (.int, 40, .inl (fun _ => 0)), .inl (.int, 8, .inl (fun _ => 0)), .inl (.int, 8, .inl (fun _ => 0)), .inl (.int, 48, .inl (fun _ => 0)), .inl (.int, 120, .inl (fun _ => 0)), .inl (.int, 720, .inl (fun _ => 0)), .inl (.int, 6, .inl (fun _ => 0)), .inl (.int, 4, .inl (fun _ => 0)), .inl (.int, 1080, .inl (fun _ => 0)), .inl (.int, 6, .inl (fun _ => 0)), .inl (.long, 180, .inr (.inl (fun _ => 0)))]
  repeat (refine mw_step rfl ?_)
  refine mw_newa (N := 6) (by decide) (by decide) rfl (by decide) (Nat.le_of_ble_eq_true rfl) (Nat.le_of_ble_eq_true rfl) ?_
  repeat (refine mw_to 126 rfl rfl ?_)
  show MW M_O_init 1 30 3000 none _ 15 2330 126 [(0, .ref 39)] [] [p0, p1, p2, p3, p4, p5, p6, p7, p8, p9, p10, p11, p12, p13, p14, p15, p16, p17, p18, p19, p20, p21, p22, p23, p24, p25, p26, p27, p28, p29, p30, p31, p32, p33, p34, p35, p36, p37, p38, .inr (9, [.ref 40, .ref 41, .ref 42, .ref 43, .int 0, .int 0, .int 0, .ref 44, .ref 45, .ref 46, .ref 47, .int 0, .ref 48, .ref 49, .int 0, .int 0, .int 0, .int 0, .int 0, .ref 50, .ref 51, .ref 52, .ref 53, .ref 54, .long 0, .null, .null, .int 0, .null, .null, .null, .null, .int 0, .int 0, .int 0, .null, .null, .int 0, .int 0, .int 0, .null, .null, .null, .null]), .inl (.int, 24, .inl (fun _ => 0)), .inl (.int, 40, .inl (fun _ => 0)), .inl (.int, 40, .inl (fun _ => 0)), .inl (.int, 40, .inl (fun _ => 0)), .inl (.int, 8, .inl (fun _ => 0)), .inl (.int, 8, .inl (fun _ => 0)), .inl (.int, 48, .inl (fun _ => 0)), .inl (.int, 120, .inl (fun _ => 0)), .inl (.int, 720, .inl (fun _ => 0)), .inl (.int, 6, .inl (fun _ => 0)), .inl (.int, 4, .inl (fun _ => 0)), .inl (.int, 1080, .inl (fun _ => 0)), .inl (.int, 6, .inl (fun _ => 0)), .inl (.long, 180, .inr (.inl (fun _ => 0))), .inl (.long, 6, .inr (.inl (fun _ => 0)))]
  repeat (refine mw_step rfl ?_)
  refine mw_newa (N := 8) (by decide) (by decide) rfl (by decide) (Nat.le_of_ble_eq_true rfl) (Nat.le_of_ble_eq_true rfl) ?_
  repeat (refine mw_to 134 rfl rfl ?_)
  show MW M_O_init 1 30 3000 none _ 16 2338 134 [(0, .ref 39)] [] [p0, p1, p2, p3, p4, p5, p6, p7, p8, p9, p10, p11, p12, p13, p14, p15, p16, p17, p18, p19, p20, p21, p22, p23, p24, p25, p26, p27, p28, p29, p30, p31, p32, p33, p34, p35, p36, p37, p38, .inr (9, [.ref 40, .ref 41, .ref 42, .ref 43, .int 0, .int 0, .int 0, .ref 44, .ref 45, .ref 46, .ref 47, .int 0, .ref 48, .ref 49, .int 0, .int 0, .int 0, .int 0, .int 0, .ref 50, .ref 51, .ref 52, .ref 53, .ref 54, .long 0, .ref 55, .null, .int 0, .null, .null, .null, .null, .int 0, .int 0, .int 0, .null, .null, .int 0, .int 0, .int 0, .null, .null, .null, .null]), .inl (.int, 24, .inl (fun _ => 0)), .inl (.int, 40, .inl (fun _ => 0)), .inl (.int, 40, .inl (fun _ => 0)), .inl (.int, 40, .inl (fun _ => 0)), .inl (.int, 8, .inl (fun _ => 0)), .inl (.int, 8, .inl (fun _ => 0)), .inl (.int, 48, .inl (fun _ => 0)), .inl (.int, 120, .inl (fun _ => 0)), .inl (.int, 720, .inl (fun _ => 0)), .inl (.int, 6, .inl (fun _ => 0)), .inl (.int, 4, .inl (fun _ => 0)), .inl (.int, 1080, .inl (fun _ => 0)), .inl (.int, 6, .inl (fun _ => 0)), .inl (.long, 180, .inr (.inl (fun _ => 0))), .inl (.long, 6, .inr (.inl (fun _ => 0))), .inl (.int, 8, .inl (fun _ => 0))]
  repeat (refine mw_step rfl ?_)
  refine mw_newa (N := 8) (by decide) (by decide) rfl (by decide) (Nat.le_of_ble_eq_true rfl) (Nat.le_of_ble_eq_true rfl) ?_
  repeat (refine mw_to 142 rfl rfl ?_)
  show MW M_O_init 1 30 3000 none _ 17 2346 142 [(0, .ref 39)] [] [p0, p1, p2, p3, p4, p5, p6, p7, p8, p9, p10, p11, p12, p13, p14, p15, p16, p17, p18, p19, p20, p21, p22, p23, p24, p25, p26, p27, p28, p29, p30, p31, p32, p33, p34, p35, p36, p37, p38, .inr (9, [.ref 40, .ref 41, .ref 42, .ref 43, .int 0, .int 0, .int 0, .ref 44, .ref 45, .ref 46, .ref 47, .int 0, .ref 48, .ref 49, .int 0, .int 0, .int 0, .int 0, .int 0, .ref 50, .ref 51, .ref 52, .ref 53, .ref 54, .long 0, .ref 55, .ref 56, .int 0, .null, .null, .null, .null, .int 0, .int 0, .int 0, .null, .null, .int 0, .int 0, .int 0, .null, .null, .null, .null]), .inl (.int, 24, .inl (fun _ => 0)), .inl (.int, 40, .inl (fun _ => 0)), .inl (.int, 40, .inl (fun _ => 0)), .inl (.int, 40, .inl (fun _ => 0)), .inl (.int, 8, .inl (fun _ => 0)), .inl (.int, 8, .inl (fun _ => 0)), .inl (.int, 48, .inl (fun _ => 0)), .inl (.int, 120, .inl (fun _ => 0)), .inl (.int, 720, .inl (fun _ => 0)), .inl (.int, 6, .inl (fun _ => 0)), .inl (.int, 4, .inl (fun _ => 0)), .inl (.int, 1080, .inl (fun _ => 0)), .inl (.int, 6, .inl (fun _ => 0)), .inl (.long, 180, .inr (.inl (fun _ => 0))), .inl (.long, 6, .inr (.inl (fun _ => 0))), .inl (.int, 8, .inl (fun _ => 0)), .inl (.int, 8, .inl (fun _ => 0))]
  repeat (refine mw_step rfl ?_)
  refine mw_newa (N := 10) (by decide) (by decide) rfl (by decide) (Nat.le_of_ble_eq_true rfl) (Nat.le_of_ble_eq_true rfl) ?_
  repeat (refine mw_to 150 rfl rfl ?_)
  show MW M_O_init 1 30 3000 none _ 18 2356 150 [(0, .ref 39)] [] [p0, p1, p2, p3, p4, p5, p6, p7, p8, p9, p10, p11, p12, p13, p14, p15, p16, p17, p18, p19, p20, p21, p22, p23, p24, p25, p26, p27, p28, p29, p30, p31, p32, p33, p34, p35, p36, p37, p38, .inr (9, [.ref 40, .ref 41, .ref 42, .ref 43, .int 0, .int 0, .int 0, .ref 44, .ref 45, .ref 46, .ref 47, .int 0, .ref 48, .ref 49, .int 0, .int 0, .int 0, .int 0, .int 0, .ref 50, .ref 51, .ref 52, .ref 53, .ref 54, .long 0, .ref 55, .ref 56, .int 0, .ref 57, .null, .null, .null, .int 0, .int 0, .int 0, .null, .null, .int 0, .int 0, .int 0, .null, .null, .null, .null]), .inl (.int, 24, .inl (fun _ => 0)), .inl (.int, 40, .inl (fun _ => 0)), .inl (.int, 40, .inl (fun _ => 0)), .inl (.int, 40, .inl (fun _ => 0)), .inl (.int, 8, .inl (fun _ => 0)), .inl (.int, 8, .inl (fun _ => 0)), .inl (.int, 48, .inl (fun _ => 0)), .inl (.int, 120, .inl (fun _ => 0)), .inl (.int, 720, .inl (fun _ => 0)), .inl (.int, 6, .inl (fun _ => 0)), .inl (.int, 4, .inl (fun _ => 0)), .inl (.int, 1080, .inl (fun _ => 0)), .inl (.int, 6, .inl (fun _ => 0)), .inl (.long, 180, .inr (.inl (fun _ => 0))), .inl (.long, 6, .inr (.inl (fun _ => 0))), .inl (.int, 8, .inl (fun _ => 0)), .inl (.int, 8, .inl (fun _ => 0)), .inl (.int, 10, .inl (fun _ => 0))]
  repeat (refine mw_step rfl ?_)
  refine mw_newa (N := 10) (by decide) (by decide) rfl (by decide) (Nat.le_of_ble_eq_true rfl) (Nat.le_of_ble_eq_true rfl) ?_
  repeat (refine mw_to 158 rfl rfl ?_)
  show MW M_O_init 1 30 3000 none _ 19 2366 158 [(0, .ref 39)] [] [p0, p1, p2, p3, p4, p5, p6, p7, p8, p9, p10, p11, p12, p13, p14, p15, p16, p17, p18, p19, p20, p21, p22, p23, p24, p25, p26, p27, p28, p29, p30, p31, p32, p33, p34, p35, p36, p37, p38, .inr (9, [.ref 40, .ref 41, .ref 42, .ref 43, .int 0, .int 0, .int 0, .ref 44, .ref 45, .ref 46, .ref 47, .int 0, .ref 48, .ref 49, .int 0, .int 0, .int 0, .int 0, .int 0, .ref 50, .ref 51, .ref 52, .ref 53, .ref 54, .long 0, .ref 55, .ref 56, .int 0, .ref 57, .ref 58, .null, .null, .int 0, .int 0, .int 0, .null, .null, .int 0, .int 0, .int 0, .null, .null, .null, .null]), .inl (.int, 24, .inl (fun _ => 0)), .inl (.int, 40, .inl (fun _ => 0)), .inl (.int, 40, .inl (fun _ => 0)), .inl (.int, 40, .inl (fun _ => 0)), .inl (.int, 8, .inl (fun _ => 0)), .inl (.int, 8, .inl (fun _ => 0)), .inl (.int, 48, .inl (fun _ => 0)), .inl (.int, 120, .inl (fun _ => 0)), .inl (.int, 720, .inl (fun _ => 0)), .inl (.int, 6, .inl (fun _ => 0)), .inl (.int, 4, .inl (fun _ => 0)), .inl (.int, 1080, .inl (fun _ => 0)), .inl (.int, 6, .inl (fun _ => 0)), .inl (.long, 180, .inr (.inl (fun _ => 0))), .inl (.long, 6, .inr (.inl (fun _ => 0))), .inl (.int, 8, .inl (fun _ => 0)), .inl (.int, 8, .inl (fun _ => 0)), .inl (.int, 10, .inl (fun _ => 0)), .inl (.int, 10, .inl (fun _ => 0))]
  repeat (refine mw_step rfl ?_)
  refine mw_newa (N := 10) (by decide) (by decide) rfl (by decide) (Nat.le_of_ble_eq_true rfl) (Nat.le_of_ble_eq_true rfl) ?_
  repeat (refine mw_to 166 rfl rfl ?_)
  show MW M_O_init 1 30 3000 none _ 20 2376 166 [(0, .ref 39)] [] [p0, p1, p2, p3, p4, p5, p6, p7, p8, p9, p10, p11, p12, p13, p14, p15, p16, p17, p18, p19, p20, p21, p22, p23, p24, p25, p26, p27, p28, p29, p30, p31, p32, p33, p34, p35, p36, p37, p38, .inr (9, [.ref 40, .ref 41, .ref 42, .ref 43, .int 0, .int 0, .int 0, .ref 44, .ref 45, .ref 46, .ref 47, .int 0, .ref 48, .ref 49, .int 0, .int 0, .int 0, .int 0, .int 0, .ref 50, .ref 51, .ref 52, .ref 53, .ref 54, .long 0, .ref 55, .ref 56, .int 0, .ref 57, .ref 58, .ref 59, .null, .int 0, .int 0, .int 0, .null, .null, .int 0, .int 0, .int 0, .null, .null, .null, .null]), .inl (.int, 24, .inl (fun _ => 0)), .inl (.int, 40, .inl (fun _ => 0)), .inl (.int, 40, .inl (fun _ => 0)), .inl (.int, 40, .inl (fun _ => 0)), .inl (.int, 8, .inl (fun _ => 0)), .inl (.int, 8, .inl (fun _ => 0)), .inl (.int, 48, .inl (fun _ => 0)), .inl (.int, 120, .inl (fun _ => 0)), .inl (.int, 720, .inl (fun _ => 0)), .inl (.int, 6, .inl (fun _ => 0)), .inl (.int, 4, .inl (fun _ => 0)), .inl (.int, 1080, .inl (fun _ => 0)), .inl (.int, 6, .inl (fun _ => 0)), .inl (.long, 180, .inr (.inl (fun _ => 0))), .inl (.long, 6, .inr (.inl (fun _ => 0))), .inl (.int, 8, .inl (fun _ => 0)), .inl (.int, 8, .inl (fun _ => 0)), .inl (.int, 10, .inl (fun _ => 0)), .inl (.int, 10, .inl (fun _ => 0)), .inl (.int, 10, .inl (fun _ => 0))]
  repeat (refine mw_step rfl ?_)
  refine mw_newa (N := 48) (by decide) (by decide) rfl (by decide) (Nat.le_of_ble_eq_true rfl) (Nat.le_of_ble_eq_true rfl) ?_
  repeat (refine mw_to 174 rfl rfl ?_)
  show MW M_O_init 1 30 3000 none _ 21 2424 174 [(0, .ref 39)] [] [p0, p1, p2, p3, p4, p5, p6, p7, p8, p9, p10, p11, p12, p13, p14, p15, p16, p17, p18, p19, p20, p21, p22, p23, p24, p25, p26, p27, p28, p29, p30, p31, p32, p33, p34, p35, p36, p37, p38, .inr (9, [.ref 40, .ref 41, .ref 42, .ref 43, .int 0, .int 0, .int 0, .ref 44, .ref 45, .ref 46, .ref 47, .int 0, .ref 48, .ref 49, .int 0, .int 0, .int 0, .int 0, .int 0, .ref 50, .ref 51, .ref 52, .ref 53, .ref 54, .long 0, .ref 55, .ref 56, .int 0, .ref 57, .ref 58, .ref 59, .ref 60, .int 0, .int 0, .int 0, .null, .null, .int 0, .int 0, .int 0, .null, .null, .null, .null]), .inl (.int, 24, .inl (fun _ => 0)), .inl (.int, 40, .inl (fun _ => 0)), .inl (.int, 40, .inl (fun _ => 0)), .inl (.int, 40, .inl (fun _ => 0)), .inl (.int, 8, .inl (fun _ => 0)), .inl (.int, 8, .inl (fun _ => 0)), .inl (.int, 48, .inl (fun _ => 0)), .inl (.int, 120, .inl (fun _ => 0)), .inl (.int, 720, .inl (fun _ => 0)), .inl (.int, 6, .inl (fun _ => 0)), .inl (.int, 4, .inl (fun _ => 0)), .inl (.int, 1080, .inl (fun _ => 0)), .inl (.int, 6, .inl (fun _ => 0)), .inl (.long, 180, .inr (.inl (fun _ => 0))), .inl (.long, 6, .inr (.inl (fun _ => 0))), .inl (.int, 8, .inl (fun _ => 0)), .inl (.int, 8, .inl (fun _ => 0)), .inl (.int, 10, .inl (fun _ => 0)), .inl (.int, 10, .inl (fun _ => 0)), .inl (.int, 10, .inl (fun _ => 0)), .inl (.int, 48, .inl (fun _ => 0))]
  repeat (refine mw_step rfl ?_)
  refine mw_newa (N := 50) (by decide) (by decide) rfl (by decide) (Nat.le_of_ble_eq_true rfl) (Nat.le_of_ble_eq_true rfl) ?_
  repeat (refine mw_to 182 rfl rfl ?_)
  show MW M_O_init 1 30 3000 none _ 22 2474 182 [(0, .ref 39)] [] [p0, p1, p2, p3, p4, p5, p6, p7, p8, p9, p10, p11, p12, p13, p14, p15, p16, p17, p18, p19, p20, p21, p22, p23, p24, p25, p26, p27, p28, p29, p30, p31, p32, p33, p34, p35, p36, p37, p38, .inr (9, [.ref 40, .ref 41, .ref 42, .ref 43, .int 0, .int 0, .int 0, .ref 44, .ref 45, .ref 46, .ref 47, .int 0, .ref 48, .ref 49, .int 0, .int 0, .int 0, .int 0, .int 0, .ref 50, .ref 51, .ref 52, .ref 53, .ref 54, .long 0, .ref 55, .ref 56, .int 0, .ref 57, .ref 58, .ref 59, .ref 60, .int 0, .int 0, .int 0, .ref 61, .null, .int 0, .int 0, .int 0, .null, .null, .null, .null]), .inl (.int, 24, .inl (fun _ => 0)), .inl (.int, 40, .inl (fun _ => 0)), .inl (.int, 40, .inl (fun _ => 0)), .inl (.int, 40, .inl (fun _ => 0)), .inl (.int, 8, .inl (fun _ => 0)), .inl (.int, 8, .inl (fun _ => 0)), .inl (.int, 48, .inl (fun _ => 0)), .inl (.int, 120, .inl (fun _ => 0)), .inl (.int, 720, .inl (fun _ => 0)), .inl (.int, 6, .inl (fun _ => 0)), .inl (.int, 4, .inl (fun _ => 0)), .inl (.int, 1080, .inl (fun _ => 0)), .inl (.int, 6, .inl (fun _ => 0)), .inl (.long, 180, .inr (.inl (fun _ => 0))), .inl (.long, 6, .inr (.inl (fun _ => 0))), .inl (.int, 8, .inl (fun _ => 0)), .inl (.int, 8, .inl (fun _ => 0)), .inl (.int, 10, .inl (fun _ => 0)), .inl (.int, 10, .inl (fun _ => 0)), .inl (.int, 10, .inl (fun _ => 0)), .inl (.int, 48, .inl (fun _ => 0)), .inl (.int, 50, .inl (fun _ => 0))]
  repeat (refine mw_step rfl ?_)
  refine mw_newa (N := 24) (by decide) (by decide) rfl (by decide) (Nat.le_of_ble_eq_true rfl) (Nat.le_of_ble_eq_true rfl) ?_
  repeat (refine mw_to 190 rfl rfl ?_)
  show MW M_O_init 1 30 3000 none _ 23 2498 190 [(0, .ref 39)] [] [p0, p1, p2, p3, p4, p5, p6, p7, p8, p9, p10, p11, p12, p13, p14, p15, p16, p17, p18, p19, p20, p21, p22, p23, p24, p25, p26, p27, p28, p29, p30, p31, p32, p33, p34, p35, p36, p37, p38, .inr (9, [.ref 40, .ref 41, .ref 42, .ref 43, .int 0, .int 0, .int 0, .ref 44, .ref 45, .ref 46, .ref 47, .int 0, .ref 48, .ref 49, .int 0, .int 0, .int 0, .int 0, .int 0, .ref 50, .ref 51, .ref 52, .ref 53, .ref 54, .long 0, .ref 55, .ref 56, .int 0, .ref 57, .ref 58, .ref 59, .ref 60, .int 0, .int 0, .int 0, .ref 61, .ref 62, .int 0, .int 0, .int 0, .null, .null, .null, .null]), .inl (.int, 24, .inl (fun _ => 0)), .inl (.int, 40, .inl (fun _ => 0)), .inl (.int, 40, .inl (fun _ => 0)), .inl (.int, 40, .inl (fun _ => 0)), .inl (.int, 8, .inl (fun _ => 0)), .inl (.int, 8, .inl (fun _ => 0)), .inl (.int, 48, .inl (fun _ => 0)), .inl (.int, 120, .inl (fun _ => 0)), .inl (.int, 720, .inl (fun _ => 0)), .inl (.int, 6, .inl (fun _ => 0)), .inl (.int, 4, .inl (fun _ => 0)), .inl (.int, 1080, .inl (fun _ => 0)), .inl (.int, 6, .inl (fun _ => 0)), .inl (.long, 180, .inr (.inl (fun _ => 0))), .inl (.long, 6, .inr (.inl (fun _ => 0))), .inl (.int, 8, .inl (fun _ => 0)), .inl (.int, 8, .inl (fun _ => 0)), .inl (.int, 10, .inl (fun _ => 0)), .inl (.int, 10, .inl (fun _ => 0)), .inl (.int, 10, .inl (fun _ => 0)), .inl (.int, 48, .inl (fun _ => 0)), .inl (.int, 50, .inl (fun _ => 0)), .inl (.int, 24, .inl (fun _ => 0))]
  repeat (refine mw_step rfl ?_)
  refine mw_newa (N := 6) (by decide) (by decide) rfl (by decide) (Nat.le_of_ble_eq_true rfl) (Nat.le_of_ble_eq_true rfl) ?_
  repeat (refine mw_to 198 rfl rfl ?_)
  show MW M_O_init 1 30 3000 none _ 24 2504 198 [(0, .ref 39)] [] [p0, p1, p2, p3, p4, p5, p6, p7, p8, p9, p10, p11, p12, p13, p14, p15, p16, p17, p18, p19, p20, p21, p22, p23, p24, p25, p26, p27, p28, p29, p30, p31, p32, p33, p34, p35, p36, p37, p38, .inr (9, [.ref 40, .ref 41, .ref 42, .ref 43, .int 0, .int 0, .int 0, .ref 44, .ref 45, .ref 46, .ref 47, .int 0, .ref 48, .ref 49, .int 0, .int 0, .int 0, .int 0, .int 0, .ref 50, .ref 51, .ref 52, .ref 53, .ref 54, .long 0, .ref 55, .ref 56, .int 0, .ref 57, .ref 58, .ref 59, .ref 60, .int 0, .int 0, .int 0, .ref 61, .ref 62, .int 0, .int 0, .int 0, .ref 63, .null, .null, .null]), .inl (.int, 24, .inl (fun _ => 0)), .inl (.int, 40, .inl (fun _ => 0)), .inl (.int, 40, .inl (fun _ => 0)), .inl (.int, 40, .inl (fun _ => 0)), .inl (.int, 8, .inl (fun _ => 0)), .inl (.int, 8, .inl (fun _ => 0)), .inl (.int, 48, .inl (fun _ => 0)), .inl (.int, 120, .inl (fun _ => 0)), .inl (.int, 720, .inl (fun _ => 0)), .inl (.int, 6, .inl (fun _ => 0)), .inl (.int, 4, .inl (fun _ => 0)), .inl (.int, 1080, .inl (fun _ => 0)), .inl (.int, 6, .inl (fun _ => 0)), .inl (.long, 180, .inr (.inl (fun _ => 0))), .inl (.long, 6, .inr (.inl (fun _ => 0))), .inl (.int, 8, .inl (fun _ => 0)), .inl (.int, 8, .inl (fun _ => 0)), .inl (.int, 10, .inl (fun _ => 0)), .inl (.int, 10, .inl (fun _ => 0)), .inl (.int, 10, .inl (fun _ => 0)), .inl (.int, 48, .inl (fun _ => 0)), .inl (.int, 50, .inl (fun _ => 0)), .inl (.int, 24, .inl (fun _ => 0)), .inl (.int, 6, .inl (fun _ => 0))]
  repeat (refine mw_step rfl ?_)
  refine mw_newa (N := 6) (by decide) (by decide) rfl (by decide) (Nat.le_of_ble_eq_true rfl) (Nat.le_of_ble_eq_true rfl) ?_
  repeat (refine mw_to 206 rfl rfl ?_)
  show MW M_O_init 1 30 3000 none _ 25 2510 206 [(0, .ref 39)] [] [p0, p1, p2, p3, p4, p5, p6, p7, p8, p9, p10, p11, p12, p13, p14, p15, p16, p17, p18, p19, p20, p21, p22, p23, p24, p25, p26, p27, p28, p29, p30, p31, p32, p33, p34, p35, p36, p37, p38, .inr (9, [.ref 40, .ref 41, .ref 42, .ref 43, .int 0, .int 0, .int 0, .ref 44, .ref 45, .ref 46, .ref 47, .int 0, .ref 48, .ref 49, .int 0, .int 0, .int 0, .int 0, .int 0, .ref 50, .ref 51, .ref 52, .ref 53, .ref 54, .long 0, .ref 55, .ref 56, .int 0, .ref 57, .ref 58, .ref 59, .ref 60, .int 0, .int 0, .int 0, .ref 61, .ref 62, .int 0, .int 0, .int 0, .ref 63, .ref 64, .null, .null]), .inl (.int, 24, .inl (fun _ => 0)), .inl (.int, 40, .inl (fun _ => 0)), .inl (.int, 40, .inl (fun _ => 0)), .inl (.int, 40, .inl (fun _ => 0)), .inl (.int, 8, .inl (fun _ => 0)), .inl (.int, 8, .inl (fun _ => 0)), .inl (.int, 48, .inl (fun _ => 0)), .inl (.int, 120, .inl (fun _ => 0)), .inl (.int, 720, .inl (fun _ => 0)), .inl (.int, 6, .inl (fun _ => 0)), .inl (.int, 4, .inl (fun _ => 0)), .inl (.int, 1080, .inl (fun _ => 0)), .inl (.int, 6, .inl (fun _ => 0)), .inl (.long, 180, .inr (.inl (fun _ => 0))), .inl (.long, 6, .inr (.inl (fun _ => 0))), .inl (.int, 8, .inl (fun _ => 0)), .inl (.int, 8, .inl (fun _ => 0)), .inl (.int, 10, .inl (fun _ => 0)), .inl (.int, 10, .inl (fun _ => 0)), .inl (.int, 10, .inl (fun _ => 0)), .inl (.int, 48, .inl (fun _ => 0)), .inl (.int, 50, .inl (fun _ => 0)), .inl (.int, 24, .inl (fun _ => 0)), .inl (.int, 6, .inl (fun _ => 0)), .inl (.int, 6, .inl (fun _ => 0))]
  repeat (refine mw_step rfl ?_)
  refine mw_newa (N := 360) (by decide) (by decide) rfl (by decide) (Nat.le_of_ble_eq_true rfl) (Nat.le_of_ble_eq_true rfl) ?_
  repeat (refine mw_to 215 rfl rfl ?_)
  show MW M_O_init 1 30 3000 none _ 26 2870 215 [(0, .ref 39)] [] [p0, p1, p2, p3, p4, p5, p6, p7, p8, p9, p10, p11, p12, p13, p14, p15, p16, p17, p18, p19, p20, p21, p22, p23, p24, p25, p26, p27, p28, p29, p30, p31, p32, p33, p34, p35, p36, p37, p38, .inr (9, [.ref 40, .ref 41, .ref 42, .ref 43, .int 0, .int 0, .int 0, .ref 44, .ref 45, .ref 46, .ref 47, .int 0, .ref 48, .ref 49, .int 0, .int 0, .int 0, .int 0, .int 0, .ref 50, .ref 51, .ref 52, .ref 53, .ref 54, .long 0, .ref 55, .ref 56, .int 0, .ref 57, .ref 58, .ref 59, .ref 60, .int 0, .int 0, .int 0, .ref 61, .ref 62, .int 0, .int 0, .int 0, .ref 63, .ref 64, .ref 65, .null]), .inl (.int, 24, .inl (fun _ => 0)), .inl (.int, 40, .inl (fun _ => 0)), .inl (.int, 40, .inl (fun _ => 0)), .inl (.int, 40, .inl (fun _ => 0)), .inl (.int, 8, .inl (fun _ => 0)), .inl (.int, 8, .inl (fun _ => 0)), .inl (.int, 48, .inl (fun _ => 0)), .inl (.int, 120, .inl (fun _ => 0)), .inl (.int, 720, .inl (fun _ => 0)), .inl (.int, 6, .inl (fun _ => 0)), .inl (.int, 4, .inl (fun _ => 0)), .inl (.int, 1080, .inl (fun _ => 0)), .inl (.int, 6, .inl (fun _ => 0)), .inl (.long, 180, .inr (.inl (fun _ => 0))), .inl (.long, 6, .inr (.inl (fun _ => 0))), .inl (.int, 8, .inl (fun _ => 0)), .inl (.int, 8, .inl (fun _ => 0)), .inl (.int, 10, .inl (fun _ => 0)), .inl (.int, 10, .inl (fun _ => 0)), .inl (.int, 10, .inl (fun _ => 0)), .inl (.int, 48, .inl (fun _ => 0)), .inl (.int, 50, .inl (fun _ => 0)), .inl (.int, 24, .inl (fun _ => 0)), .inl (.int, 6, .inl (fun _ => 0)), .inl (.int, 6, .inl (fun _ => 0)), .inl (.long, 360, .inr (.inl (fun _ => 0)))]
  repeat (refine mw_step rfl ?_)
  refine mw_newa (N := 60) (by decide) (by decide) rfl (by decide) (Nat.le_of_ble_eq_true rfl) (Nat.le_of_ble_eq_true rfl) ?_
  repeat (refine mw_to 223 rfl rfl ?_)
  show MW M_O_init 1 30 3000 none _ 27 2930 223 [(0, .ref 39)] [] [p0, p1, p2, p3, p4, p5, p6, p7, p8, p9, p10, p11, p12, p13, p14, p15, p16, p17, p18, p19, p20, p21, p22, p23, p24, p25, p26, p27, p28, p29, p30, p31, p32, p33, p34, p35, p36, p37, p38, .inr (9, [.ref 40, .ref 41, .ref 42, .ref 43, .int 0, .int 0, .int 0, .ref 44, .ref 45, .ref 46, .ref 47, .int 0, .ref 48, .ref 49, .int 0, .int 0, .int 0, .int 0, .int 0, .ref 50, .ref 51, .ref 52, .ref 53, .ref 54, .long 0, .ref 55, .ref 56, .int 0, .ref 57, .ref 58, .ref 59, .ref 60, .int 0, .int 0, .int 0, .ref 61, .ref 62, .int 0, .int 0, .int 0, .ref 63, .ref 64, .ref 65, .ref 66]), .inl (.int, 24, .inl (fun _ => 0)), .inl (.int, 40, .inl (fun _ => 0)), .inl (.int, 40, .inl (fun _ => 0)), .inl (.int, 40, .inl (fun _ => 0)), .inl (.int, 8, .inl (fun _ => 0)), .inl (.int, 8, .inl (fun _ => 0)), .inl (.int, 48, .inl (fun _ => 0)), .inl (.int, 120, .inl (fun _ => 0)), .inl (.int, 720, .inl (fun _ => 0)), .inl (.int, 6, .inl (fun _ => 0)), .inl (.int, 4, .inl (fun _ => 0)), .inl (.int, 1080, .inl (fun _ => 0)), .inl (.int, 6, .inl (fun _ => 0)), .inl (.long, 180, .inr (.inl (fun _ => 0))), .inl (.long, 6, .inr (.inl (fun _ => 0))), .inl (.int, 8, .inl (fun _ => 0)), .inl (.int, 8, .inl (fun _ => 0)), .inl (.int, 10, .inl (fun _ => 0)), .inl (.int, 10, .inl (fun _ => 0)), .inl (.int, 10, .inl (fun _ => 0)), .inl (.int, 48, .inl (fun _ => 0)), .inl (.int, 50, .inl (fun _ => 0)), .inl (.int, 24, .inl (fun _ => 0)), .inl (.int, 6, .inl (fun _ => 0)), .inl (.int, 6, .inl (fun _ => 0)), .inl (.long, 360, .inr (.inl (fun _ => 0))), .inl (.long, 60, .inr (.inl (fun _ => 0)))]
  have L3 := l_Oi3 p0 p1 p2 p3 p4 p5 p6 p7 p8 p9 p10 p11 p12 p13 p14 p15 p16 p17 p18 p19 p20 p21 p22 p23 p24 p25 p26 p27 p28 p29 p30 p31 p32 p33 p34 p35 p36 p37 p38 (hT := hoO p0 p1 p2 p3 p4 p5 p6 p7 p8 p9 p10 p11 p12 p13 p14 p15 p16 p17 p18 p19 p20 p21 p22 p23 p24 p25 p26 p27 p28 p29 p30 p31 p32 p33 p34 p35 p36 p37 p38 (fillN 1 (may2 6) 6) (fillN (-1) (fun _ => 0) 6) (fillN (-1) (fun _ => 0) 6)) (may2 6) (fillN (-1) (fun _ => 0) 6) (fillN (-1) (fun _ => 0) 6) (by
    exact mw_r0 rfl (Nat.le_of_ble_eq_true rfl) (Nat.le_of_ble_eq_true rfl) rfl rfl) 6 0 (by omega)
  rw [fillN_0] at L3
  have L2 := l_Oi2 p0 p1 p2 p3 p4 p5 p6 p7 p8 p9 p10 p11 p12 p13 p14 p15 p16 p17 p18 p19 p20 p21 p22 p23 p24 p25 p26 p27 p28 p29 p30 p31 p32 p33 p34 p35 p36 p37 p38 (hT := hoO p0 p1 p2 p3 p4 p5 p6 p7 p8 p9 p10 p11 p12 p13 p14 p15 p16 p17 p18 p19 p20 p21 p22 p23 p24 p25 p26 p27 p28 p29 p30 p31 p32 p33 p34 p35 p36 p37 p38 (fillN 1 (may2 6) 6) (fillN (-1) (fun _ => 0) 6) (fillN (-1) (fun _ => 0) 6)) (fun _ => 0) (fillN (-1) (fun _ => 0) 6) (by
    repeat (refine mw_to 288 rfl rfl ?_)
    refine mw_pick [0, 1] rfl ?_
    exact L3) 6 0 (by omega)
  rw [fillN_0, may2_0] at L2
  have L1 := l_Oi1 p0 p1 p2 p3 p4 p5 p6 p7 p8 p9 p10 p11 p12 p13 p14 p15 p16 p17 p18 p19 p20 p21 p22 p23 p24 p25 p26 p27 p28 p29 p30 p31 p32 p33 p34 p35 p36 p37 p38 (hT := hoO p0 p1 p2 p3 p4 p5 p6 p7 p8 p9 p10 p11 p12 p13 p14 p15 p16 p17 p18 p19 p20 p21 p22 p23 p24 p25 p26 p27 p28 p29 p30 p31 p32 p33 p34 p35 p36 p37 p38 (fillN 1 (may2 6) 6) (fillN (-1) (fun _ => 0) 6) (fillN (-1) (fun _ => 0) 6)) (fun _ => 0) (fun _ => 0) (fun _ => 0) (by
    repeat (refine mw_to 246 rfl rfl ?_)
    refine mw_pick [0, 1] rfl ?_
    exact L2) 6 0 (by omega)
  rw [fillN_0] at L1
  repeat (refine mw_to 225 rfl rfl ?_)
  refine mw_pick [0, 1] rfl ?_
  exact L1
end OI0
