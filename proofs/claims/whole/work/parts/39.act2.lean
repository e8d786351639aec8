/-! acts: the class, by kinds -/
theorem rA_t (k : Nat) (nb y : Int32) (t : TR) : (rA k nb y t).2.2 ≤ t.2 + 2 := by
  unfold rA
  split
  · exact Nat.le_refl _
  · split
    · exact Nat.le_refl _
    · exact Nat.le_succ _
theorem rJ0_t (o : Nat) (nb y : Int32) (t : TR) : (rJ0 o nb y t).2.2 ≤ t.2 + 3 := by
  have := rA_t o nb y (sp_note 10 t)
  show (rA o nb y (sp_note 10 t)).2.2 ≤ _
  have e : (sp_note 10 t).2 = t.2 + 1 := rfl
  omega
theorem rS_t (k o : Nat) (nb y : Int32) (t : TR) : (rS k o nb y t).2.2 ≤ t.2 + 4 := by
  unfold rS
  split
  · show t.2 + 1 + 1 ≤ _
    omega
  · split
    · have := rA_t o nb 2 (rS0 nb y (sp_note 50 t)).2
      have e : (rS0 nb y (sp_note 50 t)).2.2 = t.2 + 2 := rfl
      show (rA o nb 2 (rS0 nb y (sp_note 50 t)).2).2.2 ≤ _
      omega
    · show t.2 + 1 ≤ _
      omega
theorem rJ2_t (o : Nat) (nb y : Int32) (t : TR) : (rJ2 o nb y t).2.2 ≤ t.2 + 4 := by
  have := rJ0_t o nb y (sp_note 30 t)
  show (rJ0 o nb y (sp_note 30 t)).2.2 ≤ _
  have e : (sp_note 30 t).2 = t.2 + 1 := rfl
  omega
theorem rJ_t (k o : Nat) (nb y : Int32) (t : TR) : (rJ k o nb y t).2.2 ≤ t.2 + 8 := by
  unfold rJ
  split
  · have := rJ2_t o nb (y + 1) (sp_note 41 t)
    have e : (sp_note 41 t).2 = t.2 + 1 := rfl
    omega
  · split
    · have := rJ2_t o nb y t
      omega
    · split
      · have h1 := rJ0_t o nb y (sp_note 80 t)
        have h2 := rS_t o o nb 2 (rJ0 o nb y (sp_note 80 t)).2
        have e : (sp_note 80 t).2 = t.2 + 1 := rfl
        show (rS o o nb 2 (rJ0 o nb y (sp_note 80 t)).2).2.2 ≤ _
        omega
      · have := rJ0_t o nb y t
        omega
theorem rT0_t (o : Nat) (nb y : Int32) (t : TR) : (rT0 o nb y t).2.2 ≤ t.2 + 13 := by
  have h1 := rJ_t o o nb y (sp_note 2 t)
  have h2 := rS_t o o nb 1 (rJ o o nb y (sp_note 2 t)).2
  have e : (sp_note 2 t).2 = t.2 + 1 := rfl
  show (rS o o nb 1 (rJ o o nb y (sp_note 2 t)).2).2.2 ≤ _
  omega
theorem rT_t (k o : Nat) (nb y : Int32) (t : TR) : (rT k o nb y t).2.2 ≤ t.2 + 14 := by
  unfold rT
  split
  · have := rT0_t o nb y (sp_note 60 t)
    have e : (sp_note 60 t).2 = t.2 + 1 := rfl
    show (rT0 o nb y (sp_note 60 t)).2.2 ≤ _
    omega
  · split
    · have := rT0_t o nb y (sp_note 81 t)
      have e : (sp_note 81 t).2 = t.2 + 1 := rfl
      show (rT0 o nb y (sp_note 81 t)).2.2 ≤ _
      omega
    · have := rT0_t o nb y t
      omega
abbrev avB (b k a dp : Nat) (xx : Int32) : List Value := [.ref 27, .int (nI b), .int (nI k), .int (nI a), .int xx, .int (nI dp)]
section AD
variable {sc : Nat × (Nat → Int32)} {x : XS} {m : OS} {N n b o : Nat} {tl : MH}
theorem c_run_A0 (hn : xB_many x = nI n) (h50 : n ≤ 50) (hb : b < n) (ho : xB_kinds x b = nI o) (t : TR) (dp : Nat) (xx : Int32) (hd : dp ≤ 40) (ht : t.2 < 1000) (k : Nat) (hk : k = 0 ∨ k = 2 ∨ k = 3 ∨ k = 5) : MC M_B_run 3 0 0 (avB b k 0 dp xx) (heapN N sc (wB x t) m tl) (some (.int (rA0 (nI b) xx t).1)) (heapN N sc (wB x (rA0 (nI b) xx t).2) m tl) := by
  refine mc_of k1_B_run k2_B_run (Nat.le_of_ble_eq_true rfl) ?_
  rcases hk with rfl | rfl | rfl | rfl
  · refine l_disp_0_0 (D := 0) hn h50 hb ho hd (by omega) ?_
    refine mw_sw (t := 204) rfl ?_
    repeat (refine mw_step rfl ?_)
    exact mw_r1 rfl trivial (Nat.le_refl _) (Nat.le_refl _) rfl rfl
  · refine l_disp_2_0 (D := 0) hn h50 hb ho hd (by omega) ?_
    refine mw_sw (t := 204) rfl ?_
    repeat (refine mw_step rfl ?_)
    exact mw_r1 rfl trivial (Nat.le_refl _) (Nat.le_refl _) rfl rfl
  · refine l_disp_3_0 (D := 0) hn h50 hb ho hd (by omega) ?_
    refine mw_sw (t := 204) rfl ?_
    repeat (refine mw_step rfl ?_)
    exact mw_r1 rfl trivial (Nat.le_refl _) (Nat.le_refl _) rfl rfl
  · refine l_disp_5_0 (D := 0) hn h50 hb ho hd (by omega) ?_
    refine mw_sw (t := 204) rfl ?_
    repeat (refine mw_step rfl ?_)
    exact mw_r1 rfl trivial (Nat.le_refl _) (Nat.le_refl _) rfl rfl
theorem c_run_A (hn : xB_many x = nI n) (h50 : n ≤ 50) (hb : b < n) (ho : xB_kinds x b = nI o) (t : TR) (dp : Nat) (xx : Int32) (hd : dp ≤ 39) (ht : t.2 < 990) (k : Nat) (hk : k ≤ 7) : MC M_B_run 4 0 0 (avB b k 0 dp xx) (heapN N sc (wB x t) m tl) (some (.int (rA k (nI b) xx t).1)) (heapN N sc (wB x (rA k (nI b) xx t).2) m tl) := by
  refine mc_of k1_B_run k2_B_run (Nat.le_of_ble_eq_true rfl) ?_
  have t1 : (sp_note 20 t).2 < 1000 := by show t.2 + 1 < 1000; omega
  have t2 : (sp_note 70 t).2 < 1000 := by show t.2 + 1 < 1000; omega
  rcases (show k = 0 ∨ k = 1 ∨ k = 2 ∨ k = 3 ∨ k = 4 ∨ k = 5 ∨ k = 6 ∨ k = 7 by omega) with rfl | rfl | rfl | rfl | rfl | rfl | rfl | rfl
  · refine l_disp_0_0 (D := 1) hn h50 hb ho (by omega) (by omega) ?_
    refine mw_sw (t := 204) rfl ?_
    repeat (refine mw_step rfl ?_)
    exact mw_r1 rfl trivial (Nat.le_refl _) (Nat.le_refl _) rfl rfl
  · refine l_disp_1_0 (D := 1) hn h50 hb ho (by omega) (by omega) ?_
    refine mw_sw (t := 254) rfl ?_
    repeat (refine mw_step rfl ?_)
    refine mw_call (c_run_A0 hn h50 hb ho (sp_note 20 t) (dp + 1) xx (by omega) t1 0 (by decide)) rfl rfl (Nat.le_of_ble_eq_true rfl) (Nat.le_refl _) (Nat.le_refl _) ?_
    repeat (refine mw_step rfl ?_)
    exact mw_r1 rfl trivial (Nat.le_refl _) (Nat.le_refl _) rfl rfl
  · refine l_disp_2_0 (D := 1) hn h50 hb ho (by omega) (by omega) ?_
    refine mw_sw (t := 204) rfl ?_
    repeat (refine mw_step rfl ?_)
    exact mw_r1 rfl trivial (Nat.le_refl _) (Nat.le_refl _) rfl rfl
  · refine l_disp_3_0 (D := 1) hn h50 hb ho (by omega) (by omega) ?_
    refine mw_sw (t := 204) rfl ?_
    repeat (refine mw_step rfl ?_)
    exact mw_r1 rfl trivial (Nat.le_refl _) (Nat.le_refl _) rfl rfl
  · refine l_disp_4_0 (D := 1) hn h50 hb ho (by omega) (by omega) ?_
    refine mw_sw (t := 254) rfl ?_
    repeat (refine mw_step rfl ?_)
    refine mw_call (c_run_A0 hn h50 hb ho (sp_note 20 t) (dp + 1) xx (by omega) t1 0 (by decide)) rfl rfl (Nat.le_of_ble_eq_true rfl) (Nat.le_refl _) (Nat.le_refl _) ?_
    repeat (refine mw_step rfl ?_)
    exact mw_r1 rfl trivial (Nat.le_refl _) (Nat.le_refl _) rfl rfl
  · refine l_disp_5_0 (D := 1) hn h50 hb ho (by omega) (by omega) ?_
    refine mw_sw (t := 204) rfl ?_
    repeat (refine mw_step rfl ?_)
    exact mw_r1 rfl trivial (Nat.le_refl _) (Nat.le_refl _) rfl rfl
  · refine l_disp_6_0 (D := 1) hn h50 hb ho (by omega) (by omega) ?_
    refine mw_sw (t := 353) rfl ?_
    repeat (refine mw_step rfl ?_)
    refine mw_call (c_run_A0 hn h50 hb ho (sp_note 70 t) (dp + 1) xx (by omega) t2 0 (by decide)) rfl rfl (Nat.le_of_ble_eq_true rfl) (Nat.le_refl _) (Nat.le_refl _) ?_
    repeat (refine mw_step rfl ?_)
    exact mw_r1 rfl trivial (Nat.le_refl _) (Nat.le_refl _) rfl rfl
  · refine l_disp_7_0 (D := 1) hn h50 hb ho (by omega) (by omega) ?_
    refine mw_sw (t := 254) rfl ?_
    repeat (refine mw_step rfl ?_)
    refine mw_call (c_run_A0 hn h50 hb ho (sp_note 20 t) (dp + 1) xx (by omega) t1 0 (by decide)) rfl rfl (Nat.le_of_ble_eq_true rfl) (Nat.le_refl _) (Nat.le_refl _) ?_
    repeat (refine mw_step rfl ?_)
    exact mw_r1 rfl trivial (Nat.le_refl _) (Nat.le_refl _) rfl rfl
theorem c_run_J0 (hn : xB_many x = nI n) (h50 : n ≤ 50) (hb : b < n) (ho : xB_kinds x b = nI o) (h7 : o ≤ 7) (t : TR) (dp : Nat) (xx : Int32) (hd : dp ≤ 38) (ht : t.2 < 980) (k : Nat) (hk : k = 0 ∨ k = 1 ∨ k = 4 ∨ k = 6) : MC M_B_run 5 0 0 (avB b k 1 dp xx) (heapN N sc (wB x t) m tl) (some (.int (rJ0 o (nI b) xx t).1)) (heapN N sc (wB x (rJ0 o (nI b) xx t).2) m tl) := by
  refine mc_of k1_B_run k2_B_run (Nat.le_of_ble_eq_true rfl) ?_
  have t1 : (sp_note 10 t).2 < 990 := by show t.2 + 1 < 990; omega
  rcases hk with rfl | rfl | rfl | rfl
  · refine l_disp_0_1 (D := 2) hn h50 hb ho (by omega) (by omega) ?_
    refine mw_sw (t := 234) rfl ?_
    repeat (refine mw_step rfl ?_)
    refine mw_call (c_run_A hn h50 hb ho (sp_note 10 t) (dp + 1) xx (by omega) t1 o h7) rfl rfl (Nat.le_of_ble_eq_true rfl) (Nat.le_refl _) (Nat.le_refl _) ?_
    repeat (refine mw_step rfl ?_)
    exact mw_r1 rfl trivial (Nat.le_refl _) (Nat.le_refl _) rfl rfl
  · refine l_disp_1_1 (D := 2) hn h50 hb ho (by omega) (by omega) ?_
    refine mw_sw (t := 234) rfl ?_
    repeat (refine mw_step rfl ?_)
    refine mw_call (c_run_A hn h50 hb ho (sp_note 10 t) (dp + 1) xx (by omega) t1 o h7) rfl rfl (Nat.le_of_ble_eq_true rfl) (Nat.le_refl _) (Nat.le_refl _) ?_
    repeat (refine mw_step rfl ?_)
    exact mw_r1 rfl trivial (Nat.le_refl _) (Nat.le_refl _) rfl rfl
  · refine l_disp_4_1 (D := 2) hn h50 hb ho (by omega) (by omega) ?_
    refine mw_sw (t := 234) rfl ?_
    repeat (refine mw_step rfl ?_)
    refine mw_call (c_run_A hn h50 hb ho (sp_note 10 t) (dp + 1) xx (by omega) t1 o h7) rfl rfl (Nat.le_of_ble_eq_true rfl) (Nat.le_refl _) (Nat.le_refl _) ?_
    repeat (refine mw_step rfl ?_)
    exact mw_r1 rfl trivial (Nat.le_refl _) (Nat.le_refl _) rfl rfl
  · refine l_disp_6_1 (D := 2) hn h50 hb ho (by omega) (by omega) ?_
    refine mw_sw (t := 234) rfl ?_
    repeat (refine mw_step rfl ?_)
    refine mw_call (c_run_A hn h50 hb ho (sp_note 10 t) (dp + 1) xx (by omega) t1 o h7) rfl rfl (Nat.le_of_ble_eq_true rfl) (Nat.le_refl _) (Nat.le_refl _) ?_
    repeat (refine mw_step rfl ?_)
    exact mw_r1 rfl trivial (Nat.le_refl _) (Nat.le_refl _) rfl rfl
theorem c_run_S0 (hn : xB_many x = nI n) (h50 : n ≤ 50) (hb : b < n) (ho : xB_kinds x b = nI o) (t : TR) (dp : Nat) (xx : Int32) (hd : dp ≤ 40) (ht : t.2 < 1000) (k : Nat) (hk : k = 0 ∨ k = 1 ∨ k = 2 ∨ k = 6) : MC M_B_run 3 0 0 (avB b k 2 dp xx) (heapN N sc (wB x t) m tl) (some (.int (rS0 (nI b) xx t).1)) (heapN N sc (wB x (rS0 (nI b) xx t).2) m tl) := by
  refine mc_of k1_B_run k2_B_run (Nat.le_of_ble_eq_true rfl) ?_
  rcases hk with rfl | rfl | rfl | rfl
  · refine l_disp_0_2 (D := 0) hn h50 hb ho hd (by omega) ?_
    refine mw_sw (t := 249) rfl ?_
    repeat (refine mw_step rfl ?_)
    exact mw_r1 rfl trivial (Nat.le_refl _) (Nat.le_refl _) rfl rfl
  · refine l_disp_1_2 (D := 0) hn h50 hb ho hd (by omega) ?_
    refine mw_sw (t := 249) rfl ?_
    repeat (refine mw_step rfl ?_)
    exact mw_r1 rfl trivial (Nat.le_refl _) (Nat.le_refl _) rfl rfl
  · refine l_disp_2_2 (D := 0) hn h50 hb ho hd (by omega) ?_
    refine mw_sw (t := 249) rfl ?_
    repeat (refine mw_step rfl ?_)
    exact mw_r1 rfl trivial (Nat.le_refl _) (Nat.le_refl _) rfl rfl
  · refine l_disp_6_2 (D := 0) hn h50 hb ho hd (by omega) ?_
    refine mw_sw (t := 249) rfl ?_
    repeat (refine mw_step rfl ?_)
    exact mw_r1 rfl trivial (Nat.le_refl _) (Nat.le_refl _) rfl rfl
theorem c_run_S (hn : xB_many x = nI n) (h50 : n ≤ 50) (hb : b < n) (ho : xB_kinds x b = nI o) (h7 : o ≤ 7) (t : TR) (dp : Nat) (xx : Int32) (hd : dp ≤ 38) (ht : t.2 < 980) (k : Nat) (hk : k ≤ 7) : MC M_B_run 5 0 0 (avB b k 2 dp xx) (heapN N sc (wB x t) m tl) (some (.int (rS k o (nI b) xx t).1)) (heapN N sc (wB x (rS k o (nI b) xx t).2) m tl) := by
  refine mc_of k1_B_run k2_B_run (Nat.le_of_ble_eq_true rfl) ?_
  have t1 : (sp_note 40 t).2 < 1000 := by show t.2 + 1 < 1000; omega
  have t2 : (sp_note 50 t).2 < 1000 := by show t.2 + 1 < 1000; omega
  have t3 : (rS0 (nI b) xx (sp_note 50 t)).2.2 < 990 := by show t.2 + 1 + 1 < 990; omega
  rcases (show k = 0 ∨ k = 1 ∨ k = 2 ∨ k = 3 ∨ k = 4 ∨ k = 5 ∨ k = 6 ∨ k = 7 by omega) with rfl | rfl | rfl | rfl | rfl | rfl | rfl | rfl
  · refine l_disp_0_2 (D := 2) hn h50 hb ho (by omega) (by omega) ?_
    refine mw_sw (t := 249) rfl ?_
    repeat (refine mw_step rfl ?_)
    exact mw_r1 rfl trivial (Nat.le_refl _) (Nat.le_refl _) rfl rfl
  · refine l_disp_1_2 (D := 2) hn h50 hb ho (by omega) (by omega) ?_
    refine mw_sw (t := 249) rfl ?_
    repeat (refine mw_step rfl ?_)
    exact mw_r1 rfl trivial (Nat.le_refl _) (Nat.le_refl _) rfl rfl
  · refine l_disp_2_2 (D := 2) hn h50 hb ho (by omega) (by omega) ?_
    refine mw_sw (t := 249) rfl ?_
    repeat (refine mw_step rfl ?_)
    exact mw_r1 rfl trivial (Nat.le_refl _) (Nat.le_refl _) rfl rfl
  · refine l_disp_3_2 (D := 2) hn h50 hb ho (by omega) (by omega) ?_
    refine mw_sw (t := 283) rfl ?_
    repeat (refine mw_step rfl ?_)
    refine mw_call (c_run_S0 hn h50 hb ho (sp_note 40 t) (dp + 1) xx (by omega) t1 2 (by decide)) rfl rfl (Nat.le_of_ble_eq_true rfl) (Nat.le_refl _) (Nat.le_refl _) ?_
    repeat (refine mw_step rfl ?_)
    exact mw_r1 rfl trivial (Nat.le_refl _) (Nat.le_refl _) rfl rfl
  · refine l_disp_4_2 (D := 2) hn h50 hb ho (by omega) (by omega) ?_
    refine mw_sw (t := 313) rfl ?_
    repeat (refine mw_step rfl ?_)
    refine mw_call (c_run_S0 hn h50 hb ho (sp_note 50 t) (dp + 1) xx (by omega) t2 1 (by decide)) rfl rfl (Nat.le_of_ble_eq_true rfl) (Nat.le_refl _) (Nat.le_refl _) ?_
    repeat (refine mw_step rfl ?_)
    refine mw_call (c_run_A hn h50 hb ho (rS0 (nI b) xx (sp_note 50 t)).2 (dp + 1) 2 (by omega) t3 o h7) rfl rfl (Nat.le_of_ble_eq_true rfl) (Nat.le_refl _) (Nat.le_refl _) ?_
    repeat (refine mw_step rfl ?_)
    exact mw_r1 rfl trivial (Nat.le_refl _) (Nat.le_refl _) rfl rfl
  · refine l_disp_5_2 (D := 2) hn h50 hb ho (by omega) (by omega) ?_
    refine mw_sw (t := 283) rfl ?_
    repeat (refine mw_step rfl ?_)
    refine mw_call (c_run_S0 hn h50 hb ho (sp_note 40 t) (dp + 1) xx (by omega) t1 2 (by decide)) rfl rfl (Nat.le_of_ble_eq_true rfl) (Nat.le_refl _) (Nat.le_refl _) ?_
    repeat (refine mw_step rfl ?_)
    exact mw_r1 rfl trivial (Nat.le_refl _) (Nat.le_refl _) rfl rfl
  · refine l_disp_6_2 (D := 2) hn h50 hb ho (by omega) (by omega) ?_
    refine mw_sw (t := 249) rfl ?_
    repeat (refine mw_step rfl ?_)
    exact mw_r1 rfl trivial (Nat.le_refl _) (Nat.le_refl _) rfl rfl
  · refine l_disp_7_2 (D := 2) hn h50 hb ho (by omega) (by omega) ?_
    refine mw_sw (t := 313) rfl ?_
    repeat (refine mw_step rfl ?_)
    refine mw_call (c_run_S0 hn h50 hb ho (sp_note 50 t) (dp + 1) xx (by omega) t2 1 (by decide)) rfl rfl (Nat.le_of_ble_eq_true rfl) (Nat.le_refl _) (Nat.le_refl _) ?_
    repeat (refine mw_step rfl ?_)
    refine mw_call (c_run_A hn h50 hb ho (rS0 (nI b) xx (sp_note 50 t)).2 (dp + 1) 2 (by omega) t3 o h7) rfl rfl (Nat.le_of_ble_eq_true rfl) (Nat.le_refl _) (Nat.le_refl _) ?_
    repeat (refine mw_step rfl ?_)
    exact mw_r1 rfl trivial (Nat.le_refl _) (Nat.le_refl _) rfl rfl
theorem c_run_J2 (hn : xB_many x = nI n) (h50 : n ≤ 50) (hb : b < n) (ho : xB_kinds x b = nI o) (h7 : o ≤ 7) (t : TR) (dp : Nat) (xx : Int32) (hd : dp ≤ 37) (ht : t.2 < 970) : MC M_B_run 6 0 0 (avB b 2 1 dp xx) (heapN N sc (wB x t) m tl) (some (.int (rJ2 o (nI b) xx t).1)) (heapN N sc (wB x (rJ2 o (nI b) xx t).2) m tl) := by
  refine mc_of k1_B_run k2_B_run (Nat.le_of_ble_eq_true rfl) ?_
  have t1 : (sp_note 30 t).2 < 980 := by show t.2 + 1 < 980; omega
  refine l_disp_2_1 (D := 3) hn h50 hb ho (by omega) (by omega) ?_
  refine mw_sw (t := 269) rfl ?_
  repeat (refine mw_step rfl ?_)
  refine mw_call (c_run_J0 hn h50 hb ho h7 (sp_note 30 t) (dp + 1) xx (by omega) t1 0 (by decide)) rfl rfl (Nat.le_of_ble_eq_true rfl) (Nat.le_refl _) (Nat.le_refl _) ?_
  repeat (refine mw_step rfl ?_)
  exact mw_r1 rfl trivial (Nat.le_refl _) (Nat.le_refl _) rfl rfl
theorem c_run_J (hn : xB_many x = nI n) (h50 : n ≤ 50) (hb : b < n) (ho : xB_kinds x b = nI o) (h7 : o ≤ 7) (t : TR) (dp : Nat) (xx : Int32) (hd : dp ≤ 36) (ht : t.2 < 960) (k : Nat) (hk : k ≤ 7) : MC M_B_run 7 0 0 (avB b k 1 dp xx) (heapN N sc (wB x t) m tl) (some (.int (rJ k o (nI b) xx t).1)) (heapN N sc (wB x (rJ k o (nI b) xx t).2) m tl) := by
  refine mc_of k1_B_run k2_B_run (Nat.le_of_ble_eq_true rfl) ?_
  have t0 : (sp_note 10 t).2 < 990 := by show t.2 + 1 < 990; omega
  have t1 : (sp_note 41 t).2 < 970 := by show t.2 + 1 < 970; omega
  have t2 : (sp_note 30 t).2 < 980 := by show t.2 + 1 < 980; omega
  have t3 : (sp_note 80 t).2 < 980 := by show t.2 + 1 < 980; omega
  have t4 : (rJ0 o (nI b) xx (sp_note 80 t)).2.2 < 980 := by
    have := rJ0_t o (nI b) xx (sp_note 80 t)
    have e : (sp_note 80 t).2 = t.2 + 1 := rfl
    omega
  rcases (show k = 0 ∨ k = 1 ∨ k = 2 ∨ k = 3 ∨ k = 4 ∨ k = 5 ∨ k = 6 ∨ k = 7 by omega) with rfl | rfl | rfl | rfl | rfl | rfl | rfl | rfl
  · refine l_disp_0_1 (D := 4) hn h50 hb ho (by omega) (by omega) ?_
    refine mw_sw (t := 234) rfl ?_
    repeat (refine mw_step rfl ?_)
    refine mw_call (c_run_A hn h50 hb ho (sp_note 10 t) (dp + 1) xx (by omega) t0 o h7) rfl rfl (Nat.le_of_ble_eq_true rfl) (Nat.le_refl _) (Nat.le_refl _) ?_
    repeat (refine mw_step rfl ?_)
    exact mw_r1 rfl trivial (Nat.le_refl _) (Nat.le_refl _) rfl rfl
  · refine l_disp_1_1 (D := 4) hn h50 hb ho (by omega) (by omega) ?_
    refine mw_sw (t := 234) rfl ?_
    repeat (refine mw_step rfl ?_)
    refine mw_call (c_run_A hn h50 hb ho (sp_note 10 t) (dp + 1) xx (by omega) t0 o h7) rfl rfl (Nat.le_of_ble_eq_true rfl) (Nat.le_refl _) (Nat.le_refl _) ?_
    repeat (refine mw_step rfl ?_)
    exact mw_r1 rfl trivial (Nat.le_refl _) (Nat.le_refl _) rfl rfl
  · refine l_disp_2_1 (D := 4) hn h50 hb ho (by omega) (by omega) ?_
    refine mw_sw (t := 269) rfl ?_
    repeat (refine mw_step rfl ?_)
    refine mw_call (c_run_J0 hn h50 hb ho h7 (sp_note 30 t) (dp + 1) xx (by omega) t2 0 (by decide)) rfl rfl (Nat.le_of_ble_eq_true rfl) (Nat.le_refl _) (Nat.le_refl _) ?_
    repeat (refine mw_step rfl ?_)
    exact mw_r1 rfl trivial (Nat.le_refl _) (Nat.le_refl _) rfl rfl
  · refine l_disp_3_1 (D := 4) hn h50 hb ho (by omega) (by omega) ?_
    refine mw_sw (t := 298) rfl ?_
    repeat (refine mw_step rfl ?_)
    refine mw_call (c_run_J2 hn h50 hb ho h7 (sp_note 41 t) (dp + 1) (xx + 1) (by omega) t1) rfl rfl (Nat.le_of_ble_eq_true rfl) (Nat.le_refl _) (Nat.le_refl _) ?_
    exact mw_r1 rfl trivial (Nat.le_refl _) (Nat.le_refl _) rfl rfl
  · refine l_disp_4_1 (D := 4) hn h50 hb ho (by omega) (by omega) ?_
    refine mw_sw (t := 234) rfl ?_
    repeat (refine mw_step rfl ?_)
    refine mw_call (c_run_A hn h50 hb ho (sp_note 10 t) (dp + 1) xx (by omega) t0 o h7) rfl rfl (Nat.le_of_ble_eq_true rfl) (Nat.le_refl _) (Nat.le_refl _) ?_
    repeat (refine mw_step rfl ?_)
    exact mw_r1 rfl trivial (Nat.le_refl _) (Nat.le_refl _) rfl rfl
  · refine l_disp_5_1 (D := 4) hn h50 hb ho (by omega) (by omega) ?_
    refine mw_sw (t := 298) rfl ?_
    repeat (refine mw_step rfl ?_)
    refine mw_call (c_run_J2 hn h50 hb ho h7 (sp_note 41 t) (dp + 1) (xx + 1) (by omega) t1) rfl rfl (Nat.le_of_ble_eq_true rfl) (Nat.le_refl _) (Nat.le_refl _) ?_
    exact mw_r1 rfl trivial (Nat.le_refl _) (Nat.le_refl _) rfl rfl
  · refine l_disp_6_1 (D := 4) hn h50 hb ho (by omega) (by omega) ?_
    refine mw_sw (t := 234) rfl ?_
    repeat (refine mw_step rfl ?_)
    refine mw_call (c_run_A hn h50 hb ho (sp_note 10 t) (dp + 1) xx (by omega) t0 o h7) rfl rfl (Nat.le_of_ble_eq_true rfl) (Nat.le_refl _) (Nat.le_refl _) ?_
    repeat (refine mw_step rfl ?_)
    exact mw_r1 rfl trivial (Nat.le_refl _) (Nat.le_refl _) rfl rfl
  · refine l_disp_7_1 (D := 4) hn h50 hb ho (by omega) (by omega) ?_
    refine mw_sw (t := 368) rfl ?_
    repeat (refine mw_step rfl ?_)
    refine mw_call (c_run_J0 hn h50 hb ho h7 (sp_note 80 t) (dp + 1) xx (by omega) t3 4 (by decide)) rfl rfl (Nat.le_of_ble_eq_true rfl) (Nat.le_refl _) (Nat.le_refl _) ?_
    repeat (refine mw_step rfl ?_)
    refine mw_call (c_run_S hn h50 hb ho h7 (rJ0 o (nI b) xx (sp_note 80 t)).2 (dp + 1) 2 (by omega) t4 o h7) rfl rfl (Nat.le_of_ble_eq_true rfl) (Nat.le_refl _) (Nat.le_refl _) ?_
    repeat (refine mw_step rfl ?_)
    exact mw_r1 rfl trivial (Nat.le_refl _) (Nat.le_refl _) rfl rfl
theorem c_run_T0 (hn : xB_many x = nI n) (h50 : n ≤ 50) (hb : b < n) (ho : xB_kinds x b = nI o) (h7 : o ≤ 7) (t : TR) (dp : Nat) (xx : Int32) (hd : dp ≤ 35) (ht : t.2 < 940) (k : Nat) (hk : k = 0 ∨ k = 1 ∨ k = 2 ∨ k = 3 ∨ k = 4 ∨ k = 6) : MC M_B_run 8 0 0 (avB b k 3 dp xx) (heapN N sc (wB x t) m tl) (some (.int (rT0 o (nI b) xx t).1)) (heapN N sc (wB x (rT0 o (nI b) xx t).2) m tl) := by
  refine mc_of k1_B_run k2_B_run (Nat.le_of_ble_eq_true rfl) ?_
  have t1 : (sp_note 2 t).2 < 960 := by show t.2 + 1 < 960; omega
  have t2 : (rJ o o (nI b) xx (sp_note 2 t)).2.2 < 980 := by
    have := rJ_t o o (nI b) xx (sp_note 2 t)
    have e : (sp_note 2 t).2 = t.2 + 1 := rfl
    omega
  have C1 := c_run_J (N := N) (sc := sc) (m := m) (tl := tl) hn h50 hb ho h7 (sp_note 2 t) (dp + 1) xx (by omega) t1 o h7
  have C2 := c_run_S (N := N) (sc := sc) (m := m) (tl := tl) hn h50 hb ho h7 (rJ o o (nI b) xx (sp_note 2 t)).2 (dp + 1) 1 (by omega) t2 o h7
  rcases hk with rfl | rfl | rfl | rfl | rfl | rfl
  · refine l_disp_0_3 (D := 5) hn h50 hb ho (by omega) (by omega) ?_
    refine mw_sw (t := 209) rfl ?_
    repeat (refine mw_step rfl ?_)
    refine mw_call (C1) rfl rfl (Nat.le_of_ble_eq_true rfl) (Nat.le_refl _) (Nat.le_refl _) ?_
    repeat (refine mw_step rfl ?_)
    refine mw_call (C2) rfl rfl (Nat.le_of_ble_eq_true rfl) (Nat.le_refl _) (Nat.le_refl _) ?_
    repeat (refine mw_step rfl ?_)
    exact mw_r1 rfl trivial (Nat.le_refl _) (Nat.le_refl _) rfl rfl
  · refine l_disp_1_3 (D := 5) hn h50 hb ho (by omega) (by omega) ?_
    refine mw_sw (t := 209) rfl ?_
    repeat (refine mw_step rfl ?_)
    refine mw_call (C1) rfl rfl (Nat.le_of_ble_eq_true rfl) (Nat.le_refl _) (Nat.le_refl _) ?_
    repeat (refine mw_step rfl ?_)
    refine mw_call (C2) rfl rfl (Nat.le_of_ble_eq_true rfl) (Nat.le_refl _) (Nat.le_refl _) ?_
    repeat (refine mw_step rfl ?_)
    exact mw_r1 rfl trivial (Nat.le_refl _) (Nat.le_refl _) rfl rfl
  · refine l_disp_2_3 (D := 5) hn h50 hb ho (by omega) (by omega) ?_
    refine mw_sw (t := 209) rfl ?_
    repeat (refine mw_step rfl ?_)
    refine mw_call (C1) rfl rfl (Nat.le_of_ble_eq_true rfl) (Nat.le_refl _) (Nat.le_refl _) ?_
    repeat (refine mw_step rfl ?_)
    refine mw_call (C2) rfl rfl (Nat.le_of_ble_eq_true rfl) (Nat.le_refl _) (Nat.le_refl _) ?_
    repeat (refine mw_step rfl ?_)
    exact mw_r1 rfl trivial (Nat.le_refl _) (Nat.le_refl _) rfl rfl
  · refine l_disp_3_3 (D := 5) hn h50 hb ho (by omega) (by omega) ?_
    refine mw_sw (t := 209) rfl ?_
    repeat (refine mw_step rfl ?_)
    refine mw_call (C1) rfl rfl (Nat.le_of_ble_eq_true rfl) (Nat.le_refl _) (Nat.le_refl _) ?_
    repeat (refine mw_step rfl ?_)
    refine mw_call (C2) rfl rfl (Nat.le_of_ble_eq_true rfl) (Nat.le_refl _) (Nat.le_refl _) ?_
    repeat (refine mw_step rfl ?_)
    exact mw_r1 rfl trivial (Nat.le_refl _) (Nat.le_refl _) rfl rfl
  · refine l_disp_4_3 (D := 5) hn h50 hb ho (by omega) (by omega) ?_
    refine mw_sw (t := 209) rfl ?_
    repeat (refine mw_step rfl ?_)
    refine mw_call (C1) rfl rfl (Nat.le_of_ble_eq_true rfl) (Nat.le_refl _) (Nat.le_refl _) ?_
    repeat (refine mw_step rfl ?_)
    refine mw_call (C2) rfl rfl (Nat.le_of_ble_eq_true rfl) (Nat.le_refl _) (Nat.le_refl _) ?_
    repeat (refine mw_step rfl ?_)
    exact mw_r1 rfl trivial (Nat.le_refl _) (Nat.le_refl _) rfl rfl
  · refine l_disp_6_3 (D := 5) hn h50 hb ho (by omega) (by omega) ?_
    refine mw_sw (t := 209) rfl ?_
    repeat (refine mw_step rfl ?_)
    refine mw_call (C1) rfl rfl (Nat.le_of_ble_eq_true rfl) (Nat.le_refl _) (Nat.le_refl _) ?_
    repeat (refine mw_step rfl ?_)
    refine mw_call (C2) rfl rfl (Nat.le_of_ble_eq_true rfl) (Nat.le_refl _) (Nat.le_refl _) ?_
    repeat (refine mw_step rfl ?_)
    exact mw_r1 rfl trivial (Nat.le_refl _) (Nat.le_refl _) rfl rfl
theorem c_run_T (hn : xB_many x = nI n) (h50 : n ≤ 50) (hb : b < n) (ho : xB_kinds x b = nI o) (h7 : o ≤ 7) (t : TR) (dp : Nat) (xx : Int32) (hd : dp ≤ 34) (ht : t.2 < 930) (k : Nat) (hk : k ≤ 7) : MC M_B_run 9 0 0 (avB b k 3 dp xx) (heapN N sc (wB x t) m tl) (some (.int (rT k o (nI b) xx t).1)) (heapN N sc (wB x (rT k o (nI b) xx t).2) m tl) := by
  refine mc_of k1_B_run k2_B_run (Nat.le_of_ble_eq_true rfl) ?_
  have t1 : (sp_note 2 t).2 < 960 := by show t.2 + 1 < 960; omega
  have t2 : (rJ o o (nI b) xx (sp_note 2 t)).2.2 < 980 := by
    have := rJ_t o o (nI b) xx (sp_note 2 t)
    have e : (sp_note 2 t).2 = t.2 + 1 := rfl
    omega
  have C1 := c_run_J (N := N) (sc := sc) (m := m) (tl := tl) hn h50 hb ho h7 (sp_note 2 t) (dp + 1) xx (by omega) t1 o h7
  have C2 := c_run_S (N := N) (sc := sc) (m := m) (tl := tl) hn h50 hb ho h7 (rJ o o (nI b) xx (sp_note 2 t)).2 (dp + 1) 1 (by omega) t2 o h7
  have t5 : (sp_note 60 t).2 < 940 := by show t.2 + 1 < 940; omega
  have t6 : (sp_note 81 t).2 < 940 := by show t.2 + 1 < 940; omega
  rcases (show k = 0 ∨ k = 1 ∨ k = 2 ∨ k = 3 ∨ k = 4 ∨ k = 5 ∨ k = 6 ∨ k = 7 by omega) with rfl | rfl | rfl | rfl | rfl | rfl | rfl | rfl
  · refine l_disp_0_3 (D := 6) hn h50 hb ho (by omega) (by omega) ?_
    refine mw_sw (t := 209) rfl ?_
    repeat (refine mw_step rfl ?_)
    refine mw_call (C1) rfl rfl (Nat.le_of_ble_eq_true rfl) (Nat.le_refl _) (Nat.le_refl _) ?_
    repeat (refine mw_step rfl ?_)
    refine mw_call (C2) rfl rfl (Nat.le_of_ble_eq_true rfl) (Nat.le_refl _) (Nat.le_refl _) ?_
    repeat (refine mw_step rfl ?_)
    exact mw_r1 rfl trivial (Nat.le_refl _) (Nat.le_refl _) rfl rfl
  · refine l_disp_1_3 (D := 6) hn h50 hb ho (by omega) (by omega) ?_
    refine mw_sw (t := 209) rfl ?_
    repeat (refine mw_step rfl ?_)
    refine mw_call (C1) rfl rfl (Nat.le_of_ble_eq_true rfl) (Nat.le_refl _) (Nat.le_refl _) ?_
    repeat (refine mw_step rfl ?_)
    refine mw_call (C2) rfl rfl (Nat.le_of_ble_eq_true rfl) (Nat.le_refl _) (Nat.le_refl _) ?_
    repeat (refine mw_step rfl ?_)
    exact mw_r1 rfl trivial (Nat.le_refl _) (Nat.le_refl _) rfl rfl
  · refine l_disp_2_3 (D := 6) hn h50 hb ho (by omega) (by omega) ?_
    refine mw_sw (t := 209) rfl ?_
    repeat (refine mw_step rfl ?_)
    refine mw_call (C1) rfl rfl (Nat.le_of_ble_eq_true rfl) (Nat.le_refl _) (Nat.le_refl _) ?_
    repeat (refine mw_step rfl ?_)
    refine mw_call (C2) rfl rfl (Nat.le_of_ble_eq_true rfl) (Nat.le_refl _) (Nat.le_refl _) ?_
    repeat (refine mw_step rfl ?_)
    exact mw_r1 rfl trivial (Nat.le_refl _) (Nat.le_refl _) rfl rfl
  · refine l_disp_3_3 (D := 6) hn h50 hb ho (by omega) (by omega) ?_
    refine mw_sw (t := 209) rfl ?_
    repeat (refine mw_step rfl ?_)
    refine mw_call (C1) rfl rfl (Nat.le_of_ble_eq_true rfl) (Nat.le_refl _) (Nat.le_refl _) ?_
    repeat (refine mw_step rfl ?_)
    refine mw_call (C2) rfl rfl (Nat.le_of_ble_eq_true rfl) (Nat.le_refl _) (Nat.le_refl _) ?_
    repeat (refine mw_step rfl ?_)
    exact mw_r1 rfl trivial (Nat.le_refl _) (Nat.le_refl _) rfl rfl
  · refine l_disp_4_3 (D := 6) hn h50 hb ho (by omega) (by omega) ?_
    refine mw_sw (t := 209) rfl ?_
    repeat (refine mw_step rfl ?_)
    refine mw_call (C1) rfl rfl (Nat.le_of_ble_eq_true rfl) (Nat.le_refl _) (Nat.le_refl _) ?_
    repeat (refine mw_step rfl ?_)
    refine mw_call (C2) rfl rfl (Nat.le_of_ble_eq_true rfl) (Nat.le_refl _) (Nat.le_refl _) ?_
    repeat (refine mw_step rfl ?_)
    exact mw_r1 rfl trivial (Nat.le_refl _) (Nat.le_refl _) rfl rfl
  · refine l_disp_5_3 (D := 6) hn h50 hb ho (by omega) (by omega) ?_
    refine mw_sw (t := 338) rfl ?_
    repeat (refine mw_step rfl ?_)
    refine mw_call (c_run_T0 hn h50 hb ho h7 (sp_note 60 t) (dp + 1) xx (by omega) t5 3 (by decide)) rfl rfl (Nat.le_of_ble_eq_true rfl) (Nat.le_refl _) (Nat.le_refl _) ?_
    repeat (refine mw_step rfl ?_)
    exact mw_r1 rfl trivial (Nat.le_refl _) (Nat.le_refl _) rfl rfl
  · refine l_disp_6_3 (D := 6) hn h50 hb ho (by omega) (by omega) ?_
    refine mw_sw (t := 209) rfl ?_
    repeat (refine mw_step rfl ?_)
    refine mw_call (C1) rfl rfl (Nat.le_of_ble_eq_true rfl) (Nat.le_refl _) (Nat.le_refl _) ?_
    repeat (refine mw_step rfl ?_)
    refine mw_call (C2) rfl rfl (Nat.le_of_ble_eq_true rfl) (Nat.le_refl _) (Nat.le_refl _) ?_
    repeat (refine mw_step rfl ?_)
    exact mw_r1 rfl trivial (Nat.le_refl _) (Nat.le_refl _) rfl rfl
  · refine l_disp_7_3 (D := 6) hn h50 hb ho (by omega) (by omega) ?_
    refine mw_sw (t := 393) rfl ?_
    repeat (refine mw_step rfl ?_)
    refine mw_call (c_run_T0 hn h50 hb ho h7 (sp_note 81 t) (dp + 1) xx (by omega) t6 4 (by decide)) rfl rfl (Nat.le_of_ble_eq_true rfl) (Nat.le_refl _) (Nat.le_refl _) ?_
    repeat (refine mw_step rfl ?_)
    exact mw_r1 rfl trivial (Nat.le_refl _) (Nat.le_refl _) rfl rfl
/-- act -/
def sp_act (a o : Nat) (nb xx : Int32) (t : TR) : Int32 × TR := if a = 0 then rA o nb xx t else if a = 1 then rJ o o nb xx t else if a = 2 then rS o o nb xx t else rT o o nb xx t
theorem c_C_act (hn : xB_many x = nI n) (h50 : n ≤ 50) (hb : b < n) (ho : xB_kinds x b = nI o) (h7 : o ≤ 7) (a : Nat) (ha : a ≤ 3) (xx : Int32) : MC M_C_act 11 0 0 [.ref 5, .int (nI b), .int (nI a), .int xx] (heapN N sc x m tl) (some (.int (sp_act a o (nI b) xx (xB_ran x, 0)).1)) (heapN N sc (wB x (sp_act a o (nI b) xx (xB_ran x, 0)).2) m tl) := by
  have hC : MC M_B_perform 10 0 0 [.ref 27, .int (nI b), .int (nI a), .int xx] (heapN N sc x m tl) (some (.int (sp_act a o (nI b) xx (xB_ran x, 0)).1)) (heapN N sc (wB x (sp_act a o (nI b) xx (xB_ran x, 0)).2) m tl) := by
    refine mc_of k1_B_perform k2_B_perform (Nat.le_of_ble_eq_true rfl) ?_
    repeat (refine mw_step rfl ?_)
    refine mw_call (c_within _ _ _ _) rfl rfl (Nat.le_of_ble_eq_true rfl) (Nat.le_refl _) (Nat.le_refl _) ?_
    refine mw_brF rfl (bI_ne (rng_in (n := 3) ha (by decide))) ?_
    repeat (refine mw_step rfl ?_)
    refine mw_call (M' := M_B_kindOf) (h' := heapN N sc (wB x (xB_ran x, 0)) m tl) (c_B_kindOf (x := wB x (xB_ran x, 0)) b hn h50 hb) rfl rfl (Nat.le_of_ble_eq_true rfl) (Nat.le_refl _) (Nat.le_refl _) ?_
    rw [show xB_kinds (wB x (xB_ran x, 0)) b = nI o from ho]
    repeat (refine mw_step rfl ?_)
    rcases (show a = 0 ∨ a = 1 ∨ a = 2 ∨ a = 3 by omega) with rfl | rfl | rfl | rfl
    · refine mw_call (c_run_A hn h50 hb ho (xB_ran x, 0) 0 xx (by omega) (by show 0 < 990; omega) o h7) rfl rfl (Nat.le_of_ble_eq_true rfl) (Nat.le_refl _) (Nat.le_refl _) ?_
      repeat (refine mw_step rfl ?_)
      exact mw_r1 rfl trivial (Nat.le_refl _) (Nat.le_refl _) rfl rfl
    · refine mw_call (c_run_J hn h50 hb ho h7 (xB_ran x, 0) 0 xx (by omega) (by show 0 < 960; omega) o h7) rfl rfl (Nat.le_of_ble_eq_true rfl) (Nat.le_refl _) (Nat.le_refl _) ?_
      repeat (refine mw_step rfl ?_)
      exact mw_r1 rfl trivial (Nat.le_refl _) (Nat.le_refl _) rfl rfl
    · refine mw_call (c_run_S hn h50 hb ho h7 (xB_ran x, 0) 0 xx (by omega) (by show 0 < 980; omega) o h7) rfl rfl (Nat.le_of_ble_eq_true rfl) (Nat.le_refl _) (Nat.le_refl _) ?_
      repeat (refine mw_step rfl ?_)
      exact mw_r1 rfl trivial (Nat.le_refl _) (Nat.le_refl _) rfl rfl
    · refine mw_call (c_run_T hn h50 hb ho h7 (xB_ran x, 0) 0 xx (by omega) (by show 0 < 930; omega) o h7) rfl rfl (Nat.le_of_ble_eq_true rfl) (Nat.le_refl _) (Nat.le_refl _) ?_
      repeat (refine mw_step rfl ?_)
      exact mw_r1 rfl trivial (Nat.le_refl _) (Nat.le_refl _) rfl rfl
  refine mc_of k1_C_act k2_C_act (Nat.le_of_ble_eq_true rfl) ?_
  repeat (refine mw_step rfl ?_)
  refine mw_call (hC) rfl rfl (Nat.le_of_ble_eq_true rfl) (Nat.le_refl _) (Nat.le_refl _) ?_
  exact mw_r1 rfl trivial (Nat.le_refl _) (Nat.le_refl _) rfl rfl
end AD
