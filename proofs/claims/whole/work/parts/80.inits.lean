/-! constructors -/
def tInit : Nat → Int32 := (upd (upd (upd (upd (upd (upd (upd (upd (upd (upd (upd (upd (upd (upd (upd (upd (upd (upd (upd (upd (upd (upd (upd (upd (fun _ => 0) 0 1) 1 1) 2 1) 3 1) 4 1) 5 1) 6 0) 7 0) 8 0) 9 0) 10 0) 11 0) 12 1) 13 1) 14 1) 15 1) 16 1) 17 1) 18 10) 19 10) 20 10) 21 10) 22 10) 23 10)
def hInit : Nat → Int32 := (upd (upd (upd (upd (upd (upd (fun _ => 0) 0 (-2)) 1 (-2)) 2 (-2)) 3 (-2)) 4 (-2)) 5 (-2))
theorem c_T_init (p0 p1 p2 p3 p4 p5 : MCell) : MC M_T_init 1 4 144 [.ref 6] [p0, p1, p2, p3, p4, p5, .inr (7, m_dfl 7)] none [p0, p1, p2, p3, p4, p5, .inr (7, [.ref 7, .ref 8, .ref 9, .ref 10, .int 0, .int 0]), .inl (.int, 24, .inl (tInit)), .inl (.int, 40, .inl (fun _ => 0)), .inl (.int, 40, .inl (fun _ => 0)), .inl (.int, 40, .inl (fun _ => 0))] := by
  refine mc_of k1_T_init k2_T_init (Nat.le_of_ble_eq_true rfl) ?_
  repeat (refine mw_step rfl ?_)
  refine mw_obj rfl (by decide) ?_
  repeat (refine mw_step rfl ?_)
  refine mw_newa (N := 24) (by decide) (by decide) rfl (by decide) (Nat.le_of_ble_eq_true rfl) (Nat.le_of_ble_eq_true rfl) ?_
  show MW M_T_init 1 4 144 none _ 1 24 9 [(0, .ref 6)] [.ref 7, .ref 6] [p0, p1, p2, p3, p4, p5, .inr (7, m_dfl 7), .inl (.int, 24, .inl (fun _ => 0))]
  have s0 : ∀ (f : Nat → Int32) {hT : MH}, MW M_T_init 1 4 144 none hT 1 24 13 [(0, .ref 6)] [.ref 7, .ref 6] [p0, p1, p2, p3, p4, p5, .inr (7, m_dfl 7), .inl (.int, 24, .inl (upd f 0 1))] → MW M_T_init 1 4 144 none hT 1 24 9 [(0, .ref 6)] [.ref 7, .ref 6] [p0, p1, p2, p3, p4, p5, .inr (7, m_dfl 7), .inl (.int, 24, .inl (f))] := by
    intro f hT K
    iterate 3 (refine mw_step rfl ?_)
    refine mw_ist rfl (show _ = nI 0 from rfl) (by omega) (by decide) ?_
    exact K
  have s1 : ∀ (f : Nat → Int32) {hT : MH}, MW M_T_init 1 4 144 none hT 1 24 17 [(0, .ref 6)] [.ref 7, .ref 6] [p0, p1, p2, p3, p4, p5, .inr (7, m_dfl 7), .inl (.int, 24, .inl (upd f 1 1))] → MW M_T_init 1 4 144 none hT 1 24 13 [(0, .ref 6)] [.ref 7, .ref 6] [p0, p1, p2, p3, p4, p5, .inr (7, m_dfl 7), .inl (.int, 24, .inl (f))] := by
    intro f hT K
    iterate 3 (refine mw_step rfl ?_)
    refine mw_ist rfl (show _ = nI 1 from rfl) (by omega) (by decide) ?_
    exact K
  have s2 : ∀ (f : Nat → Int32) {hT : MH}, MW M_T_init 1 4 144 none hT 1 24 21 [(0, .ref 6)] [.ref 7, .ref 6] [p0, p1, p2, p3, p4, p5, .inr (7, m_dfl 7), .inl (.int, 24, .inl (upd f 2 1))] → MW M_T_init 1 4 144 none hT 1 24 17 [(0, .ref 6)] [.ref 7, .ref 6] [p0, p1, p2, p3, p4, p5, .inr (7, m_dfl 7), .inl (.int, 24, .inl (f))] := by
    intro f hT K
    iterate 3 (refine mw_step rfl ?_)
    refine mw_ist rfl (show _ = nI 2 from rfl) (by omega) (by decide) ?_
    exact K
  have s3 : ∀ (f : Nat → Int32) {hT : MH}, MW M_T_init 1 4 144 none hT 1 24 25 [(0, .ref 6)] [.ref 7, .ref 6] [p0, p1, p2, p3, p4, p5, .inr (7, m_dfl 7), .inl (.int, 24, .inl (upd f 3 1))] → MW M_T_init 1 4 144 none hT 1 24 21 [(0, .ref 6)] [.ref 7, .ref 6] [p0, p1, p2, p3, p4, p5, .inr (7, m_dfl 7), .inl (.int, 24, .inl (f))] := by
    intro f hT K
    iterate 3 (refine mw_step rfl ?_)
    refine mw_ist rfl (show _ = nI 3 from rfl) (by omega) (by decide) ?_
    exact K
  have s4 : ∀ (f : Nat → Int32) {hT : MH}, MW M_T_init 1 4 144 none hT 1 24 29 [(0, .ref 6)] [.ref 7, .ref 6] [p0, p1, p2, p3, p4, p5, .inr (7, m_dfl 7), .inl (.int, 24, .inl (upd f 4 1))] → MW M_T_init 1 4 144 none hT 1 24 25 [(0, .ref 6)] [.ref 7, .ref 6] [p0, p1, p2, p3, p4, p5, .inr (7, m_dfl 7), .inl (.int, 24, .inl (f))] := by
    intro f hT K
    iterate 3 (refine mw_step rfl ?_)
    refine mw_ist rfl (show _ = nI 4 from rfl) (by omega) (by decide) ?_
    exact K
  have s5 : ∀ (f : Nat → Int32) {hT : MH}, MW M_T_init 1 4 144 none hT 1 24 33 [(0, .ref 6)] [.ref 7, .ref 6] [p0, p1, p2, p3, p4, p5, .inr (7, m_dfl 7), .inl (.int, 24, .inl (upd f 5 1))] → MW M_T_init 1 4 144 none hT 1 24 29 [(0, .ref 6)] [.ref 7, .ref 6] [p0, p1, p2, p3, p4, p5, .inr (7, m_dfl 7), .inl (.int, 24, .inl (f))] := by
    intro f hT K
    iterate 3 (refine mw_step rfl ?_)
    refine mw_ist rfl (show _ = nI 5 from rfl) (by omega) (by decide) ?_
    exact K
  have s6 : ∀ (f : Nat → Int32) {hT : MH}, MW M_T_init 1 4 144 none hT 1 24 38 [(0, .ref 6)] [.ref 7, .ref 6] [p0, p1, p2, p3, p4, p5, .inr (7, m_dfl 7), .inl (.int, 24, .inl (upd f 6 0))] → MW M_T_init 1 4 144 none hT 1 24 33 [(0, .ref 6)] [.ref 7, .ref 6] [p0, p1, p2, p3, p4, p5, .inr (7, m_dfl 7), .inl (.int, 24, .inl (f))] := by
    intro f hT K
    iterate 3 (refine mw_step rfl ?_)
    refine mw_ist rfl (show _ = nI 6 from rfl) (by omega) (by decide) ?_
    exact K
  have s7 : ∀ (f : Nat → Int32) {hT : MH}, MW M_T_init 1 4 144 none hT 1 24 43 [(0, .ref 6)] [.ref 7, .ref 6] [p0, p1, p2, p3, p4, p5, .inr (7, m_dfl 7), .inl (.int, 24, .inl (upd f 7 0))] → MW M_T_init 1 4 144 none hT 1 24 38 [(0, .ref 6)] [.ref 7, .ref 6] [p0, p1, p2, p3, p4, p5, .inr (7, m_dfl 7), .inl (.int, 24, .inl (f))] := by
    intro f hT K
    iterate 3 (refine mw_step rfl ?_)
    refine mw_ist rfl (show _ = nI 7 from rfl) (by omega) (by decide) ?_
    exact K
  have s8 : ∀ (f : Nat → Int32) {hT : MH}, MW M_T_init 1 4 144 none hT 1 24 48 [(0, .ref 6)] [.ref 7, .ref 6] [p0, p1, p2, p3, p4, p5, .inr (7, m_dfl 7), .inl (.int, 24, .inl (upd f 8 0))] → MW M_T_init 1 4 144 none hT 1 24 43 [(0, .ref 6)] [.ref 7, .ref 6] [p0, p1, p2, p3, p4, p5, .inr (7, m_dfl 7), .inl (.int, 24, .inl (f))] := by
    intro f hT K
    iterate 3 (refine mw_step rfl ?_)
    refine mw_ist rfl (show _ = nI 8 from rfl) (by omega) (by decide) ?_
    exact K
  have s9 : ∀ (f : Nat → Int32) {hT : MH}, MW M_T_init 1 4 144 none hT 1 24 53 [(0, .ref 6)] [.ref 7, .ref 6] [p0, p1, p2, p3, p4, p5, .inr (7, m_dfl 7), .inl (.int, 24, .inl (upd f 9 0))] → MW M_T_init 1 4 144 none hT 1 24 48 [(0, .ref 6)] [.ref 7, .ref 6] [p0, p1, p2, p3, p4, p5, .inr (7, m_dfl 7), .inl (.int, 24, .inl (f))] := by
    intro f hT K
    iterate 3 (refine mw_step rfl ?_)
    refine mw_ist rfl (show _ = nI 9 from rfl) (by omega) (by decide) ?_
    exact K
  have s10 : ∀ (f : Nat → Int32) {hT : MH}, MW M_T_init 1 4 144 none hT 1 24 58 [(0, .ref 6)] [.ref 7, .ref 6] [p0, p1, p2, p3, p4, p5, .inr (7, m_dfl 7), .inl (.int, 24, .inl (upd f 10 0))] → MW M_T_init 1 4 144 none hT 1 24 53 [(0, .ref 6)] [.ref 7, .ref 6] [p0, p1, p2, p3, p4, p5, .inr (7, m_dfl 7), .inl (.int, 24, .inl (f))] := by
    intro f hT K
    iterate 3 (refine mw_step rfl ?_)
    refine mw_ist rfl (show _ = nI 10 from rfl) (by omega) (by decide) ?_
    exact K
  have s11 : ∀ (f : Nat → Int32) {hT : MH}, MW M_T_init 1 4 144 none hT 1 24 63 [(0, .ref 6)] [.ref 7, .ref 6] [p0, p1, p2, p3, p4, p5, .inr (7, m_dfl 7), .inl (.int, 24, .inl (upd f 11 0))] → MW M_T_init 1 4 144 none hT 1 24 58 [(0, .ref 6)] [.ref 7, .ref 6] [p0, p1, p2, p3, p4, p5, .inr (7, m_dfl 7), .inl (.int, 24, .inl (f))] := by
    intro f hT K
    iterate 3 (refine mw_step rfl ?_)
    refine mw_ist rfl (show _ = nI 11 from rfl) (by omega) (by decide) ?_
    exact K
  have s12 : ∀ (f : Nat → Int32) {hT : MH}, MW M_T_init 1 4 144 none hT 1 24 68 [(0, .ref 6)] [.ref 7, .ref 6] [p0, p1, p2, p3, p4, p5, .inr (7, m_dfl 7), .inl (.int, 24, .inl (upd f 12 1))] → MW M_T_init 1 4 144 none hT 1 24 63 [(0, .ref 6)] [.ref 7, .ref 6] [p0, p1, p2, p3, p4, p5, .inr (7, m_dfl 7), .inl (.int, 24, .inl (f))] := by
    intro f hT K
    iterate 3 (refine mw_step rfl ?_)
    refine mw_ist rfl (show _ = nI 12 from rfl) (by omega) (by decide) ?_
    exact K
  have s13 : ∀ (f : Nat → Int32) {hT : MH}, MW M_T_init 1 4 144 none hT 1 24 73 [(0, .ref 6)] [.ref 7, .ref 6] [p0, p1, p2, p3, p4, p5, .inr (7, m_dfl 7), .inl (.int, 24, .inl (upd f 13 1))] → MW M_T_init 1 4 144 none hT 1 24 68 [(0, .ref 6)] [.ref 7, .ref 6] [p0, p1, p2, p3, p4, p5, .inr (7, m_dfl 7), .inl (.int, 24, .inl (f))] := by
    intro f hT K
    iterate 3 (refine mw_step rfl ?_)
    refine mw_ist rfl (show _ = nI 13 from rfl) (by omega) (by decide) ?_
    exact K
  have s14 : ∀ (f : Nat → Int32) {hT : MH}, MW M_T_init 1 4 144 none hT 1 24 78 [(0, .ref 6)] [.ref 7, .ref 6] [p0, p1, p2, p3, p4, p5, .inr (7, m_dfl 7), .inl (.int, 24, .inl (upd f 14 1))] → MW M_T_init 1 4 144 none hT 1 24 73 [(0, .ref 6)] [.ref 7, .ref 6] [p0, p1, p2, p3, p4, p5, .inr (7, m_dfl 7), .inl (.int, 24, .inl (f))] := by
    intro f hT K
    iterate 3 (refine mw_step rfl ?_)
    refine mw_ist rfl (show _ = nI 14 from rfl) (by omega) (by decide) ?_
    exact K
  have s15 : ∀ (f : Nat → Int32) {hT : MH}, MW M_T_init 1 4 144 none hT 1 24 83 [(0, .ref 6)] [.ref 7, .ref 6] [p0, p1, p2, p3, p4, p5, .inr (7, m_dfl 7), .inl (.int, 24, .inl (upd f 15 1))] → MW M_T_init 1 4 144 none hT 1 24 78 [(0, .ref 6)] [.ref 7, .ref 6] [p0, p1, p2, p3, p4, p5, .inr (7, m_dfl 7), .inl (.int, 24, .inl (f))] := by
    intro f hT K
    iterate 3 (refine mw_step rfl ?_)
    refine mw_ist rfl (show _ = nI 15 from rfl) (by omega) (by decide) ?_
    exact K
  have s16 : ∀ (f : Nat → Int32) {hT : MH}, MW M_T_init 1 4 144 none hT 1 24 88 [(0, .ref 6)] [.ref 7, .ref 6] [p0, p1, p2, p3, p4, p5, .inr (7, m_dfl 7), .inl (.int, 24, .inl (upd f 16 1))] → MW M_T_init 1 4 144 none hT 1 24 83 [(0, .ref 6)] [.ref 7, .ref 6] [p0, p1, p2, p3, p4, p5, .inr (7, m_dfl 7), .inl (.int, 24, .inl (f))] := by
    intro f hT K
    iterate 3 (refine mw_step rfl ?_)
    refine mw_ist rfl (show _ = nI 16 from rfl) (by omega) (by decide) ?_
    exact K
  have s17 : ∀ (f : Nat → Int32) {hT : MH}, MW M_T_init 1 4 144 none hT 1 24 93 [(0, .ref 6)] [.ref 7, .ref 6] [p0, p1, p2, p3, p4, p5, .inr (7, m_dfl 7), .inl (.int, 24, .inl (upd f 17 1))] → MW M_T_init 1 4 144 none hT 1 24 88 [(0, .ref 6)] [.ref 7, .ref 6] [p0, p1, p2, p3, p4, p5, .inr (7, m_dfl 7), .inl (.int, 24, .inl (f))] := by
    intro f hT K
    iterate 3 (refine mw_step rfl ?_)
    refine mw_ist rfl (show _ = nI 17 from rfl) (by omega) (by decide) ?_
    exact K
  have s18 : ∀ (f : Nat → Int32) {hT : MH}, MW M_T_init 1 4 144 none hT 1 24 99 [(0, .ref 6)] [.ref 7, .ref 6] [p0, p1, p2, p3, p4, p5, .inr (7, m_dfl 7), .inl (.int, 24, .inl (upd f 18 10))] → MW M_T_init 1 4 144 none hT 1 24 93 [(0, .ref 6)] [.ref 7, .ref 6] [p0, p1, p2, p3, p4, p5, .inr (7, m_dfl 7), .inl (.int, 24, .inl (f))] := by
    intro f hT K
    iterate 3 (refine mw_step rfl ?_)
    refine mw_ist rfl (show _ = nI 18 from rfl) (by omega) (by decide) ?_
    exact K
  have s19 : ∀ (f : Nat → Int32) {hT : MH}, MW M_T_init 1 4 144 none hT 1 24 105 [(0, .ref 6)] [.ref 7, .ref 6] [p0, p1, p2, p3, p4, p5, .inr (7, m_dfl 7), .inl (.int, 24, .inl (upd f 19 10))] → MW M_T_init 1 4 144 none hT 1 24 99 [(0, .ref 6)] [.ref 7, .ref 6] [p0, p1, p2, p3, p4, p5, .inr (7, m_dfl 7), .inl (.int, 24, .inl (f))] := by
    intro f hT K
    iterate 3 (refine mw_step rfl ?_)
    refine mw_ist rfl (show _ = nI 19 from rfl) (by omega) (by decide) ?_
    exact K
  have s20 : ∀ (f : Nat → Int32) {hT : MH}, MW M_T_init 1 4 144 none hT 1 24 111 [(0, .ref 6)] [.ref 7, .ref 6] [p0, p1, p2, p3, p4, p5, .inr (7, m_dfl 7), .inl (.int, 24, .inl (upd f 20 10))] → MW M_T_init 1 4 144 none hT 1 24 105 [(0, .ref 6)] [.ref 7, .ref 6] [p0, p1, p2, p3, p4, p5, .inr (7, m_dfl 7), .inl (.int, 24, .inl (f))] := by
    intro f hT K
    iterate 3 (refine mw_step rfl ?_)
    refine mw_ist rfl (show _ = nI 20 from rfl) (by omega) (by decide) ?_
    exact K
  have s21 : ∀ (f : Nat → Int32) {hT : MH}, MW M_T_init 1 4 144 none hT 1 24 117 [(0, .ref 6)] [.ref 7, .ref 6] [p0, p1, p2, p3, p4, p5, .inr (7, m_dfl 7), .inl (.int, 24, .inl (upd f 21 10))] → MW M_T_init 1 4 144 none hT 1 24 111 [(0, .ref 6)] [.ref 7, .ref 6] [p0, p1, p2, p3, p4, p5, .inr (7, m_dfl 7), .inl (.int, 24, .inl (f))] := by
    intro f hT K
    iterate 3 (refine mw_step rfl ?_)
    refine mw_ist rfl (show _ = nI 21 from rfl) (by omega) (by decide) ?_
    exact K
  have s22 : ∀ (f : Nat → Int32) {hT : MH}, MW M_T_init 1 4 144 none hT 1 24 123 [(0, .ref 6)] [.ref 7, .ref 6] [p0, p1, p2, p3, p4, p5, .inr (7, m_dfl 7), .inl (.int, 24, .inl (upd f 22 10))] → MW M_T_init 1 4 144 none hT 1 24 117 [(0, .ref 6)] [.ref 7, .ref 6] [p0, p1, p2, p3, p4, p5, .inr (7, m_dfl 7), .inl (.int, 24, .inl (f))] := by
    intro f hT K
    iterate 3 (refine mw_step rfl ?_)
    refine mw_ist rfl (show _ = nI 22 from rfl) (by omega) (by decide) ?_
    exact K
  have s23 : ∀ (f : Nat → Int32) {hT : MH}, MW M_T_init 1 4 144 none hT 1 24 129 [(0, .ref 6)] [.ref 7, .ref 6] [p0, p1, p2, p3, p4, p5, .inr (7, m_dfl 7), .inl (.int, 24, .inl (upd f 23 10))] → MW M_T_init 1 4 144 none hT 1 24 123 [(0, .ref 6)] [.ref 7, .ref 6] [p0, p1, p2, p3, p4, p5, .inr (7, m_dfl 7), .inl (.int, 24, .inl (f))] := by
    intro f hT K
    iterate 3 (refine mw_step rfl ?_)
    refine mw_ist rfl (show _ = nI 23 from rfl) (by omega) (by decide) ?_
    exact K
  refine s0 _ ?_
  refine s1 _ ?_
  refine s2 _ ?_
  refine s3 _ ?_
  refine s4 _ ?_
  refine s5 _ ?_
  refine s6 _ ?_
  refine s7 _ ?_
  refine s8 _ ?_
  refine s9 _ ?_
  refine s10 _ ?_
  refine s11 _ ?_
  refine s12 _ ?_
  refine s13 _ ?_
  refine s14 _ ?_
  refine s15 _ ?_
  refine s16 _ ?_
  refine s17 _ ?_
  refine s18 _ ?_
  refine s19 _ ?_
  refine s20 _ ?_
  refine s21 _ ?_
  refine s22 _ ?_
  refine s23 _ ?_
  show MW M_T_init 1 4 144 none _ 1 24 129 [(0, .ref 6)] [.ref 7, .ref 6] [p0, p1, p2, p3, p4, p5, .inr (7, m_dfl 7), .inl (.int, 24, .inl (tInit))]
  repeat (refine mw_step rfl ?_)
  refine mw_newa (N := 40) (by decide) (by decide) rfl (by decide) (Nat.le_of_ble_eq_true rfl) (Nat.le_of_ble_eq_true rfl) ?_
  repeat (refine mw_step rfl ?_)
  refine mw_newa (N := 40) (by decide) (by decide) rfl (by decide) (Nat.le_of_ble_eq_true rfl) (Nat.le_of_ble_eq_true rfl) ?_
  repeat (refine mw_step rfl ?_)
  refine mw_newa (N := 40) (by decide) (by decide) rfl (by decide) (Nat.le_of_ble_eq_true rfl) (Nat.le_of_ble_eq_true rfl) ?_
  repeat (refine mw_step rfl ?_)
  exact mw_r0 rfl (Nat.le_of_ble_eq_true rfl) (Nat.le_of_ble_eq_true rfl) rfl rfl
theorem c_L_init (p0 p1 p2 p3 p4 p5 p6 p7 p8 p9 p10 : MCell) : MC M_L_init 1 3 846 [.ref 11] [p0, p1, p2, p3, p4, p5, p6, p7, p8, p9, p10, .inr (1, m_dfl 1)] none [p0, p1, p2, p3, p4, p5, p6, p7, p8, p9, p10, .inr (1, [.ref 12, .ref 13, .ref 14]), .inl (.int, 720, .inl (fun _ => 0)), .inl (.int, 6, .inl (fun _ => 0)), .inl (.int, 120, .inl (fun _ => 0))] := by
  refine mc_of k1_L_init k2_L_init (Nat.le_of_ble_eq_true rfl) ?_
  repeat (refine mw_step rfl ?_)
  refine mw_obj rfl (by decide) ?_
  repeat (refine mw_step rfl ?_)
  refine mw_newa (N := 720) (by decide) (by decide) rfl (by decide) (Nat.le_of_ble_eq_true rfl) (Nat.le_of_ble_eq_true rfl) ?_
  repeat (refine mw_step rfl ?_)
  refine mw_newa (N := 6) (by decide) (by decide) rfl (by decide) (Nat.le_of_ble_eq_true rfl) (Nat.le_of_ble_eq_true rfl) ?_
  repeat (refine mw_step rfl ?_)
  refine mw_newa (N := 120) (by decide) (by decide) rfl (by decide) (Nat.le_of_ble_eq_true rfl) (Nat.le_of_ble_eq_true rfl) ?_
  repeat (refine mw_step rfl ?_)
  exact mw_r0 rfl (Nat.le_of_ble_eq_true rfl) (Nat.le_of_ble_eq_true rfl) rfl rfl
theorem c_R_init (p0 p1 p2 p3 p4 p5 p6 p7 p8 p9 p10 p11 p12 p13 p14 : MCell) : MC M_R_init 1 2 240 [.ref 15] [p0, p1, p2, p3, p4, p5, p6, p7, p8, p9, p10, p11, p12, p13, p14, .inr (4, m_dfl 4)] none [p0, p1, p2, p3, p4, p5, p6, p7, p8, p9, p10, p11, p12, p13, p14, .inr (4, [.ref 16, .int 0, .ref 17, .int 0, .int 0, .int (-1)]), .inl (.int, 120, .inl (fun _ => 0)), .inl (.int, 120, .inl (fun _ => 0))] := by
  refine mc_of k1_R_init k2_R_init (Nat.le_of_ble_eq_true rfl) ?_
  repeat (refine mw_step rfl ?_)
  refine mw_obj rfl (by decide) ?_
  repeat (refine mw_step rfl ?_)
  refine mw_newa (N := 120) (by decide) (by decide) rfl (by decide) (Nat.le_of_ble_eq_true rfl) (Nat.le_of_ble_eq_true rfl) ?_
  repeat (refine mw_step rfl ?_)
  refine mw_newa (N := 120) (by decide) (by decide) rfl (by decide) (Nat.le_of_ble_eq_true rfl) (Nat.le_of_ble_eq_true rfl) ?_
  repeat (refine mw_step rfl ?_)
  exact mw_r0 rfl (Nat.le_of_ble_eq_true rfl) (Nat.le_of_ble_eq_true rfl) rfl rfl
theorem c_S_init (p0 p1 p2 p3 p4 p5 p6 p7 p8 p9 p10 p11 p12 p13 p14 p15 p16 p17 : MCell) : MC M_S_init 1 4 838 [.ref 18, .ref 6, .ref 11] [p0, p1, p2, p3, p4, p5, p6, p7, p8, p9, p10, p11, p12, p13, p14, p15, p16, p17, .inr (5, m_dfl 5)] none [p0, p1, p2, p3, p4, p5, p6, p7, p8, p9, p10, p11, p12, p13, p14, p15, p16, p17, .inr (5, [.ref 6, .ref 11, .ref 19, .ref 20, .ref 21, .ref 22]), .inl (.long, 6, .inr (.inl (fun _ => 0))), .inl (.long, 384, .inr (.inl (fun _ => 0))), .inl (.long, 384, .inr (.inl (fun _ => 0))), .inl (.long, 64, .inr (.inl (fun _ => 0)))] := by
  refine mc_of k1_S_init k2_S_init (Nat.le_of_ble_eq_true rfl) ?_
  repeat (refine mw_step rfl ?_)
  refine mw_obj rfl (by decide) ?_
  repeat (refine mw_step rfl ?_)
  refine mw_newa (N := 6) (by decide) (by decide) rfl (by decide) (Nat.le_of_ble_eq_true rfl) (Nat.le_of_ble_eq_true rfl) ?_
  repeat (refine mw_step rfl ?_)
  refine mw_newa (N := 384) (by decide) (by decide) rfl (by decide) (Nat.le_of_ble_eq_true rfl) (Nat.le_of_ble_eq_true rfl) ?_
  repeat (refine mw_step rfl ?_)
  refine mw_newa (N := 384) (by decide) (by decide) rfl (by decide) (Nat.le_of_ble_eq_true rfl) (Nat.le_of_ble_eq_true rfl) ?_
  repeat (refine mw_step rfl ?_)
  refine mw_newa (N := 64) (by decide) (by decide) rfl (by decide) (Nat.le_of_ble_eq_true rfl) (Nat.le_of_ble_eq_true rfl) ?_
  repeat (refine mw_step rfl ?_)
  exact mw_r0 rfl (Nat.le_of_ble_eq_true rfl) (Nat.le_of_ble_eq_true rfl) rfl rfl
theorem c_P_init (p0 p1 p2 p3 p4 p5 p6 p7 p8 p9 p10 p11 p12 p13 p14 p15 p16 p17 p18 p19 p20 p21 p22 : MCell) : MC M_P_init 1 3 30 [.ref 23] [p0, p1, p2, p3, p4, p5, p6, p7, p8, p9, p10, p11, p12, p13, p14, p15, p16, p17, p18, p19, p20, p21, p22, .inr (2, m_dfl 2)] none [p0, p1, p2, p3, p4, p5, p6, p7, p8, p9, p10, p11, p12, p13, p14, p15, p16, p17, p18, p19, p20, p21, p22, .inr (2, [.ref 24, .ref 25, .ref 26, .int 0]), .inl (.int, 10, .inl (fun _ => 0)), .inl (.int, 10, .inl (fun _ => 0)), .inl (.int, 10, .inl (fun _ => 0))] := by
  refine mc_of k1_P_init k2_P_init (Nat.le_of_ble_eq_true rfl) ?_
  repeat (refine mw_step rfl ?_)
  refine mw_obj rfl (by decide) ?_
  repeat (refine mw_step rfl ?_)
  refine mw_newa (N := 10) (by decide) (by decide) rfl (by decide) (Nat.le_of_ble_eq_true rfl) (Nat.le_of_ble_eq_true rfl) ?_
  repeat (refine mw_step rfl ?_)
  refine mw_newa (N := 10) (by decide) (by decide) rfl (by decide) (Nat.le_of_ble_eq_true rfl) (Nat.le_of_ble_eq_true rfl) ?_
  repeat (refine mw_step rfl ?_)
  refine mw_newa (N := 10) (by decide) (by decide) rfl (by decide) (Nat.le_of_ble_eq_true rfl) (Nat.le_of_ble_eq_true rfl) ?_
  repeat (refine mw_step rfl ?_)
  exact mw_r0 rfl (Nat.le_of_ble_eq_true rfl) (Nat.le_of_ble_eq_true rfl) rfl rfl
theorem c_B_init (p0 p1 p2 p3 p4 p5 p6 p7 p8 p9 p10 p11 p12 p13 p14 p15 p16 p17 p18 p19 p20 p21 p22 p23 p24 p25 p26 : MCell) : MC M_B_init 1 2 74 [.ref 27] [p0, p1, p2, p3, p4, p5, p6, p7, p8, p9, p10, p11, p12, p13, p14, p15, p16, p17, p18, p19, p20, p21, p22, p23, p24, p25, p26, .inr (0, m_dfl 0)] none [p0, p1, p2, p3, p4, p5, p6, p7, p8, p9, p10, p11, p12, p13, p14, p15, p16, p17, p18, p19, p20, p21, p22, p23, p24, p25, p26, .inr (0, [.ref 28, .int 0, .ref 29, .int 0]), .inl (.int, 50, .inl (fun _ => 0)), .inl (.int, 24, .inl (fun _ => 0))] := by
  refine mc_of k1_B_init k2_B_init (Nat.le_of_ble_eq_true rfl) ?_
  repeat (refine mw_step rfl ?_)
  refine mw_obj rfl (by decide) ?_
  repeat (refine mw_step rfl ?_)
  refine mw_newa (N := 50) (by decide) (by decide) rfl (by decide) (Nat.le_of_ble_eq_true rfl) (Nat.le_of_ble_eq_true rfl) ?_
  repeat (refine mw_step rfl ?_)
  refine mw_newa (N := 24) (by decide) (by decide) rfl (by decide) (Nat.le_of_ble_eq_true rfl) (Nat.le_of_ble_eq_true rfl) ?_
  repeat (refine mw_step rfl ?_)
  exact mw_r0 rfl (Nat.le_of_ble_eq_true rfl) (Nat.le_of_ble_eq_true rfl) rfl rfl
theorem c_H_init (p0 p1 p2 p3 p4 p5 p6 p7 p8 p9 p10 p11 p12 p13 p14 p15 p16 p17 p18 p19 p20 p21 p22 p23 p24 p25 p26 p27 p28 p29 : MCell) : MC M_H_init 1 4 378 [.ref 30] [p0, p1, p2, p3, p4, p5, p6, p7, p8, p9, p10, p11, p12, p13, p14, p15, p16, p17, p18, p19, p20, p21, p22, p23, p24, p25, p26, p27, p28, p29, .inr (6, m_dfl 6)] none [p0, p1, p2, p3, p4, p5, p6, p7, p8, p9, p10, p11, p12, p13, p14, p15, p16, p17, p18, p19, p20, p21, p22, p23, p24, p25, p26, p27, p28, p29, .inr (6, [.ref 31, .ref 32, .ref 33, .ref 34]), .inl (.int, 6, .inl (hInit)), .inl (.int, 6, .inl (fun _ => 0)), .inl (.int, 6, .inl (fun _ => 0)), .inl (.long, 360, .inr (.inl (fun _ => 0)))] := by
  refine mc_of k1_H_init k2_H_init (Nat.le_of_ble_eq_true rfl) ?_
  repeat (refine mw_step rfl ?_)
  refine mw_obj rfl (by decide) ?_
  repeat (refine mw_step rfl ?_)
  refine mw_newa (N := 6) (by decide) (by decide) rfl (by decide) (Nat.le_of_ble_eq_true rfl) (Nat.le_of_ble_eq_true rfl) ?_
  show MW M_H_init 1 4 378 none _ 1 6 9 [(0, .ref 30)] [.ref 31, .ref 30] [p0, p1, p2, p3, p4, p5, p6, p7, p8, p9, p10, p11, p12, p13, p14, p15, p16, p17, p18, p19, p20, p21, p22, p23, p24, p25, p26, p27, p28, p29, .inr (6, m_dfl 6), .inl (.int, 6, .inl (fun _ => 0))]
  have s0 : ∀ (f : Nat → Int32) {hT : MH}, MW M_H_init 1 4 378 none hT 1 6 14 [(0, .ref 30)] [.ref 31, .ref 30] [p0, p1, p2, p3, p4, p5, p6, p7, p8, p9, p10, p11, p12, p13, p14, p15, p16, p17, p18, p19, p20, p21, p22, p23, p24, p25, p26, p27, p28, p29, .inr (6, m_dfl 6), .inl (.int, 6, .inl (upd f 0 (-2)))] → MW M_H_init 1 4 378 none hT 1 6 9 [(0, .ref 30)] [.ref 31, .ref 30] [p0, p1, p2, p3, p4, p5, p6, p7, p8, p9, p10, p11, p12, p13, p14, p15, p16, p17, p18, p19, p20, p21, p22, p23, p24, p25, p26, p27, p28, p29, .inr (6, m_dfl 6), .inl (.int, 6, .inl (f))] := by
    intro f hT K
    iterate 3 (refine mw_step rfl ?_)
    refine mw_ist rfl (show _ = nI 0 from rfl) (by omega) (by decide) ?_
    exact K
  have s1 : ∀ (f : Nat → Int32) {hT : MH}, MW M_H_init 1 4 378 none hT 1 6 19 [(0, .ref 30)] [.ref 31, .ref 30] [p0, p1, p2, p3, p4, p5, p6, p7, p8, p9, p10, p11, p12, p13, p14, p15, p16, p17, p18, p19, p20, p21, p22, p23, p24, p25, p26, p27, p28, p29, .inr (6, m_dfl 6), .inl (.int, 6, .inl (upd f 1 (-2)))] → MW M_H_init 1 4 378 none hT 1 6 14 [(0, .ref 30)] [.ref 31, .ref 30] [p0, p1, p2, p3, p4, p5, p6, p7, p8, p9, p10, p11, p12, p13, p14, p15, p16, p17, p18, p19, p20, p21, p22, p23, p24, p25, p26, p27, p28, p29, .inr (6, m_dfl 6), .inl (.int, 6, .inl (f))] := by
    intro f hT K
    iterate 3 (refine mw_step rfl ?_)
    refine mw_ist rfl (show _ = nI 1 from rfl) (by omega) (by decide) ?_
    exact K
  have s2 : ∀ (f : Nat → Int32) {hT : MH}, MW M_H_init 1 4 378 none hT 1 6 24 [(0, .ref 30)] [.ref 31, .ref 30] [p0, p1, p2, p3, p4, p5, p6, p7, p8, p9, p10, p11, p12, p13, p14, p15, p16, p17, p18, p19, p20, p21, p22, p23, p24, p25, p26, p27, p28, p29, .inr (6, m_dfl 6), .inl (.int, 6, .inl (upd f 2 (-2)))] → MW M_H_init 1 4 378 none hT 1 6 19 [(0, .ref 30)] [.ref 31, .ref 30] [p0, p1, p2, p3, p4, p5, p6, p7, p8, p9, p10, p11, p12, p13, p14, p15, p16, p17, p18, p19, p20, p21, p22, p23, p24, p25, p26, p27, p28, p29, .inr (6, m_dfl 6), .inl (.int, 6, .inl (f))] := by
    intro f hT K
    iterate 3 (refine mw_step rfl ?_)
    refine mw_ist rfl (show _ = nI 2 from rfl) (by omega) (by decide) ?_
    exact K
  have s3 : ∀ (f : Nat → Int32) {hT : MH}, MW M_H_init 1 4 378 none hT 1 6 29 [(0, .ref 30)] [.ref 31, .ref 30] [p0, p1, p2, p3, p4, p5, p6, p7, p8, p9, p10, p11, p12, p13, p14, p15, p16, p17, p18, p19, p20, p21, p22, p23, p24, p25, p26, p27, p28, p29, .inr (6, m_dfl 6), .inl (.int, 6, .inl (upd f 3 (-2)))] → MW M_H_init 1 4 378 none hT 1 6 24 [(0, .ref 30)] [.ref 31, .ref 30] [p0, p1, p2, p3, p4, p5, p6, p7, p8, p9, p10, p11, p12, p13, p14, p15, p16, p17, p18, p19, p20, p21, p22, p23, p24, p25, p26, p27, p28, p29, .inr (6, m_dfl 6), .inl (.int, 6, .inl (f))] := by
    intro f hT K
    iterate 3 (refine mw_step rfl ?_)
    refine mw_ist rfl (show _ = nI 3 from rfl) (by omega) (by decide) ?_
    exact K
  have s4 : ∀ (f : Nat → Int32) {hT : MH}, MW M_H_init 1 4 378 none hT 1 6 34 [(0, .ref 30)] [.ref 31, .ref 30] [p0, p1, p2, p3, p4, p5, p6, p7, p8, p9, p10, p11, p12, p13, p14, p15, p16, p17, p18, p19, p20, p21, p22, p23, p24, p25, p26, p27, p28, p29, .inr (6, m_dfl 6), .inl (.int, 6, .inl (upd f 4 (-2)))] → MW M_H_init 1 4 378 none hT 1 6 29 [(0, .ref 30)] [.ref 31, .ref 30] [p0, p1, p2, p3, p4, p5, p6, p7, p8, p9, p10, p11, p12, p13, p14, p15, p16, p17, p18, p19, p20, p21, p22, p23, p24, p25, p26, p27, p28, p29, .inr (6, m_dfl 6), .inl (.int, 6, .inl (f))] := by
    intro f hT K
    iterate 3 (refine mw_step rfl ?_)
    refine mw_ist rfl (show _ = nI 4 from rfl) (by omega) (by decide) ?_
    exact K
  have s5 : ∀ (f : Nat → Int32) {hT : MH}, MW M_H_init 1 4 378 none hT 1 6 39 [(0, .ref 30)] [.ref 31, .ref 30] [p0, p1, p2, p3, p4, p5, p6, p7, p8, p9, p10, p11, p12, p13, p14, p15, p16, p17, p18, p19, p20, p21, p22, p23, p24, p25, p26, p27, p28, p29, .inr (6, m_dfl 6), .inl (.int, 6, .inl (upd f 5 (-2)))] → MW M_H_init 1 4 378 none hT 1 6 34 [(0, .ref 30)] [.ref 31, .ref 30] [p0, p1, p2, p3, p4, p5, p6, p7, p8, p9, p10, p11, p12, p13, p14, p15, p16, p17, p18, p19, p20, p21, p22, p23, p24, p25, p26, p27, p28, p29, .inr (6, m_dfl 6), .inl (.int, 6, .inl (f))] := by
    intro f hT K
    iterate 3 (refine mw_step rfl ?_)
    refine mw_ist rfl (show _ = nI 5 from rfl) (by omega) (by decide) ?_
    exact K
  refine s0 _ ?_
  refine s1 _ ?_
  refine s2 _ ?_
  refine s3 _ ?_
  refine s4 _ ?_
  refine s5 _ ?_
  show MW M_H_init 1 4 378 none _ 1 6 39 [(0, .ref 30)] [.ref 31, .ref 30] [p0, p1, p2, p3, p4, p5, p6, p7, p8, p9, p10, p11, p12, p13, p14, p15, p16, p17, p18, p19, p20, p21, p22, p23, p24, p25, p26, p27, p28, p29, .inr (6, m_dfl 6), .inl (.int, 6, .inl (hInit))]
  repeat (refine mw_step rfl ?_)
  refine mw_newa (N := 6) (by decide) (by decide) rfl (by decide) (Nat.le_of_ble_eq_true rfl) (Nat.le_of_ble_eq_true rfl) ?_
  repeat (refine mw_step rfl ?_)
  refine mw_newa (N := 6) (by decide) (by decide) rfl (by decide) (Nat.le_of_ble_eq_true rfl) (Nat.le_of_ble_eq_true rfl) ?_
  repeat (refine mw_step rfl ?_)
  refine mw_newa (N := 360) (by decide) (by decide) rfl (by decide) (Nat.le_of_ble_eq_true rfl) (Nat.le_of_ble_eq_true rfl) ?_
  repeat (refine mw_step rfl ?_)
  exact mw_r0 rfl (Nat.le_of_ble_eq_true rfl) (Nat.le_of_ble_eq_true rfl) rfl rfl
theorem c_C_init (p0 p1 p2 p3 p4 : MCell) : MC M_C_init 2 40 3000 [.ref 5] [p0, p1, p2, p3, p4, .inr (8, m_dfl 8)] none [p0, p1, p2, p3, p4, .inr (8, [.ref 6, .ref 11, .ref 15, .ref 18, .ref 23, .ref 27, .ref 30, .ref 35, .int 0, .ref 36, .ref 37, .ref 38, .int 0, .int 0]), .inr (7, [.ref 7, .ref 8, .ref 9, .ref 10, .int 0, .int 0]), .inl (.int, 24, .inl (tInit)), .inl (.int, 40, .inl (fun _ => 0)), .inl (.int, 40, .inl (fun _ => 0)), .inl (.int, 40, .inl (fun _ => 0)), .inr (1, [.ref 12, .ref 13, .ref 14]), .inl (.int, 720, .inl (fun _ => 0)), .inl (.int, 6, .inl (fun _ => 0)), .inl (.int, 120, .inl (fun _ => 0)), .inr (4, [.ref 16, .int 0, .ref 17, .int 0, .int 0, .int (-1)]), .inl (.int, 120, .inl (fun _ => 0)), .inl (.int, 120, .inl (fun _ => 0)), .inr (5, [.ref 6, .ref 11, .ref 19, .ref 20, .ref 21, .ref 22]), .inl (.long, 6, .inr (.inl (fun _ => 0))), .inl (.long, 384, .inr (.inl (fun _ => 0))), .inl (.long, 384, .inr (.inl (fun _ => 0))), .inl (.long, 64, .inr (.inl (fun _ => 0))), .inr (2, [.ref 24, .ref 25, .ref 26, .int 0]), .inl (.int, 10, .inl (fun _ => 0)), .inl (.int, 10, .inl (fun _ => 0)), .inl (.int, 10, .inl (fun _ => 0)), .inr (0, [.ref 28, .int 0, .ref 29, .int 0]), .inl (.int, 50, .inl (fun _ => 0)), .inl (.int, 24, .inl (fun _ => 0)), .inr (6, [.ref 31, .ref 32, .ref 33, .ref 34]), .inl (.int, 6, .inl (hInit)), .inl (.int, 6, .inl (fun _ => 0)), .inl (.int, 6, .inl (fun _ => 0)), .inl (.long, 360, .inr (.inl (fun _ => 0))), .inl (.object "ChairOld$Piece", 8, .inr (.inr (.inr (.inr fun _ => none)))), .inl (.int, 8, .inl (fun _ => 0)), .inl (.int, 8, .inl (fun _ => 0)), .inl (.int, 8, .inl (fun _ => 0))] := by
  refine mc_of k1_C_init k2_C_init (Nat.le_of_ble_eq_true rfl) ?_
  repeat (refine mw_step rfl ?_)
  refine mw_obj rfl (by decide) ?_
  repeat (refine mw_step rfl ?_)
  refine mw_new rfl (Nat.le_of_ble_eq_true rfl) (Nat.le_of_ble_eq_true rfl) ?_
  repeat (refine mw_step rfl ?_)
  refine mw_call (c_T_init _ _ _ _ _ _) rfl rfl (Nat.le_of_ble_eq_true rfl) (Nat.le_of_ble_eq_true rfl) (Nat.le_of_ble_eq_true rfl) ?_
  repeat (refine mw_step rfl ?_)
  refine mw_new rfl (Nat.le_of_ble_eq_true rfl) (Nat.le_of_ble_eq_true rfl) ?_
  repeat (refine mw_step rfl ?_)
  refine mw_call (c_L_init _ _ _ _ _ _ _ _ _ _ _) rfl rfl (Nat.le_of_ble_eq_true rfl) (Nat.le_of_ble_eq_true rfl) (Nat.le_of_ble_eq_true rfl) ?_
  repeat (refine mw_step rfl ?_)
  refine mw_new rfl (Nat.le_of_ble_eq_true rfl) (Nat.le_of_ble_eq_true rfl) ?_
  repeat (refine mw_step rfl ?_)
  refine mw_call (c_R_init _ _ _ _ _ _ _ _ _ _ _ _ _ _ _) rfl rfl (Nat.le_of_ble_eq_true rfl) (Nat.le_of_ble_eq_true rfl) (Nat.le_of_ble_eq_true rfl) ?_
  repeat (refine mw_step rfl ?_)
  refine mw_new rfl (Nat.le_of_ble_eq_true rfl) (Nat.le_of_ble_eq_true rfl) ?_
  repeat (refine mw_step rfl ?_)
  refine mw_call (c_S_init _ _ _ _ _ _ _ _ _ _ _ _ _ _ _ _ _ _) rfl rfl (Nat.le_of_ble_eq_true rfl) (Nat.le_of_ble_eq_true rfl) (Nat.le_of_ble_eq_true rfl) ?_
  repeat (refine mw_step rfl ?_)
  refine mw_new rfl (Nat.le_of_ble_eq_true rfl) (Nat.le_of_ble_eq_true rfl) ?_
  repeat (refine mw_step rfl ?_)
  refine mw_call (c_P_init _ _ _ _ _ _ _ _ _ _ _ _ _ _ _ _ _ _ _ _ _ _ _) rfl rfl (Nat.le_of_ble_eq_true rfl) (Nat.le_of_ble_eq_true rfl) (Nat.le_of_ble_eq_true rfl) ?_
  repeat (refine mw_step rfl ?_)
  refine mw_new rfl (Nat.le_of_ble_eq_true rfl) (Nat.le_of_ble_eq_true rfl) ?_
  repeat (refine mw_step rfl ?_)
  refine mw_call (c_B_init _ _ _ _ _ _ _ _ _ _ _ _ _ _ _ _ _ _ _ _ _ _ _ _ _ _ _) rfl rfl (Nat.le_of_ble_eq_true rfl) (Nat.le_of_ble_eq_true rfl) (Nat.le_of_ble_eq_true rfl) ?_
  repeat (refine mw_step rfl ?_)
  refine mw_new rfl (Nat.le_of_ble_eq_true rfl) (Nat.le_of_ble_eq_true rfl) ?_
  repeat (refine mw_step rfl ?_)
  refine mw_call (c_H_init _ _ _ _ _ _ _ _ _ _ _ _ _ _ _ _ _ _ _ _ _ _ _ _ _ _ _ _ _ _) rfl rfl (Nat.le_of_ble_eq_true rfl) (Nat.le_of_ble_eq_true rfl) (Nat.le_of_ble_eq_true rfl) ?_
  repeat (refine mw_step rfl ?_)
  refine mw_anew (N := 8) (by decide) (by decide) rfl (by decide) (Nat.le_of_ble_eq_true rfl) (Nat.le_of_ble_eq_true rfl) ?_
  repeat (refine mw_step rfl ?_)
  refine mw_newa (N := 8) (by decide) (by decide) rfl (by decide) (Nat.le_of_ble_eq_true rfl) (Nat.le_of_ble_eq_true rfl) ?_
  repeat (refine mw_step rfl ?_)
  refine mw_newa (N := 8) (by decide) (by decide) rfl (by decide) (Nat.le_of_ble_eq_true rfl) (Nat.le_of_ble_eq_true rfl) ?_
  repeat (refine mw_step rfl ?_)
  refine mw_newa (N := 8) (by decide) (by decide) rfl (by decide) (Nat.le_of_ble_eq_true rfl) (Nat.le_of_ble_eq_true rfl) ?_
  repeat (refine mw_step rfl ?_)
  exact mw_r0 rfl (Nat.le_of_ble_eq_true rfl) (Nat.le_of_ble_eq_true rfl) rfl rfl
