/-! acts: the reference -/
abbrev wO (m : OS) (t : TR) : OS := zb_s m (zb_bodies m, zb_kind m, t.1, nI t.2, zb_ownKind m, zb_ownNumber m)
section AE
variable {sc : Nat × (Nat → Int32)} {x : XS} {m : OS} {N o : Nat} {nb : Int32} {tl : MH}
theorem c_O_begins (t : TR) (q : Int32) (ht : t.2 < 2 ^ 20) : MC M_O_begins 0 0 0 [.ref 39, .int q] (heapN N sc x (wO m t) tl) none (heapN N sc x (wO m (sp_note q t)) tl) := by
  refine mc_of k1_O_begins k2_O_begins (Nat.le_of_ble_eq_true rfl) ?_
  repeat (refine mw_step rfl ?_)
  by_cases h : t.2 < 24
  · refine mw_brT rfl (n_lt (b := 24) h (by omega)) ?_
    repeat (refine mw_step rfl ?_)
    refine mw_ist rfl (rfl) (by omega) (by decide) ?_
    repeat (refine mw_step rfl ?_)
    exact mw_r0 rfl (Nat.le_refl _) (Nat.le_refl _) rfl (by rw [sp_note, if_pos h]; show heapN N sc x (zb_s m (zb_bodies m, zb_kind m, upd t.1 t.2 q, nI (t.2 + 1), zb_ownKind m, zb_ownNumber m)) tl = _; rw [← nI_1]; rfl)
  · refine mw_brF rfl (n_nlt (b := 24) (by omega) (by omega)) ?_
    repeat (refine mw_step rfl ?_)
    exact mw_r0 rfl (Nat.le_refl _) (Nat.le_refl _) rfl (by rw [sp_note, if_neg h]; show heapN N sc x (zb_s m (zb_bodies m, zb_kind m, t.1, nI (t.2 + 1), zb_ownKind m, zb_ownNumber m)) tl = _; rw [← nI_1]; rfl)
theorem c_O_A0 (hnb : zb_ownNumber m = nb) (t : TR) (xx : Int32) (ht : t.2 < 1000) : MC M_O_agesAs 1 0 0 [.ref 39, .int (nI 0), .int xx] (heapN N sc x (wO m t) tl) (some (.int (rA0 nb xx t).1)) (heapN N sc x (wO m (rA0 nb xx t).2) tl) := by
  refine mc_of k1_O_agesAs k2_O_agesAs (Nat.le_of_ble_eq_true rfl) ?_
  repeat (first | refine mw_step rfl ?_ | refine mw_brT rfl (by decide) ?_ | refine mw_brF rfl (by decide) ?_)
  refine mw_call (c_O_begins t 1 (by omega)) rfl rfl (Nat.le_of_ble_eq_true rfl) (Nat.le_refl _) (Nat.le_refl _) ?_
  repeat (refine mw_step rfl ?_)
  rw [show zb_ownNumber (wO m (sp_note 1 t)) = nb from hnb]
  exact mw_r1 rfl trivial (Nat.le_refl _) (Nat.le_refl _) rfl rfl
theorem c_O_A (hnb : zb_ownNumber m = nb) (t : TR) (xx : Int32) (ht : t.2 < 990) (k : Nat) (hk : k ≤ 7) : MC M_O_agesAs 2 0 0 [.ref 39, .int (nI k), .int xx] (heapN N sc x (wO m t) tl) (some (.int (rA k nb xx t).1)) (heapN N sc x (wO m (rA k nb xx t).2) tl) := by
  refine mc_of k1_O_agesAs k2_O_agesAs (Nat.le_of_ble_eq_true rfl) ?_
  have t1 : ∀ q : Int32, (sp_note q t).2 < 1000 := fun q => by show t.2 + 1 < 1000; omega
  rcases (show k = 0 ∨ k = 1 ∨ k = 2 ∨ k = 3 ∨ k = 4 ∨ k = 5 ∨ k = 6 ∨ k = 7 by omega) with rfl | rfl | rfl | rfl | rfl | rfl | rfl | rfl
  · repeat (first | refine mw_step rfl ?_ | refine mw_brT rfl (by decide) ?_ | refine mw_brF rfl (by decide) ?_)
    refine mw_call (c_O_begins t 1 (by omega)) rfl rfl (Nat.le_of_ble_eq_true rfl) (Nat.le_refl _) (Nat.le_refl _) ?_
    repeat (refine mw_step rfl ?_)
    rw [show zb_ownNumber (wO m (sp_note 1 t)) = nb from hnb]
    exact mw_r1 rfl trivial (Nat.le_refl _) (Nat.le_refl _) rfl rfl
  · repeat (first | refine mw_step rfl ?_ | refine mw_brT rfl (by decide) ?_ | refine mw_brF rfl (by decide) ?_)
    refine mw_call (c_O_begins t 20 (by omega)) rfl rfl (Nat.le_of_ble_eq_true rfl) (Nat.le_refl _) (Nat.le_refl _) ?_
    repeat (refine mw_step rfl ?_)
    refine mw_call (c_O_A0 hnb (sp_note 20 t) xx (t1 20)) rfl rfl (Nat.le_of_ble_eq_true rfl) (Nat.le_refl _) (Nat.le_refl _) ?_
    repeat (refine mw_step rfl ?_)
    exact mw_r1 rfl trivial (Nat.le_refl _) (Nat.le_refl _) rfl rfl
  · repeat (first | refine mw_step rfl ?_ | refine mw_brT rfl (by decide) ?_ | refine mw_brF rfl (by decide) ?_)
    refine mw_call (c_O_begins t 1 (by omega)) rfl rfl (Nat.le_of_ble_eq_true rfl) (Nat.le_refl _) (Nat.le_refl _) ?_
    repeat (refine mw_step rfl ?_)
    rw [show zb_ownNumber (wO m (sp_note 1 t)) = nb from hnb]
    exact mw_r1 rfl trivial (Nat.le_refl _) (Nat.le_refl _) rfl rfl
  · repeat (first | refine mw_step rfl ?_ | refine mw_brT rfl (by decide) ?_ | refine mw_brF rfl (by decide) ?_)
    refine mw_call (c_O_begins t 1 (by omega)) rfl rfl (Nat.le_of_ble_eq_true rfl) (Nat.le_refl _) (Nat.le_refl _) ?_
    repeat (refine mw_step rfl ?_)
    rw [show zb_ownNumber (wO m (sp_note 1 t)) = nb from hnb]
    exact mw_r1 rfl trivial (Nat.le_refl _) (Nat.le_refl _) rfl rfl
  · repeat (first | refine mw_step rfl ?_ | refine mw_brT rfl (by decide) ?_ | refine mw_brF rfl (by decide) ?_)
    refine mw_call (c_O_begins t 20 (by omega)) rfl rfl (Nat.le_of_ble_eq_true rfl) (Nat.le_refl _) (Nat.le_refl _) ?_
    repeat (refine mw_step rfl ?_)
    refine mw_call (c_O_A0 hnb (sp_note 20 t) xx (t1 20)) rfl rfl (Nat.le_of_ble_eq_true rfl) (Nat.le_refl _) (Nat.le_refl _) ?_
    repeat (refine mw_step rfl ?_)
    exact mw_r1 rfl trivial (Nat.le_refl _) (Nat.le_refl _) rfl rfl
  · repeat (first | refine mw_step rfl ?_ | refine mw_brT rfl (by decide) ?_ | refine mw_brF rfl (by decide) ?_)
    refine mw_call (c_O_begins t 1 (by omega)) rfl rfl (Nat.le_of_ble_eq_true rfl) (Nat.le_refl _) (Nat.le_refl _) ?_
    repeat (refine mw_step rfl ?_)
    rw [show zb_ownNumber (wO m (sp_note 1 t)) = nb from hnb]
    exact mw_r1 rfl trivial (Nat.le_refl _) (Nat.le_refl _) rfl rfl
  · repeat (first | refine mw_step rfl ?_ | refine mw_brT rfl (by decide) ?_ | refine mw_brF rfl (by decide) ?_)
    refine mw_call (c_O_begins t 70 (by omega)) rfl rfl (Nat.le_of_ble_eq_true rfl) (Nat.le_refl _) (Nat.le_refl _) ?_
    repeat (refine mw_step rfl ?_)
    refine mw_call (c_O_A0 hnb (sp_note 70 t) xx (t1 70)) rfl rfl (Nat.le_of_ble_eq_true rfl) (Nat.le_refl _) (Nat.le_refl _) ?_
    repeat (refine mw_step rfl ?_)
    exact mw_r1 rfl trivial (Nat.le_refl _) (Nat.le_refl _) rfl rfl
  · repeat (first | refine mw_step rfl ?_ | refine mw_brT rfl (by decide) ?_ | refine mw_brF rfl (by decide) ?_)
    refine mw_call (c_O_begins t 20 (by omega)) rfl rfl (Nat.le_of_ble_eq_true rfl) (Nat.le_refl _) (Nat.le_refl _) ?_
    repeat (refine mw_step rfl ?_)
    refine mw_call (c_O_A0 hnb (sp_note 20 t) xx (t1 20)) rfl rfl (Nat.le_of_ble_eq_true rfl) (Nat.le_refl _) (Nat.le_refl _) ?_
    repeat (refine mw_step rfl ?_)
    exact mw_r1 rfl trivial (Nat.le_refl _) (Nat.le_refl _) rfl rfl
theorem c_O_J0 (hnb : zb_ownNumber m = nb) (ho : zb_ownKind m = nI o) (h7 : o ≤ 7) (t : TR) (xx : Int32) (ht : t.2 < 980) (k : Nat) (hk : k ≤ 7) (hk2 : k = 0 ∨ k = 1 ∨ k = 4 ∨ k = 6) : MC M_O_joinsAs 3 0 0 [.ref 39, .int (nI k), .int xx] (heapN N sc x (wO m t) tl) (some (.int (rJ0 o nb xx t).1)) (heapN N sc x (wO m (rJ0 o nb xx t).2) tl) := by
  refine mc_of k1_O_joinsAs k2_O_joinsAs (Nat.le_of_ble_eq_true rfl) ?_
  have t1 : ∀ q : Int32, (sp_note q t).2 < 990 := fun q => by show t.2 + 1 < 990; omega
  rcases (show k = 0 ∨ k = 1 ∨ k = 2 ∨ k = 3 ∨ k = 4 ∨ k = 5 ∨ k = 6 ∨ k = 7 by omega) with rfl | rfl | rfl | rfl | rfl | rfl | rfl | rfl
  · repeat (first | refine mw_step rfl ?_ | refine mw_brT rfl (by decide) ?_ | refine mw_brF rfl (by decide) ?_)
    refine mw_call (c_O_begins t 10 (by omega)) rfl rfl (Nat.le_of_ble_eq_true rfl) (Nat.le_refl _) (Nat.le_refl _) ?_
    repeat (refine mw_step rfl ?_)
    rw [show zb_ownKind (wO m (sp_note 10 t)) = nI o from ho]
    refine mw_call (c_O_A hnb (sp_note 10 t) xx (t1 10) o h7) rfl rfl (Nat.le_of_ble_eq_true rfl) (Nat.le_refl _) (Nat.le_refl _) ?_
    repeat (refine mw_step rfl ?_)
    exact mw_r1 rfl trivial (Nat.le_refl _) (Nat.le_refl _) rfl rfl
  · repeat (first | refine mw_step rfl ?_ | refine mw_brT rfl (by decide) ?_ | refine mw_brF rfl (by decide) ?_)
    refine mw_call (c_O_begins t 10 (by omega)) rfl rfl (Nat.le_of_ble_eq_true rfl) (Nat.le_refl _) (Nat.le_refl _) ?_
    repeat (refine mw_step rfl ?_)
    rw [show zb_ownKind (wO m (sp_note 10 t)) = nI o from ho]
    refine mw_call (c_O_A hnb (sp_note 10 t) xx (t1 10) o h7) rfl rfl (Nat.le_of_ble_eq_true rfl) (Nat.le_refl _) (Nat.le_refl _) ?_
    repeat (refine mw_step rfl ?_)
    exact mw_r1 rfl trivial (Nat.le_refl _) (Nat.le_refl _) rfl rfl
  · exact absurd hk2 (by decide)
  · exact absurd hk2 (by decide)
  · repeat (first | refine mw_step rfl ?_ | refine mw_brT rfl (by decide) ?_ | refine mw_brF rfl (by decide) ?_)
    refine mw_call (c_O_begins t 10 (by omega)) rfl rfl (Nat.le_of_ble_eq_true rfl) (Nat.le_refl _) (Nat.le_refl _) ?_
    repeat (refine mw_step rfl ?_)
    rw [show zb_ownKind (wO m (sp_note 10 t)) = nI o from ho]
    refine mw_call (c_O_A hnb (sp_note 10 t) xx (t1 10) o h7) rfl rfl (Nat.le_of_ble_eq_true rfl) (Nat.le_refl _) (Nat.le_refl _) ?_
    repeat (refine mw_step rfl ?_)
    exact mw_r1 rfl trivial (Nat.le_refl _) (Nat.le_refl _) rfl rfl
  · exact absurd hk2 (by decide)
  · repeat (first | refine mw_step rfl ?_ | refine mw_brT rfl (by decide) ?_ | refine mw_brF rfl (by decide) ?_)
    refine mw_call (c_O_begins t 10 (by omega)) rfl rfl (Nat.le_of_ble_eq_true rfl) (Nat.le_refl _) (Nat.le_refl _) ?_
    repeat (refine mw_step rfl ?_)
    rw [show zb_ownKind (wO m (sp_note 10 t)) = nI o from ho]
    refine mw_call (c_O_A hnb (sp_note 10 t) xx (t1 10) o h7) rfl rfl (Nat.le_of_ble_eq_true rfl) (Nat.le_refl _) (Nat.le_refl _) ?_
    repeat (refine mw_step rfl ?_)
    exact mw_r1 rfl trivial (Nat.le_refl _) (Nat.le_refl _) rfl rfl
  · exact absurd hk2 (by decide)
theorem c_O_J2 (hnb : zb_ownNumber m = nb) (ho : zb_ownKind m = nI o) (h7 : o ≤ 7) (t : TR) (xx : Int32) (ht : t.2 < 970) : MC M_O_joinsAs 4 0 0 [.ref 39, .int (nI 2), .int xx] (heapN N sc x (wO m t) tl) (some (.int (rJ2 o nb xx t).1)) (heapN N sc x (wO m (rJ2 o nb xx t).2) tl) := by
  refine mc_of k1_O_joinsAs k2_O_joinsAs (Nat.le_of_ble_eq_true rfl) ?_
  have t1 : ∀ q : Int32, (sp_note q t).2 < 980 := fun q => by show t.2 + 1 < 980; omega
  repeat (first | refine mw_step rfl ?_ | refine mw_brT rfl (by decide) ?_ | refine mw_brF rfl (by decide) ?_)
  refine mw_call (c_O_begins t 30 (by omega)) rfl rfl (Nat.le_of_ble_eq_true rfl) (Nat.le_refl _) (Nat.le_refl _) ?_
  repeat (refine mw_step rfl ?_)
  refine mw_call (c_O_J0 hnb ho h7 (sp_note 30 t) xx (t1 30) 0 (by decide) (by decide)) rfl rfl (Nat.le_of_ble_eq_true rfl) (Nat.le_refl _) (Nat.le_refl _) ?_
  repeat (refine mw_step rfl ?_)
  exact mw_r1 rfl trivial (Nat.le_refl _) (Nat.le_refl _) rfl rfl
theorem c_O_S0 (hnb : zb_ownNumber m = nb) (t : TR) (xx : Int32) (ht : t.2 < 1000) (k : Nat) (hk : k ≤ 7) (hk2 : k = 0 ∨ k = 1 ∨ k = 2 ∨ k = 6) : MC M_O_showsAs 1 0 0 [.ref 39, .int (nI k), .int xx] (heapN N sc x (wO m t) tl) (some (.int (rS0 nb xx t).1)) (heapN N sc x (wO m (rS0 nb xx t).2) tl) := by
  refine mc_of k1_O_showsAs k2_O_showsAs (Nat.le_of_ble_eq_true rfl) ?_
  rcases (show k = 0 ∨ k = 1 ∨ k = 2 ∨ k = 3 ∨ k = 4 ∨ k = 5 ∨ k = 6 ∨ k = 7 by omega) with rfl | rfl | rfl | rfl | rfl | rfl | rfl | rfl
  · repeat (first | refine mw_step rfl ?_ | refine mw_brT rfl (by decide) ?_ | refine mw_brF rfl (by decide) ?_)
    refine mw_call (c_O_begins t 11 (by omega)) rfl rfl (Nat.le_of_ble_eq_true rfl) (Nat.le_refl _) (Nat.le_refl _) ?_
    repeat (refine mw_step rfl ?_)
    rw [show zb_ownNumber (wO m (sp_note 11 t)) = nb from hnb]
    exact mw_r1 rfl trivial (Nat.le_refl _) (Nat.le_refl _) rfl rfl
  · repeat (first | refine mw_step rfl ?_ | refine mw_brT rfl (by decide) ?_ | refine mw_brF rfl (by decide) ?_)
    refine mw_call (c_O_begins t 11 (by omega)) rfl rfl (Nat.le_of_ble_eq_true rfl) (Nat.le_refl _) (Nat.le_refl _) ?_
    repeat (refine mw_step rfl ?_)
    rw [show zb_ownNumber (wO m (sp_note 11 t)) = nb from hnb]
    exact mw_r1 rfl trivial (Nat.le_refl _) (Nat.le_refl _) rfl rfl
  · repeat (first | refine mw_step rfl ?_ | refine mw_brT rfl (by decide) ?_ | refine mw_brF rfl (by decide) ?_)
    refine mw_call (c_O_begins t 11 (by omega)) rfl rfl (Nat.le_of_ble_eq_true rfl) (Nat.le_refl _) (Nat.le_refl _) ?_
    repeat (refine mw_step rfl ?_)
    rw [show zb_ownNumber (wO m (sp_note 11 t)) = nb from hnb]
    exact mw_r1 rfl trivial (Nat.le_refl _) (Nat.le_refl _) rfl rfl
  · exact absurd hk2 (by decide)
  · exact absurd hk2 (by decide)
  · exact absurd hk2 (by decide)
  · repeat (first | refine mw_step rfl ?_ | refine mw_brT rfl (by decide) ?_ | refine mw_brF rfl (by decide) ?_)
    refine mw_call (c_O_begins t 11 (by omega)) rfl rfl (Nat.le_of_ble_eq_true rfl) (Nat.le_refl _) (Nat.le_refl _) ?_
    repeat (refine mw_step rfl ?_)
    rw [show zb_ownNumber (wO m (sp_note 11 t)) = nb from hnb]
    exact mw_r1 rfl trivial (Nat.le_refl _) (Nat.le_refl _) rfl rfl
  · exact absurd hk2 (by decide)
theorem c_O_S (hnb : zb_ownNumber m = nb) (ho : zb_ownKind m = nI o) (h7 : o ≤ 7) (t : TR) (xx : Int32) (ht : t.2 < 980) (k : Nat) (hk : k ≤ 7) : MC M_O_showsAs 3 0 0 [.ref 39, .int (nI k), .int xx] (heapN N sc x (wO m t) tl) (some (.int (rS k o nb xx t).1)) (heapN N sc x (wO m (rS k o nb xx t).2) tl) := by
  refine mc_of k1_O_showsAs k2_O_showsAs (Nat.le_of_ble_eq_true rfl) ?_
  have t1 : ∀ q : Int32, (sp_note q t).2 < 1000 := fun q => by show t.2 + 1 < 1000; omega
  have t3 : (rS0 nb xx (sp_note 50 t)).2.2 < 990 := by show t.2 + 1 + 1 < 990; omega
  rcases (show k = 0 ∨ k = 1 ∨ k = 2 ∨ k = 3 ∨ k = 4 ∨ k = 5 ∨ k = 6 ∨ k = 7 by omega) with rfl | rfl | rfl | rfl | rfl | rfl | rfl | rfl
  · repeat (first | refine mw_step rfl ?_ | refine mw_brT rfl (by decide) ?_ | refine mw_brF rfl (by decide) ?_)
    refine mw_call (c_O_begins t 11 (by omega)) rfl rfl (Nat.le_of_ble_eq_true rfl) (Nat.le_refl _) (Nat.le_refl _) ?_
    repeat (refine mw_step rfl ?_)
    rw [show zb_ownNumber (wO m (sp_note 11 t)) = nb from hnb]
    exact mw_r1 rfl trivial (Nat.le_refl _) (Nat.le_refl _) rfl rfl
  · repeat (first | refine mw_step rfl ?_ | refine mw_brT rfl (by decide) ?_ | refine mw_brF rfl (by decide) ?_)
    refine mw_call (c_O_begins t 11 (by omega)) rfl rfl (Nat.le_of_ble_eq_true rfl) (Nat.le_refl _) (Nat.le_refl _) ?_
    repeat (refine mw_step rfl ?_)
    rw [show zb_ownNumber (wO m (sp_note 11 t)) = nb from hnb]
    exact mw_r1 rfl trivial (Nat.le_refl _) (Nat.le_refl _) rfl rfl
  · repeat (first | refine mw_step rfl ?_ | refine mw_brT rfl (by decide) ?_ | refine mw_brF rfl (by decide) ?_)
    refine mw_call (c_O_begins t 11 (by omega)) rfl rfl (Nat.le_of_ble_eq_true rfl) (Nat.le_refl _) (Nat.le_refl _) ?_
    repeat (refine mw_step rfl ?_)
    rw [show zb_ownNumber (wO m (sp_note 11 t)) = nb from hnb]
    exact mw_r1 rfl trivial (Nat.le_refl _) (Nat.le_refl _) rfl rfl
  · repeat (first | refine mw_step rfl ?_ | refine mw_brT rfl (by decide) ?_ | refine mw_brF rfl (by decide) ?_)
    refine mw_call (c_O_begins t 40 (by omega)) rfl rfl (Nat.le_of_ble_eq_true rfl) (Nat.le_refl _) (Nat.le_refl _) ?_
    repeat (refine mw_step rfl ?_)
    refine mw_call (c_O_S0 hnb (sp_note 40 t) xx (t1 40) 2 (by decide) (by decide)) rfl rfl (Nat.le_of_ble_eq_true rfl) (Nat.le_refl _) (Nat.le_refl _) ?_
    repeat (refine mw_step rfl ?_)
    exact mw_r1 rfl trivial (Nat.le_refl _) (Nat.le_refl _) rfl rfl
  · repeat (first | refine mw_step rfl ?_ | refine mw_brT rfl (by decide) ?_ | refine mw_brF rfl (by decide) ?_)
    refine mw_call (c_O_begins t 50 (by omega)) rfl rfl (Nat.le_of_ble_eq_true rfl) (Nat.le_refl _) (Nat.le_refl _) ?_
    repeat (refine mw_step rfl ?_)
    refine mw_call (c_O_S0 hnb (sp_note 50 t) xx (t1 50) 1 (by decide) (by decide)) rfl rfl (Nat.le_of_ble_eq_true rfl) (Nat.le_refl _) (Nat.le_refl _) ?_
    repeat (refine mw_step rfl ?_)
    rw [show zb_ownKind (wO m (rS0 nb xx (sp_note 50 t)).2) = nI o from ho]
    refine mw_call (c_O_A hnb (rS0 nb xx (sp_note 50 t)).2 2 t3 o h7) rfl rfl (Nat.le_of_ble_eq_true rfl) (Nat.le_refl _) (Nat.le_refl _) ?_
    repeat (refine mw_step rfl ?_)
    exact mw_r1 rfl trivial (Nat.le_refl _) (Nat.le_refl _) rfl rfl
  · repeat (first | refine mw_step rfl ?_ | refine mw_brT rfl (by decide) ?_ | refine mw_brF rfl (by decide) ?_)
    refine mw_call (c_O_begins t 40 (by omega)) rfl rfl (Nat.le_of_ble_eq_true rfl) (Nat.le_refl _) (Nat.le_refl _) ?_
    repeat (refine mw_step rfl ?_)
    refine mw_call (c_O_S0 hnb (sp_note 40 t) xx (t1 40) 2 (by decide) (by decide)) rfl rfl (Nat.le_of_ble_eq_true rfl) (Nat.le_refl _) (Nat.le_refl _) ?_
    repeat (refine mw_step rfl ?_)
    exact mw_r1 rfl trivial (Nat.le_refl _) (Nat.le_refl _) rfl rfl
  · repeat (first | refine mw_step rfl ?_ | refine mw_brT rfl (by decide) ?_ | refine mw_brF rfl (by decide) ?_)
    refine mw_call (c_O_begins t 11 (by omega)) rfl rfl (Nat.le_of_ble_eq_true rfl) (Nat.le_refl _) (Nat.le_refl _) ?_
    repeat (refine mw_step rfl ?_)
    rw [show zb_ownNumber (wO m (sp_note 11 t)) = nb from hnb]
    exact mw_r1 rfl trivial (Nat.le_refl _) (Nat.le_refl _) rfl rfl
  · repeat (first | refine mw_step rfl ?_ | refine mw_brT rfl (by decide) ?_ | refine mw_brF rfl (by decide) ?_)
    refine mw_call (c_O_begins t 50 (by omega)) rfl rfl (Nat.le_of_ble_eq_true rfl) (Nat.le_refl _) (Nat.le_refl _) ?_
    repeat (refine mw_step rfl ?_)
    refine mw_call (c_O_S0 hnb (sp_note 50 t) xx (t1 50) 1 (by decide) (by decide)) rfl rfl (Nat.le_of_ble_eq_true rfl) (Nat.le_refl _) (Nat.le_refl _) ?_
    repeat (refine mw_step rfl ?_)
    rw [show zb_ownKind (wO m (rS0 nb xx (sp_note 50 t)).2) = nI o from ho]
    refine mw_call (c_O_A hnb (rS0 nb xx (sp_note 50 t)).2 2 t3 o h7) rfl rfl (Nat.le_of_ble_eq_true rfl) (Nat.le_refl _) (Nat.le_refl _) ?_
    repeat (refine mw_step rfl ?_)
    exact mw_r1 rfl trivial (Nat.le_refl _) (Nat.le_refl _) rfl rfl
theorem c_O_J (hnb : zb_ownNumber m = nb) (ho : zb_ownKind m = nI o) (h7 : o ≤ 7) (t : TR) (xx : Int32) (ht : t.2 < 960) (k : Nat) (hk : k ≤ 7) : MC M_O_joinsAs 5 0 0 [.ref 39, .int (nI k), .int xx] (heapN N sc x (wO m t) tl) (some (.int (rJ k o nb xx t).1)) (heapN N sc x (wO m (rJ k o nb xx t).2) tl) := by
  refine mc_of k1_O_joinsAs k2_O_joinsAs (Nat.le_of_ble_eq_true rfl) ?_
  have t1 : ∀ q : Int32, (sp_note q t).2 < 970 := fun q => by show t.2 + 1 < 970; omega
  have t4 : (rJ0 o nb xx (sp_note 80 t)).2.2 < 980 := by
    have := rJ0_t o nb xx (sp_note 80 t)
    have e : (sp_note 80 t).2 = t.2 + 1 := rfl
    omega
  rcases (show k = 0 ∨ k = 1 ∨ k = 2 ∨ k = 3 ∨ k = 4 ∨ k = 5 ∨ k = 6 ∨ k = 7 by omega) with rfl | rfl | rfl | rfl | rfl | rfl | rfl | rfl
  · repeat (first | refine mw_step rfl ?_ | refine mw_brT rfl (by decide) ?_ | refine mw_brF rfl (by decide) ?_)
    refine mw_call (c_O_begins t 10 (by omega)) rfl rfl (Nat.le_of_ble_eq_true rfl) (Nat.le_refl _) (Nat.le_refl _) ?_
    repeat (refine mw_step rfl ?_)
    rw [show zb_ownKind (wO m (sp_note 10 t)) = nI o from ho]
    refine mw_call (c_O_A hnb (sp_note 10 t) xx (by have := t1 10; omega) o h7) rfl rfl (Nat.le_of_ble_eq_true rfl) (Nat.le_refl _) (Nat.le_refl _) ?_
    repeat (refine mw_step rfl ?_)
    exact mw_r1 rfl trivial (Nat.le_refl _) (Nat.le_refl _) rfl rfl
  · repeat (first | refine mw_step rfl ?_ | refine mw_brT rfl (by decide) ?_ | refine mw_brF rfl (by decide) ?_)
    refine mw_call (c_O_begins t 10 (by omega)) rfl rfl (Nat.le_of_ble_eq_true rfl) (Nat.le_refl _) (Nat.le_refl _) ?_
    repeat (refine mw_step rfl ?_)
    rw [show zb_ownKind (wO m (sp_note 10 t)) = nI o from ho]
    refine mw_call (c_O_A hnb (sp_note 10 t) xx (by have := t1 10; omega) o h7) rfl rfl (Nat.le_of_ble_eq_true rfl) (Nat.le_refl _) (Nat.le_refl _) ?_
    repeat (refine mw_step rfl ?_)
    exact mw_r1 rfl trivial (Nat.le_refl _) (Nat.le_refl _) rfl rfl
  · repeat (first | refine mw_step rfl ?_ | refine mw_brT rfl (by decide) ?_ | refine mw_brF rfl (by decide) ?_)
    refine mw_call (c_O_begins t 30 (by omega)) rfl rfl (Nat.le_of_ble_eq_true rfl) (Nat.le_refl _) (Nat.le_refl _) ?_
    repeat (refine mw_step rfl ?_)
    refine mw_call (c_O_J0 hnb ho h7 (sp_note 30 t) xx (by have := t1 30; omega) 0 (by decide) (by decide)) rfl rfl (Nat.le_of_ble_eq_true rfl) (Nat.le_refl _) (Nat.le_refl _) ?_
    repeat (refine mw_step rfl ?_)
    exact mw_r1 rfl trivial (Nat.le_refl _) (Nat.le_refl _) rfl rfl
  · repeat (first | refine mw_step rfl ?_ | refine mw_brT rfl (by decide) ?_ | refine mw_brF rfl (by decide) ?_)
    refine mw_call (c_O_begins t 41 (by omega)) rfl rfl (Nat.le_of_ble_eq_true rfl) (Nat.le_refl _) (Nat.le_refl _) ?_
    repeat (refine mw_step rfl ?_)
    refine mw_call (c_O_J2 hnb ho h7 (sp_note 41 t) (xx + 1) (t1 41)) rfl rfl (Nat.le_of_ble_eq_true rfl) (Nat.le_refl _) (Nat.le_refl _) ?_
    exact mw_r1 rfl trivial (Nat.le_refl _) (Nat.le_refl _) rfl rfl
  · repeat (first | refine mw_step rfl ?_ | refine mw_brT rfl (by decide) ?_ | refine mw_brF rfl (by decide) ?_)
    refine mw_call (c_O_begins t 10 (by omega)) rfl rfl (Nat.le_of_ble_eq_true rfl) (Nat.le_refl _) (Nat.le_refl _) ?_
    repeat (refine mw_step rfl ?_)
    rw [show zb_ownKind (wO m (sp_note 10 t)) = nI o from ho]
    refine mw_call (c_O_A hnb (sp_note 10 t) xx (by have := t1 10; omega) o h7) rfl rfl (Nat.le_of_ble_eq_true rfl) (Nat.le_refl _) (Nat.le_refl _) ?_
    repeat (refine mw_step rfl ?_)
    exact mw_r1 rfl trivial (Nat.le_refl _) (Nat.le_refl _) rfl rfl
  · repeat (first | refine mw_step rfl ?_ | refine mw_brT rfl (by decide) ?_ | refine mw_brF rfl (by decide) ?_)
    refine mw_call (c_O_begins t 41 (by omega)) rfl rfl (Nat.le_of_ble_eq_true rfl) (Nat.le_refl _) (Nat.le_refl _) ?_
    repeat (refine mw_step rfl ?_)
    refine mw_call (c_O_J2 hnb ho h7 (sp_note 41 t) (xx + 1) (t1 41)) rfl rfl (Nat.le_of_ble_eq_true rfl) (Nat.le_refl _) (Nat.le_refl _) ?_
    exact mw_r1 rfl trivial (Nat.le_refl _) (Nat.le_refl _) rfl rfl
  · repeat (first | refine mw_step rfl ?_ | refine mw_brT rfl (by decide) ?_ | refine mw_brF rfl (by decide) ?_)
    refine mw_call (c_O_begins t 10 (by omega)) rfl rfl (Nat.le_of_ble_eq_true rfl) (Nat.le_refl _) (Nat.le_refl _) ?_
    repeat (refine mw_step rfl ?_)
    rw [show zb_ownKind (wO m (sp_note 10 t)) = nI o from ho]
    refine mw_call (c_O_A hnb (sp_note 10 t) xx (by have := t1 10; omega) o h7) rfl rfl (Nat.le_of_ble_eq_true rfl) (Nat.le_refl _) (Nat.le_refl _) ?_
    repeat (refine mw_step rfl ?_)
    exact mw_r1 rfl trivial (Nat.le_refl _) (Nat.le_refl _) rfl rfl
  · repeat (first | refine mw_step rfl ?_ | refine mw_brT rfl (by decide) ?_ | refine mw_brF rfl (by decide) ?_)
    refine mw_call (c_O_begins t 80 (by omega)) rfl rfl (Nat.le_of_ble_eq_true rfl) (Nat.le_refl _) (Nat.le_refl _) ?_
    repeat (refine mw_step rfl ?_)
    refine mw_call (c_O_J0 hnb ho h7 (sp_note 80 t) xx (by have := t1 80; omega) 4 (by decide) (by decide)) rfl rfl (Nat.le_of_ble_eq_true rfl) (Nat.le_refl _) (Nat.le_refl _) ?_
    repeat (refine mw_step rfl ?_)
    rw [show zb_ownKind (wO m (rJ0 o nb xx (sp_note 80 t)).2) = nI o from ho]
    refine mw_call (c_O_S hnb ho h7 (rJ0 o nb xx (sp_note 80 t)).2 2 t4 o h7) rfl rfl (Nat.le_of_ble_eq_true rfl) (Nat.le_refl _) (Nat.le_refl _) ?_
    repeat (refine mw_step rfl ?_)
    exact mw_r1 rfl trivial (Nat.le_refl _) (Nat.le_refl _) rfl rfl
theorem c_O_T0 (hnb : zb_ownNumber m = nb) (ho : zb_ownKind m = nI o) (h7 : o ≤ 7) (t : TR) (xx : Int32) (ht : t.2 < 940) (k : Nat) (hk : k ≤ 7) (hk2 : k = 0 ∨ k = 1 ∨ k = 2 ∨ k = 3 ∨ k = 4 ∨ k = 6) : MC M_O_tellsAs 6 0 0 [.ref 39, .int (nI k), .int xx] (heapN N sc x (wO m t) tl) (some (.int (rT0 o nb xx t).1)) (heapN N sc x (wO m (rT0 o nb xx t).2) tl) := by
  refine mc_of k1_O_tellsAs k2_O_tellsAs (Nat.le_of_ble_eq_true rfl) ?_
  have t1 : ∀ q : Int32, (sp_note q t).2 < 960 := fun q => by show t.2 + 1 < 960; omega
  have t4 : (rJ o o nb xx (sp_note 2 t)).2.2 < 980 := by
    have := rJ_t o o nb xx (sp_note 2 t)
    have e : (sp_note 2 t).2 = t.2 + 1 := rfl
    omega
  rcases (show k = 0 ∨ k = 1 ∨ k = 2 ∨ k = 3 ∨ k = 4 ∨ k = 5 ∨ k = 6 ∨ k = 7 by omega) with rfl | rfl | rfl | rfl | rfl | rfl | rfl | rfl
  · repeat (first | refine mw_step rfl ?_ | refine mw_brT rfl (by decide) ?_ | refine mw_brF rfl (by decide) ?_)
    refine mw_call (c_O_begins t 2 (by omega)) rfl rfl (Nat.le_of_ble_eq_true rfl) (Nat.le_refl _) (Nat.le_refl _) ?_
    repeat (refine mw_step rfl ?_)
    rw [show zb_ownKind (wO m (sp_note 2 t)) = nI o from ho]
    refine mw_call (c_O_J hnb ho h7 (sp_note 2 t) xx (t1 2) o h7) rfl rfl (Nat.le_of_ble_eq_true rfl) (Nat.le_refl _) (Nat.le_refl _) ?_
    repeat (refine mw_step rfl ?_)
    rw [show zb_ownKind (wO m (rJ o o nb xx (sp_note 2 t)).2) = nI o from ho]
    refine mw_call (c_O_S hnb ho h7 (rJ o o nb xx (sp_note 2 t)).2 1 t4 o h7) rfl rfl (Nat.le_of_ble_eq_true rfl) (Nat.le_refl _) (Nat.le_refl _) ?_
    repeat (refine mw_step rfl ?_)
    exact mw_r1 rfl trivial (Nat.le_refl _) (Nat.le_refl _) rfl rfl
  · repeat (first | refine mw_step rfl ?_ | refine mw_brT rfl (by decide) ?_ | refine mw_brF rfl (by decide) ?_)
    refine mw_call (c_O_begins t 2 (by omega)) rfl rfl (Nat.le_of_ble_eq_true rfl) (Nat.le_refl _) (Nat.le_refl _) ?_
    repeat (refine mw_step rfl ?_)
    rw [show zb_ownKind (wO m (sp_note 2 t)) = nI o from ho]
    refine mw_call (c_O_J hnb ho h7 (sp_note 2 t) xx (t1 2) o h7) rfl rfl (Nat.le_of_ble_eq_true rfl) (Nat.le_refl _) (Nat.le_refl _) ?_
    repeat (refine mw_step rfl ?_)
    rw [show zb_ownKind (wO m (rJ o o nb xx (sp_note 2 t)).2) = nI o from ho]
    refine mw_call (c_O_S hnb ho h7 (rJ o o nb xx (sp_note 2 t)).2 1 t4 o h7) rfl rfl (Nat.le_of_ble_eq_true rfl) (Nat.le_refl _) (Nat.le_refl _) ?_
    repeat (refine mw_step rfl ?_)
    exact mw_r1 rfl trivial (Nat.le_refl _) (Nat.le_refl _) rfl rfl
  · repeat (first | refine mw_step rfl ?_ | refine mw_brT rfl (by decide) ?_ | refine mw_brF rfl (by decide) ?_)
    refine mw_call (c_O_begins t 2 (by omega)) rfl rfl (Nat.le_of_ble_eq_true rfl) (Nat.le_refl _) (Nat.le_refl _) ?_
    repeat (refine mw_step rfl ?_)
    rw [show zb_ownKind (wO m (sp_note 2 t)) = nI o from ho]
    refine mw_call (c_O_J hnb ho h7 (sp_note 2 t) xx (t1 2) o h7) rfl rfl (Nat.le_of_ble_eq_true rfl) (Nat.le_refl _) (Nat.le_refl _) ?_
    repeat (refine mw_step rfl ?_)
    rw [show zb_ownKind (wO m (rJ o o nb xx (sp_note 2 t)).2) = nI o from ho]
    refine mw_call (c_O_S hnb ho h7 (rJ o o nb xx (sp_note 2 t)).2 1 t4 o h7) rfl rfl (Nat.le_of_ble_eq_true rfl) (Nat.le_refl _) (Nat.le_refl _) ?_
    repeat (refine mw_step rfl ?_)
    exact mw_r1 rfl trivial (Nat.le_refl _) (Nat.le_refl _) rfl rfl
  · repeat (first | refine mw_step rfl ?_ | refine mw_brT rfl (by decide) ?_ | refine mw_brF rfl (by decide) ?_)
    refine mw_call (c_O_begins t 2 (by omega)) rfl rfl (Nat.le_of_ble_eq_true rfl) (Nat.le_refl _) (Nat.le_refl _) ?_
    repeat (refine mw_step rfl ?_)
    rw [show zb_ownKind (wO m (sp_note 2 t)) = nI o from ho]
    refine mw_call (c_O_J hnb ho h7 (sp_note 2 t) xx (t1 2) o h7) rfl rfl (Nat.le_of_ble_eq_true rfl) (Nat.le_refl _) (Nat.le_refl _) ?_
    repeat (refine mw_step rfl ?_)
    rw [show zb_ownKind (wO m (rJ o o nb xx (sp_note 2 t)).2) = nI o from ho]
    refine mw_call (c_O_S hnb ho h7 (rJ o o nb xx (sp_note 2 t)).2 1 t4 o h7) rfl rfl (Nat.le_of_ble_eq_true rfl) (Nat.le_refl _) (Nat.le_refl _) ?_
    repeat (refine mw_step rfl ?_)
    exact mw_r1 rfl trivial (Nat.le_refl _) (Nat.le_refl _) rfl rfl
  · repeat (first | refine mw_step rfl ?_ | refine mw_brT rfl (by decide) ?_ | refine mw_brF rfl (by decide) ?_)
    refine mw_call (c_O_begins t 2 (by omega)) rfl rfl (Nat.le_of_ble_eq_true rfl) (Nat.le_refl _) (Nat.le_refl _) ?_
    repeat (refine mw_step rfl ?_)
    rw [show zb_ownKind (wO m (sp_note 2 t)) = nI o from ho]
    refine mw_call (c_O_J hnb ho h7 (sp_note 2 t) xx (t1 2) o h7) rfl rfl (Nat.le_of_ble_eq_true rfl) (Nat.le_refl _) (Nat.le_refl _) ?_
    repeat (refine mw_step rfl ?_)
    rw [show zb_ownKind (wO m (rJ o o nb xx (sp_note 2 t)).2) = nI o from ho]
    refine mw_call (c_O_S hnb ho h7 (rJ o o nb xx (sp_note 2 t)).2 1 t4 o h7) rfl rfl (Nat.le_of_ble_eq_true rfl) (Nat.le_refl _) (Nat.le_refl _) ?_
    repeat (refine mw_step rfl ?_)
    exact mw_r1 rfl trivial (Nat.le_refl _) (Nat.le_refl _) rfl rfl
  · exact absurd hk2 (by decide)
  · repeat (first | refine mw_step rfl ?_ | refine mw_brT rfl (by decide) ?_ | refine mw_brF rfl (by decide) ?_)
    refine mw_call (c_O_begins t 2 (by omega)) rfl rfl (Nat.le_of_ble_eq_true rfl) (Nat.le_refl _) (Nat.le_refl _) ?_
    repeat (refine mw_step rfl ?_)
    rw [show zb_ownKind (wO m (sp_note 2 t)) = nI o from ho]
    refine mw_call (c_O_J hnb ho h7 (sp_note 2 t) xx (t1 2) o h7) rfl rfl (Nat.le_of_ble_eq_true rfl) (Nat.le_refl _) (Nat.le_refl _) ?_
    repeat (refine mw_step rfl ?_)
    rw [show zb_ownKind (wO m (rJ o o nb xx (sp_note 2 t)).2) = nI o from ho]
    refine mw_call (c_O_S hnb ho h7 (rJ o o nb xx (sp_note 2 t)).2 1 t4 o h7) rfl rfl (Nat.le_of_ble_eq_true rfl) (Nat.le_refl _) (Nat.le_refl _) ?_
    repeat (refine mw_step rfl ?_)
    exact mw_r1 rfl trivial (Nat.le_refl _) (Nat.le_refl _) rfl rfl
  · exact absurd hk2 (by decide)
theorem c_O_T (hnb : zb_ownNumber m = nb) (ho : zb_ownKind m = nI o) (h7 : o ≤ 7) (t : TR) (xx : Int32) (ht : t.2 < 930) (k : Nat) (hk : k ≤ 7) : MC M_O_tellsAs 7 0 0 [.ref 39, .int (nI k), .int xx] (heapN N sc x (wO m t) tl) (some (.int (rT k o nb xx t).1)) (heapN N sc x (wO m (rT k o nb xx t).2) tl) := by
  refine mc_of k1_O_tellsAs k2_O_tellsAs (Nat.le_of_ble_eq_true rfl) ?_
  have t1 : ∀ q : Int32, (sp_note q t).2 < 940 := fun q => by show t.2 + 1 < 940; omega
  have t4 : (rJ o o nb xx (sp_note 2 t)).2.2 < 980 := by
    have := rJ_t o o nb xx (sp_note 2 t)
    have e : (sp_note 2 t).2 = t.2 + 1 := rfl
    omega
  rcases (show k = 0 ∨ k = 1 ∨ k = 2 ∨ k = 3 ∨ k = 4 ∨ k = 5 ∨ k = 6 ∨ k = 7 by omega) with rfl | rfl | rfl | rfl | rfl | rfl | rfl | rfl
  · repeat (first | refine mw_step rfl ?_ | refine mw_brT rfl (by decide) ?_ | refine mw_brF rfl (by decide) ?_)
    refine mw_call (c_O_begins t 2 (by omega)) rfl rfl (Nat.le_of_ble_eq_true rfl) (Nat.le_refl _) (Nat.le_refl _) ?_
    repeat (refine mw_step rfl ?_)
    rw [show zb_ownKind (wO m (sp_note 2 t)) = nI o from ho]
    refine mw_call (c_O_J hnb ho h7 (sp_note 2 t) xx (by have := t1 2; omega) o h7) rfl rfl (Nat.le_of_ble_eq_true rfl) (Nat.le_refl _) (Nat.le_refl _) ?_
    repeat (refine mw_step rfl ?_)
    rw [show zb_ownKind (wO m (rJ o o nb xx (sp_note 2 t)).2) = nI o from ho]
    refine mw_call (c_O_S hnb ho h7 (rJ o o nb xx (sp_note 2 t)).2 1 t4 o h7) rfl rfl (Nat.le_of_ble_eq_true rfl) (Nat.le_refl _) (Nat.le_refl _) ?_
    repeat (refine mw_step rfl ?_)
    exact mw_r1 rfl trivial (Nat.le_refl _) (Nat.le_refl _) rfl rfl
  · repeat (first | refine mw_step rfl ?_ | refine mw_brT rfl (by decide) ?_ | refine mw_brF rfl (by decide) ?_)
    refine mw_call (c_O_begins t 2 (by omega)) rfl rfl (Nat.le_of_ble_eq_true rfl) (Nat.le_refl _) (Nat.le_refl _) ?_
    repeat (refine mw_step rfl ?_)
    rw [show zb_ownKind (wO m (sp_note 2 t)) = nI o from ho]
    refine mw_call (c_O_J hnb ho h7 (sp_note 2 t) xx (by have := t1 2; omega) o h7) rfl rfl (Nat.le_of_ble_eq_true rfl) (Nat.le_refl _) (Nat.le_refl _) ?_
    repeat (refine mw_step rfl ?_)
    rw [show zb_ownKind (wO m (rJ o o nb xx (sp_note 2 t)).2) = nI o from ho]
    refine mw_call (c_O_S hnb ho h7 (rJ o o nb xx (sp_note 2 t)).2 1 t4 o h7) rfl rfl (Nat.le_of_ble_eq_true rfl) (Nat.le_refl _) (Nat.le_refl _) ?_
    repeat (refine mw_step rfl ?_)
    exact mw_r1 rfl trivial (Nat.le_refl _) (Nat.le_refl _) rfl rfl
  · repeat (first | refine mw_step rfl ?_ | refine mw_brT rfl (by decide) ?_ | refine mw_brF rfl (by decide) ?_)
    refine mw_call (c_O_begins t 2 (by omega)) rfl rfl (Nat.le_of_ble_eq_true rfl) (Nat.le_refl _) (Nat.le_refl _) ?_
    repeat (refine mw_step rfl ?_)
    rw [show zb_ownKind (wO m (sp_note 2 t)) = nI o from ho]
    refine mw_call (c_O_J hnb ho h7 (sp_note 2 t) xx (by have := t1 2; omega) o h7) rfl rfl (Nat.le_of_ble_eq_true rfl) (Nat.le_refl _) (Nat.le_refl _) ?_
    repeat (refine mw_step rfl ?_)
    rw [show zb_ownKind (wO m (rJ o o nb xx (sp_note 2 t)).2) = nI o from ho]
    refine mw_call (c_O_S hnb ho h7 (rJ o o nb xx (sp_note 2 t)).2 1 t4 o h7) rfl rfl (Nat.le_of_ble_eq_true rfl) (Nat.le_refl _) (Nat.le_refl _) ?_
    repeat (refine mw_step rfl ?_)
    exact mw_r1 rfl trivial (Nat.le_refl _) (Nat.le_refl _) rfl rfl
  · repeat (first | refine mw_step rfl ?_ | refine mw_brT rfl (by decide) ?_ | refine mw_brF rfl (by decide) ?_)
    refine mw_call (c_O_begins t 2 (by omega)) rfl rfl (Nat.le_of_ble_eq_true rfl) (Nat.le_refl _) (Nat.le_refl _) ?_
    repeat (refine mw_step rfl ?_)
    rw [show zb_ownKind (wO m (sp_note 2 t)) = nI o from ho]
    refine mw_call (c_O_J hnb ho h7 (sp_note 2 t) xx (by have := t1 2; omega) o h7) rfl rfl (Nat.le_of_ble_eq_true rfl) (Nat.le_refl _) (Nat.le_refl _) ?_
    repeat (refine mw_step rfl ?_)
    rw [show zb_ownKind (wO m (rJ o o nb xx (sp_note 2 t)).2) = nI o from ho]
    refine mw_call (c_O_S hnb ho h7 (rJ o o nb xx (sp_note 2 t)).2 1 t4 o h7) rfl rfl (Nat.le_of_ble_eq_true rfl) (Nat.le_refl _) (Nat.le_refl _) ?_
    repeat (refine mw_step rfl ?_)
    exact mw_r1 rfl trivial (Nat.le_refl _) (Nat.le_refl _) rfl rfl
  · repeat (first | refine mw_step rfl ?_ | refine mw_brT rfl (by decide) ?_ | refine mw_brF rfl (by decide) ?_)
    refine mw_call (c_O_begins t 2 (by omega)) rfl rfl (Nat.le_of_ble_eq_true rfl) (Nat.le_refl _) (Nat.le_refl _) ?_
    repeat (refine mw_step rfl ?_)
    rw [show zb_ownKind (wO m (sp_note 2 t)) = nI o from ho]
    refine mw_call (c_O_J hnb ho h7 (sp_note 2 t) xx (by have := t1 2; omega) o h7) rfl rfl (Nat.le_of_ble_eq_true rfl) (Nat.le_refl _) (Nat.le_refl _) ?_
    repeat (refine mw_step rfl ?_)
    rw [show zb_ownKind (wO m (rJ o o nb xx (sp_note 2 t)).2) = nI o from ho]
    refine mw_call (c_O_S hnb ho h7 (rJ o o nb xx (sp_note 2 t)).2 1 t4 o h7) rfl rfl (Nat.le_of_ble_eq_true rfl) (Nat.le_refl _) (Nat.le_refl _) ?_
    repeat (refine mw_step rfl ?_)
    exact mw_r1 rfl trivial (Nat.le_refl _) (Nat.le_refl _) rfl rfl
  · repeat (first | refine mw_step rfl ?_ | refine mw_brT rfl (by decide) ?_ | refine mw_brF rfl (by decide) ?_)
    refine mw_call (c_O_begins t 60 (by omega)) rfl rfl (Nat.le_of_ble_eq_true rfl) (Nat.le_refl _) (Nat.le_refl _) ?_
    repeat (refine mw_step rfl ?_)
    refine mw_call (c_O_T0 hnb ho h7 (sp_note 60 t) xx (t1 60) 3 (by decide) (by decide)) rfl rfl (Nat.le_of_ble_eq_true rfl) (Nat.le_refl _) (Nat.le_refl _) ?_
    repeat (refine mw_step rfl ?_)
    exact mw_r1 rfl trivial (Nat.le_refl _) (Nat.le_refl _) rfl rfl
  · repeat (first | refine mw_step rfl ?_ | refine mw_brT rfl (by decide) ?_ | refine mw_brF rfl (by decide) ?_)
    refine mw_call (c_O_begins t 2 (by omega)) rfl rfl (Nat.le_of_ble_eq_true rfl) (Nat.le_refl _) (Nat.le_refl _) ?_
    repeat (refine mw_step rfl ?_)
    rw [show zb_ownKind (wO m (sp_note 2 t)) = nI o from ho]
    refine mw_call (c_O_J hnb ho h7 (sp_note 2 t) xx (by have := t1 2; omega) o h7) rfl rfl (Nat.le_of_ble_eq_true rfl) (Nat.le_refl _) (Nat.le_refl _) ?_
    repeat (refine mw_step rfl ?_)
    rw [show zb_ownKind (wO m (rJ o o nb xx (sp_note 2 t)).2) = nI o from ho]
    refine mw_call (c_O_S hnb ho h7 (rJ o o nb xx (sp_note 2 t)).2 1 t4 o h7) rfl rfl (Nat.le_of_ble_eq_true rfl) (Nat.le_refl _) (Nat.le_refl _) ?_
    repeat (refine mw_step rfl ?_)
    exact mw_r1 rfl trivial (Nat.le_refl _) (Nat.le_refl _) rfl rfl
  · repeat (first | refine mw_step rfl ?_ | refine mw_brT rfl (by decide) ?_ | refine mw_brF rfl (by decide) ?_)
    refine mw_call (c_O_begins t 81 (by omega)) rfl rfl (Nat.le_of_ble_eq_true rfl) (Nat.le_refl _) (Nat.le_refl _) ?_
    repeat (refine mw_step rfl ?_)
    refine mw_call (c_O_T0 hnb ho h7 (sp_note 81 t) xx (t1 81) 4 (by decide) (by decide)) rfl rfl (Nat.le_of_ble_eq_true rfl) (Nat.le_refl _) (Nat.le_refl _) ?_
    repeat (refine mw_step rfl ?_)
    exact mw_r1 rfl trivial (Nat.le_refl _) (Nat.le_refl _) rfl rfl
theorem c_O_act {n b : Nat} (hn : zb_bodies m = nI n) (h50 : n ≤ 50) (hb : b < n) (hk : zb_kind m b = nI o) (h7 : o ≤ 7) (a : Nat) (ha : a ≤ 3) (xx : Int32) : MC M_O_act 8 0 0 [.ref 39, .int (nI b), .int (nI a), .int xx] (heapN N sc x m tl) (some (.int (sp_act a o (nI b) xx (zb_trace m, 0)).1)) (heapN N sc x (zb_s m (zb_bodies m, zb_kind m, (sp_act a o (nI b) xx (zb_trace m, 0)).2.1, nI (sp_act a o (nI b) xx (zb_trace m, 0)).2.2, nI o, nI b)) tl) := by
  refine mc_of k1_O_act k2_O_act (Nat.le_of_ble_eq_true rfl) ?_
  repeat (refine mw_step rfl ?_)
  refine mw_call (c_O_isBody (m := zb_ran_s m 0) (nI b)) rfl rfl (Nat.le_of_ble_eq_true rfl) (Nat.le_refl _) (Nat.le_refl _) ?_
  refine mw_brF rfl (bI_ne (by show 0 ≤ nI b ∧ nI b ≤ zb_bodies m - 1; rw [hn]; exact n_predI hb (by omega))) ?_
  repeat (refine mw_step rfl ?_)
  refine mw_ild rfl (rfl) (by omega) (by decide) ?_
  rw [show zb_kind (zb_ran_s m 0) b = nI o from hk]
  repeat (refine mw_step rfl ?_)
  rcases (show a = 0 ∨ a = 1 ∨ a = 2 ∨ a = 3 by omega) with rfl | rfl | rfl | rfl
  · refine mw_sw (t := 60) rfl ?_
    repeat (refine mw_step rfl ?_)
    refine mw_call (c_O_A (m := zb_s m (zb_bodies m, zb_kind m, zb_trace m, 0, nI o, nI b)) (nb := nI b) rfl (zb_trace m, 0) xx (by show 0 < 990; omega) o h7) rfl rfl (Nat.le_of_ble_eq_true rfl) (Nat.le_refl _) (Nat.le_refl _) ?_
    exact mw_r1 rfl trivial (Nat.le_refl _) (Nat.le_refl _) rfl rfl
  · refine mw_sw (t := 70) rfl ?_
    repeat (refine mw_step rfl ?_)
    refine mw_call (c_O_J (m := zb_s m (zb_bodies m, zb_kind m, zb_trace m, 0, nI o, nI b)) (nb := nI b) rfl rfl h7 (zb_trace m, 0) xx (by show 0 < 960; omega) o h7) rfl rfl (Nat.le_of_ble_eq_true rfl) (Nat.le_refl _) (Nat.le_refl _) ?_
    exact mw_r1 rfl trivial (Nat.le_refl _) (Nat.le_refl _) rfl rfl
  · refine mw_sw (t := 80) rfl ?_
    repeat (refine mw_step rfl ?_)
    refine mw_call (c_O_S (m := zb_s m (zb_bodies m, zb_kind m, zb_trace m, 0, nI o, nI b)) (nb := nI b) rfl rfl h7 (zb_trace m, 0) xx (by show 0 < 980; omega) o h7) rfl rfl (Nat.le_of_ble_eq_true rfl) (Nat.le_refl _) (Nat.le_refl _) ?_
    exact mw_r1 rfl trivial (Nat.le_refl _) (Nat.le_refl _) rfl rfl
  · refine mw_sw (t := 90) rfl ?_
    repeat (refine mw_step rfl ?_)
    refine mw_call (c_O_T (m := zb_s m (zb_bodies m, zb_kind m, zb_trace m, 0, nI o, nI b)) (nb := nI b) rfl rfl h7 (zb_trace m, 0) xx (by show 0 < 930; omega) o h7) rfl rfl (Nat.le_of_ble_eq_true rfl) (Nat.le_refl _) (Nat.le_refl _) ?_
    exact mw_r1 rfl trivial (Nat.le_refl _) (Nat.le_refl _) rfl rfl
end AE
