/-! the beginning: both objects new -/
def xI : XS := ((tInit, fun _ => 0, fun _ => 0, fun _ => 0, 0, 0), (fun _ => 0, fun _ => 0, fun _ => 0), (fun _ => 0, 0, fun _ => 0, 0, 0, -1), (fun _ => 0, fun _ => 0, fun _ => 0, fun _ => 0), (fun _ => 0, fun _ => 0, fun _ => 0, 0), (fun _ => 0, 0, fun _ => 0, 0), (hInit, fun _ => 0, fun _ => 0, fun _ => 0), (fun _ => 0, fun _ => 0, fun _ => 0, 0, 0))
def mI : OS := ((fillN 1 (may2 6) 6, fun _ => 0, fun _ => 0, fun _ => 0, 0, 0), (0, fun _ => 0, fun _ => 0, fun _ => 0), (fun _ => 0, 0, fun _ => 0, fillN (-1) (fun _ => 0) 6, 0, 0, 0, 0, 0, fun _ => 0), (fun _ => 0, fun _ => 0, fun _ => 0, fun _ => 0, 0), (fun _ => 0, fun _ => 0), (0, fun _ => 0, fun _ => 0, fun _ => 0), (fun _ => 0, 0, 0), (0, fun _ => 0, fun _ => 0, 0, 0, 0), (fillN (-1) (fun _ => 0) 6, fun _ => 0, fun _ => 0, fun _ => 0))
theorem tI_lt : ∀ j, j < 24 → tInit j = fillN 1 (may2 6) 6 j := by decide +kernel
theorem tI_eq : tInit = fillN 1 (may2 6) 6 := by
  funext j
  by_cases h : j < 24
  · exact tI_lt j h
  · have e1 : fillN 1 (may2 6) 6 j = 0 := by
      unfold fillN may2
      rw [if_neg (by omega), if_neg (by omega), if_neg (by omega)]
    rw [e1]
    unfold tInit
    rw [upd_ne (by omega), upd_ne (by omega), upd_ne (by omega), upd_ne (by omega), upd_ne (by omega), upd_ne (by omega), upd_ne (by omega), upd_ne (by omega), upd_ne (by omega), upd_ne (by omega), upd_ne (by omega), upd_ne (by omega), upd_ne (by omega), upd_ne (by omega), upd_ne (by omega), upd_ne (by omega), upd_ne (by omega), upd_ne (by omega), upd_ne (by omega), upd_ne (by omega), upd_ne (by omega), upd_ne (by omega), upd_ne (by omega), upd_ne (by omega)]
theorem tI_ok : ∀ c, c < 24 → (k_least (c / 6) ≤ tInit c ∧ tInit c ≤ k_most (c / 6)) := by decide +kernel
theorem hI_ok : ∀ a, a < 6 → (hInit a = -2 ∧ fillN (-1) (fun _ => 0) 6 a = -1) := by decide +kernel
theorem Inv_I : Inv xI mI [] := by
  refine ⟨⟨?_, 0, 0, rfl, rfl, Nat.le_refl _, by omega, tI_ok, fun i hi => absurd hi (by omega)⟩, ⟨rfl, by decide, fun i p hp => ?_⟩, ⟨fun _ => none, fun a ha => rfl, fun a ha => Or.inl ⟨rfl, (hI_ok a ha).2⟩, fun i p hp => ?_⟩, ⟨rfl, rfl, 0, by omega, rfl, fun j hj => absurd hj (by omega)⟩, ⟨rfl, rfl, rfl, rfl, 0, by omega, rfl, fun j hj => absurd hj (by omega)⟩, ⟨rfl, rfl, rfl, rfl, 0, 0, by omega, rfl, by omega, rfl, fun j hj => absurd hj (by omega)⟩, ⟨rfl, rfl, 0, rfl, by omega, fun a ha => ⟨Or.inl (hI_ok a (by omega)), 0, by omega, rfl⟩⟩, rfl, Or.inl rfl⟩
  · show (tInit, _) = (fillN 1 (may2 6) 6, _)
    rw [tI_eq]
    rfl
  · rw [List.getElem?_nil] at hp
    cases hp
  · rw [List.getElem?_nil] at hp
    cases hp
theorem k_pcs_0 : k_pcs 0 = fun _ => none := funext fun j => if_neg (by omega)
set_option maxRecDepth 100000 in
theorem law_walk (sc : Nat × (Nat → Int32)) (h3 : sc.1 ≤ 384) : ∃ hT, MW M_W_law 100 600000 7302249 (some (.int 1)) hT 0 0 0 [(0, .ref 4)] [] [.inl (.int, 4, .inl k_least), .inl (.int, 4, .inl k_most), .inl (.int, 8, .inl k_above), .inl (.int, 32, .inl k_own), .inl (.int, sc.1, .inl sc.2)] := by
  obtain ⟨hT, K⟩ := w_loop h3 64 0 0 xI mI [] (by omega) (by omega) rfl Inv_I 72 6058 (by omega) (by omega)
  have K : MW M_W_law 100 600000 7302249 (some (.int 1)) hT 72 6058 18 [(0, .ref 4), (1, .ref 5), (2, .ref 39), (3, .int (nI 0))] [] (heapN 0 sc xI mI []) := K
  unfold heapN at K
  rw [k_pcs_0] at K
  refine ⟨hT, ?_⟩
  refine mw_new rfl (Nat.le_of_ble_eq_true rfl) (Nat.le_of_ble_eq_true rfl) ?_
  refine mw_step rfl ?_
  refine mw_call (c_C_init _ _ _ _ _) rfl rfl (Nat.le_of_ble_eq_true rfl) (Nat.le_of_ble_eq_true rfl) (Nat.le_of_ble_eq_true rfl) ?_
  refine mw_step rfl ?_
  refine mw_new rfl (Nat.le_of_ble_eq_true rfl) (Nat.le_of_ble_eq_true rfl) ?_
  refine mw_step rfl ?_
  refine mw_call (c_O_init _ _ _ _ _ _ _ _ _ _ _ _ _ _ _ _ _ _ _ _ _ _ _ _ _ _ _ _ _ _ _ _ _ _ _ _ _ _ _) rfl rfl (Nat.le_of_ble_eq_true rfl) (Nat.le_of_ble_eq_true rfl) (Nat.le_of_ble_eq_true rfl) ?_
  refine mw_step rfl ?_
  refine mw_step rfl ?_
  refine mw_step rfl ?_
  refine mw_pick [0, 1, 2, 3] rfl ?_
  exact K
