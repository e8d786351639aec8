/-! the law's loop: one call after the other -/
section LW
variable {sc : Nat × (Nat → Int32)} {x : XS} {m : OS} {P : List PieceS} {i t cells slots : Nat}
theorem ix1 (i : Nat) : nI i + 1 = nI (i + 1) := nI_add i 1
theorem ix2 (i : Nat) : nI i + 2 = nI (i + 2) := nI_add i 2
theorem ix3 (i : Nat) : nI i + 3 = nI (i + 3) := nI_add i 3
theorem ix4 (i : Nat) : nI i + 4 = nI (i + 4) := nI_add i 4
theorem ix5 (i : Nat) : nI i + 5 = nI (i + 5) := nI_add i 5
theorem ix6 (i : Nat) : nI i + 6 = nI (i + 6) := nI_add i 6
theorem lcmp0 (r : Int64) : lg_cmp r r = 0 := by
  unfold lg_cmp
  simp
def WL (sc : Nat × (Nat → Int32)) (i t pc : Nat) (x : XS) (m : OS) (P : List PieceS) : Prop := ∀ cells slots, cells ≤ 100 + 16 * t → slots ≤ 6500 + 8688 * t → ∃ hT, MW M_W_law 100 600000 7302249 (some (.int 1)) hT cells slots pc [(0, .ref 4), (1, .ref 5), (2, .ref 39), (3, .int (nI i))] [] (heap sc x m P)
set_option maxRecDepth 100000 in
theorem w_part (h3 : sc.1 ≤ 384) (hi : i + 6 ≤ sc.1) (ht : t ≤ 64) (h : Inv x m P) (K : ∀ x m P, Inv x m P → WL sc (i + 6) (t + 1) 18 x m P) : WL sc i t 204 x m P := by
  intro cells slots hc hs
  obtain ⟨r, x', m', P', C, D, hI⟩ := op_part (sc := sc) h (sc.2 (i + 1))
  obtain ⟨hT, K⟩ := K x' m' P' hI (cells + 2 + 0) (slots + 1086 + 0) (by omega) (by omega)
  refine ⟨hT, ?_⟩
  repeat (refine mw_step rfl ?_)
  refine mw_ild rfl (ix1 i) (by omega) (by omega) ?_
  repeat (refine mw_step rfl ?_)
  refine mw_call C rfl rfl (Nat.le_of_ble_eq_true rfl) (by omega) (by omega) ?_
  repeat (refine mw_step rfl ?_)
  refine mw_ild rfl (ix1 i) (by omega) (by omega) ?_
  repeat (refine mw_step rfl ?_)
  refine mw_call D rfl rfl (Nat.le_of_ble_eq_true rfl) (by omega) (by omega) ?_
  refine mw_brT rfl rfl ?_
  refine mw_step rfl ?_
  refine mw_step rfl ?_
  rw [ix6]
  refine mw_pick [0, 1, 2, 3] rfl ?_
  exact K
set_option maxRecDepth 100000 in
theorem w_parts (h3 : sc.1 ≤ 384) (hi : i + 6 ≤ sc.1) (ht : t ≤ 64) (h : Inv x m P) (K : ∀ x m P, Inv x m P → WL sc (i + 6) (t + 1) 18 x m P) : WL sc i t 227 x m P := by
  intro cells slots hc hs
  obtain ⟨r, x', m', P', C, D, hI⟩ := op_parts (sc := sc) h (sc.2 (i + 1)) (sc.2 (i + 2)) (sc.2 (i + 3))
  obtain ⟨hT, K⟩ := K x' m' P' hI (cells + 16 + 0) (slots + 8688 + 0) (by omega) (by omega)
  refine ⟨hT, ?_⟩
  repeat (refine mw_step rfl ?_)
  refine mw_ild rfl (ix1 i) (by omega) (by omega) ?_
  repeat (refine mw_step rfl ?_)
  refine mw_ild rfl (ix2 i) (by omega) (by omega) ?_
  repeat (refine mw_step rfl ?_)
  refine mw_ild rfl (ix3 i) (by omega) (by omega) ?_
  repeat (refine mw_step rfl ?_)
  refine mw_call C rfl rfl (Nat.le_of_ble_eq_true rfl) (by omega) (by omega) ?_
  repeat (refine mw_step rfl ?_)
  refine mw_ild rfl (ix1 i) (by omega) (by omega) ?_
  repeat (refine mw_step rfl ?_)
  refine mw_ild rfl (ix2 i) (by omega) (by omega) ?_
  repeat (refine mw_step rfl ?_)
  refine mw_ild rfl (ix3 i) (by omega) (by omega) ?_
  repeat (refine mw_step rfl ?_)
  refine mw_call D rfl rfl (Nat.le_of_ble_eq_true rfl) (by omega) (by omega) ?_
  refine mw_brT rfl rfl ?_
  refine mw_step rfl ?_
  refine mw_step rfl ?_
  rw [ix6]
  refine mw_pick [0, 1, 2, 3] rfl ?_
  exact K
set_option maxRecDepth 100000 in
theorem w_mend (h3 : sc.1 ≤ 384) (hi : i + 6 ≤ sc.1) (ht : t ≤ 64) (h : Inv x m P) (K : ∀ x m P, Inv x m P → WL sc (i + 6) (t + 1) 18 x m P) : WL sc i t 270 x m P := by
  intro cells slots hc hs
  obtain ⟨r, x', m', P', C, D, hI⟩ := op_mend (sc := sc) h (sc.2 (i + 1)) (sc.2 (i + 2)) (sc.2 (i + 3))
  obtain ⟨hT, K⟩ := K x' m' P' hI (cells + 0 + 0) (slots + 0 + 0) (by omega) (by omega)
  refine ⟨hT, ?_⟩
  repeat (refine mw_step rfl ?_)
  refine mw_ild rfl (ix1 i) (by omega) (by omega) ?_
  repeat (refine mw_step rfl ?_)
  refine mw_ild rfl (ix2 i) (by omega) (by omega) ?_
  repeat (refine mw_step rfl ?_)
  refine mw_ild rfl (ix3 i) (by omega) (by omega) ?_
  repeat (refine mw_step rfl ?_)
  refine mw_call C rfl rfl (Nat.le_of_ble_eq_true rfl) (by omega) (by omega) ?_
  repeat (refine mw_step rfl ?_)
  refine mw_ild rfl (ix1 i) (by omega) (by omega) ?_
  repeat (refine mw_step rfl ?_)
  refine mw_ild rfl (ix2 i) (by omega) (by omega) ?_
  repeat (refine mw_step rfl ?_)
  refine mw_ild rfl (ix3 i) (by omega) (by omega) ?_
  repeat (refine mw_step rfl ?_)
  refine mw_call D rfl rfl (Nat.le_of_ble_eq_true rfl) (by omega) (by omega) ?_
  refine mw_brT rfl rfl ?_
  refine mw_step rfl ?_
  refine mw_step rfl ?_
  rw [ix6]
  refine mw_pick [0, 1, 2, 3] rfl ?_
  exact K
set_option maxRecDepth 100000 in
theorem w_find (h3 : sc.1 ≤ 384) (hi : i + 6 ≤ sc.1) (ht : t ≤ 64) (h : Inv x m P) (K : ∀ x m P, Inv x m P → WL sc (i + 6) (t + 1) 18 x m P) : WL sc i t 313 x m P := by
  intro cells slots hc hs
  obtain ⟨r, x', m', P', C, D, hI⟩ := op_find (sc := sc) h (sc.2 (i + 1)) (sc.2 (i + 2))
  obtain ⟨hT, K⟩ := K x' m' P' hI (cells + 0 + 0) (slots + 0 + 0) (by omega) (by omega)
  refine ⟨hT, ?_⟩
  repeat (refine mw_step rfl ?_)
  refine mw_ild rfl (ix1 i) (by omega) (by omega) ?_
  repeat (refine mw_step rfl ?_)
  refine mw_ild rfl (ix2 i) (by omega) (by omega) ?_
  repeat (refine mw_step rfl ?_)
  refine mw_call C rfl rfl (Nat.le_of_ble_eq_true rfl) (by omega) (by omega) ?_
  repeat (refine mw_step rfl ?_)
  refine mw_ild rfl (ix1 i) (by omega) (by omega) ?_
  repeat (refine mw_step rfl ?_)
  refine mw_ild rfl (ix2 i) (by omega) (by omega) ?_
  repeat (refine mw_step rfl ?_)
  refine mw_call D rfl rfl (Nat.le_of_ble_eq_true rfl) (by omega) (by omega) ?_
  refine mw_brT rfl rfl ?_
  refine mw_step rfl ?_
  refine mw_step rfl ?_
  rw [ix6]
  refine mw_pick [0, 1, 2, 3] rfl ?_
  exact K
set_option maxRecDepth 100000 in
theorem w_of (h3 : sc.1 ≤ 384) (hi : i + 6 ≤ sc.1) (ht : t ≤ 64) (h : Inv x m P) (K : ∀ x m P, Inv x m P → WL sc (i + 6) (t + 1) 18 x m P) : WL sc i t 346 x m P := by
  intro cells slots hc hs
  obtain ⟨r, x', m', P', C, D, hI⟩ := op_of (sc := sc) h (sc.2 (i + 1)) (sc.2 (i + 2))
  obtain ⟨hT, K⟩ := K x' m' P' hI (cells + 0 + 0) (slots + 0 + 0) (by omega) (by omega)
  refine ⟨hT, ?_⟩
  repeat (refine mw_step rfl ?_)
  refine mw_ild rfl (ix1 i) (by omega) (by omega) ?_
  repeat (refine mw_step rfl ?_)
  refine mw_ild rfl (ix2 i) (by omega) (by omega) ?_
  repeat (refine mw_step rfl ?_)
  refine mw_call C rfl rfl (Nat.le_of_ble_eq_true rfl) (by omega) (by omega) ?_
  repeat (refine mw_step rfl ?_)
  refine mw_ild rfl (ix1 i) (by omega) (by omega) ?_
  repeat (refine mw_step rfl ?_)
  refine mw_ild rfl (ix2 i) (by omega) (by omega) ?_
  repeat (refine mw_step rfl ?_)
  refine mw_call D rfl rfl (Nat.le_of_ble_eq_true rfl) (by omega) (by omega) ?_
  refine mw_brT rfl rfl ?_
  refine mw_step rfl ?_
  refine mw_step rfl ?_
  rw [ix6]
  refine mw_pick [0, 1, 2, 3] rfl ?_
  exact K
set_option maxRecDepth 100000 in
theorem w_feed (h3 : sc.1 ≤ 384) (hi : i + 6 ≤ sc.1) (ht : t ≤ 64) (h : Inv x m P) (K : ∀ x m P, Inv x m P → WL sc (i + 6) (t + 1) 18 x m P) : WL sc i t 379 x m P := by
  intro cells slots hc hs
  obtain ⟨r, x', m', P', C, D, hI⟩ := op_feed (sc := sc) h (sc.2 (i + 1))
  obtain ⟨hT, K⟩ := K x' m' P' hI (cells + 0 + 0) (slots + 0 + 0) (by omega) (by omega)
  refine ⟨hT, ?_⟩
  repeat (refine mw_step rfl ?_)
  refine mw_ild rfl (ix1 i) (by omega) (by omega) ?_
  repeat (refine mw_step rfl ?_)
  refine mw_call C rfl rfl (Nat.le_of_ble_eq_true rfl) (by omega) (by omega) ?_
  repeat (refine mw_step rfl ?_)
  refine mw_ild rfl (ix1 i) (by omega) (by omega) ?_
  repeat (refine mw_step rfl ?_)
  refine mw_call D rfl rfl (Nat.le_of_ble_eq_true rfl) (by omega) (by omega) ?_
  refine mw_brT rfl rfl ?_
  refine mw_step rfl ?_
  refine mw_step rfl ?_
  rw [ix6]
  refine mw_pick [0, 1, 2, 3] rfl ?_
  exact K
set_option maxRecDepth 100000 in
theorem w_law (h3 : sc.1 ≤ 384) (hi : i + 6 ≤ sc.1) (ht : t ≤ 64) (h : Inv x m P) (K : ∀ x m P, Inv x m P → WL sc (i + 6) (t + 1) 18 x m P) : WL sc i t 402 x m P := by
  intro cells slots hc hs
  obtain ⟨r, x', m', P', C, D, hI⟩ := op_law (sc := sc) h (sc.2 (i + 1))
  obtain ⟨hT, K⟩ := K x' m' P' hI (cells + 0 + 0) (slots + 0 + 0) (by omega) (by omega)
  refine ⟨hT, ?_⟩
  repeat (refine mw_step rfl ?_)
  refine mw_ild rfl (ix1 i) (by omega) (by omega) ?_
  repeat (refine mw_step rfl ?_)
  refine mw_call C rfl rfl (Nat.le_of_ble_eq_true rfl) (by omega) (by omega) ?_
  repeat (refine mw_step rfl ?_)
  refine mw_ild rfl (ix1 i) (by omega) (by omega) ?_
  repeat (refine mw_step rfl ?_)
  refine mw_call D rfl rfl (Nat.le_of_ble_eq_true rfl) (by omega) (by omega) ?_
  refine mw_brT rfl rfl ?_
  refine mw_step rfl ?_
  refine mw_step rfl ?_
  rw [ix6]
  refine mw_pick [0, 1, 2, 3] rfl ?_
  exact K
set_option maxRecDepth 100000 in
theorem w_number (h3 : sc.1 ≤ 384) (hi : i + 6 ≤ sc.1) (ht : t ≤ 64) (h : Inv x m P) (K : ∀ x m P, Inv x m P → WL sc (i + 6) (t + 1) 18 x m P) : WL sc i t 425 x m P := by
  intro cells slots hc hs
  obtain ⟨r, x', m', P', C, D, hI⟩ := op_number (sc := sc) h (sc.2 (i + 1)) (sc.2 (i + 2))
  obtain ⟨hT, K⟩ := K x' m' P' hI (cells + 0 + 0) (slots + 0 + 0) (by omega) (by omega)
  refine ⟨hT, ?_⟩
  repeat (refine mw_step rfl ?_)
  refine mw_ild rfl (ix1 i) (by omega) (by omega) ?_
  repeat (refine mw_step rfl ?_)
  refine mw_ild rfl (ix2 i) (by omega) (by omega) ?_
  repeat (refine mw_step rfl ?_)
  refine mw_call C rfl rfl (Nat.le_of_ble_eq_true rfl) (by omega) (by omega) ?_
  repeat (refine mw_step rfl ?_)
  refine mw_ild rfl (ix1 i) (by omega) (by omega) ?_
  repeat (refine mw_step rfl ?_)
  refine mw_ild rfl (ix2 i) (by omega) (by omega) ?_
  repeat (refine mw_step rfl ?_)
  refine mw_call D rfl rfl (Nat.le_of_ble_eq_true rfl) (by omega) (by omega) ?_
  refine mw_brT rfl rfl ?_
  refine mw_step rfl ?_
  refine mw_step rfl ?_
  rw [ix6]
  refine mw_pick [0, 1, 2, 3] rfl ?_
  exact K
set_option maxRecDepth 100000 in
theorem w_likely (h3 : sc.1 ≤ 384) (hi : i + 6 ≤ sc.1) (ht : t ≤ 64) (h : Inv x m P) (K : ∀ x m P, Inv x m P → WL sc (i + 6) (t + 1) 18 x m P) : WL sc i t 458 x m P := by
  intro cells slots hc hs
  obtain ⟨r, x', m', P', C, D, hI⟩ := op_likely (sc := sc) h (sc.2 (i + 1)) (sc.2 (i + 2))
  obtain ⟨hT, K⟩ := K x' m' P' hI (cells + 0 + 0) (slots + 0 + 0) (by omega) (by omega)
  refine ⟨hT, ?_⟩
  repeat (refine mw_step rfl ?_)
  refine mw_ild rfl (ix1 i) (by omega) (by omega) ?_
  repeat (refine mw_step rfl ?_)
  refine mw_ild rfl (ix2 i) (by omega) (by omega) ?_
  repeat (refine mw_step rfl ?_)
  refine mw_call C rfl rfl (Nat.le_of_ble_eq_true rfl) (by omega) (by omega) ?_
  repeat (refine mw_step rfl ?_)
  refine mw_ild rfl (ix1 i) (by omega) (by omega) ?_
  repeat (refine mw_step rfl ?_)
  refine mw_ild rfl (ix2 i) (by omega) (by omega) ?_
  repeat (refine mw_step rfl ?_)
  refine mw_call D rfl rfl (Nat.le_of_ble_eq_true rfl) (by omega) (by omega) ?_
  repeat (refine mw_step rfl ?_)
  refine mw_brT rfl (lcmp0 r) ?_
  refine mw_step rfl ?_
  refine mw_step rfl ?_
  rw [ix6]
  refine mw_pick [0, 1, 2, 3] rfl ?_
  exact K
set_option maxRecDepth 100000 in
theorem w_percent (h3 : sc.1 ≤ 384) (hi : i + 6 ≤ sc.1) (ht : t ≤ 64) (h : Inv x m P) (K : ∀ x m P, Inv x m P → WL sc (i + 6) (t + 1) 18 x m P) : WL sc i t 492 x m P := by
  intro cells slots hc hs
  obtain ⟨r, x', m', P', C, D, hI⟩ := op_percent (sc := sc) h (sc.2 (i + 1))
  obtain ⟨hT, K⟩ := K x' m' P' hI (cells + 0 + 0) (slots + 0 + 0) (by omega) (by omega)
  refine ⟨hT, ?_⟩
  repeat (refine mw_step rfl ?_)
  refine mw_ild rfl (ix1 i) (by omega) (by omega) ?_
  repeat (refine mw_step rfl ?_)
  refine mw_call C rfl rfl (Nat.le_of_ble_eq_true rfl) (by omega) (by omega) ?_
  repeat (refine mw_step rfl ?_)
  refine mw_ild rfl (ix1 i) (by omega) (by omega) ?_
  repeat (refine mw_step rfl ?_)
  refine mw_call D rfl rfl (Nat.le_of_ble_eq_true rfl) (by omega) (by omega) ?_
  refine mw_brT rfl rfl ?_
  refine mw_step rfl ?_
  refine mw_step rfl ?_
  rw [ix6]
  refine mw_pick [0, 1, 2, 3] rfl ?_
  exact K
set_option maxRecDepth 100000 in
theorem w_likeliest (h3 : sc.1 ≤ 384) (hi : i + 6 ≤ sc.1) (ht : t ≤ 64) (h : Inv x m P) (K : ∀ x m P, Inv x m P → WL sc (i + 6) (t + 1) 18 x m P) : WL sc i t 515 x m P := by
  intro cells slots hc hs
  obtain ⟨r, x', m', P', C, D, hI⟩ := op_likeliest (sc := sc) h (sc.2 (i + 1))
  obtain ⟨hT, K⟩ := K x' m' P' hI (cells + 0 + 0) (slots + 0 + 0) (by omega) (by omega)
  refine ⟨hT, ?_⟩
  repeat (refine mw_step rfl ?_)
  refine mw_ild rfl (ix1 i) (by omega) (by omega) ?_
  repeat (refine mw_step rfl ?_)
  refine mw_call C rfl rfl (Nat.le_of_ble_eq_true rfl) (by omega) (by omega) ?_
  repeat (refine mw_step rfl ?_)
  refine mw_ild rfl (ix1 i) (by omega) (by omega) ?_
  repeat (refine mw_step rfl ?_)
  refine mw_call D rfl rfl (Nat.le_of_ble_eq_true rfl) (by omega) (by omega) ?_
  refine mw_brT rfl rfl ?_
  refine mw_step rfl ?_
  refine mw_step rfl ?_
  rw [ix6]
  refine mw_pick [0, 1, 2, 3] rfl ?_
  exact K
set_option maxRecDepth 100000 in
theorem w_when (h3 : sc.1 ≤ 384) (hi : i + 6 ≤ sc.1) (ht : t ≤ 64) (h : Inv x m P) (K : ∀ x m P, Inv x m P → WL sc (i + 6) (t + 1) 18 x m P) : WL sc i t 538 x m P := by
  intro cells slots hc hs
  obtain ⟨r, x', m', P', C, D, hI⟩ := op_when (sc := sc) h (sc.2 (i + 1)) (sc.2 (i + 2))
  obtain ⟨hT, K⟩ := K x' m' P' hI (cells + 0 + 0) (slots + 0 + 0) (by omega) (by omega)
  refine ⟨hT, ?_⟩
  repeat (refine mw_step rfl ?_)
  refine mw_ild rfl (ix1 i) (by omega) (by omega) ?_
  repeat (refine mw_step rfl ?_)
  refine mw_ild rfl (ix2 i) (by omega) (by omega) ?_
  repeat (refine mw_step rfl ?_)
  refine mw_call C rfl rfl (Nat.le_of_ble_eq_true rfl) (by omega) (by omega) ?_
  repeat (refine mw_step rfl ?_)
  refine mw_ild rfl (ix1 i) (by omega) (by omega) ?_
  repeat (refine mw_step rfl ?_)
  refine mw_ild rfl (ix2 i) (by omega) (by omega) ?_
  repeat (refine mw_step rfl ?_)
  refine mw_call D rfl rfl (Nat.le_of_ble_eq_true rfl) (by omega) (by omega) ?_
  refine mw_brT rfl rfl ?_
  refine mw_step rfl ?_
  refine mw_step rfl ?_
  rw [ix6]
  refine mw_pick [0, 1, 2, 3] rfl ?_
  exact K
set_option maxRecDepth 100000 in
theorem w_whole (h3 : sc.1 ≤ 384) (hi : i + 6 ≤ sc.1) (ht : t ≤ 64) (h : Inv x m P) (K : ∀ x m P, Inv x m P → WL sc (i + 6) (t + 1) 18 x m P) : WL sc i t 571 x m P := by
  intro cells slots hc hs
  obtain ⟨r, x', m', P', C, D, hI⟩ := op_whole (sc := sc) h (sc.2 (i + 1))
  obtain ⟨hT, K⟩ := K x' m' P' hI (cells + 0 + 0) (slots + 0 + 0) (by omega) (by omega)
  refine ⟨hT, ?_⟩
  repeat (refine mw_step rfl ?_)
  refine mw_ild rfl (ix1 i) (by omega) (by omega) ?_
  repeat (refine mw_step rfl ?_)
  refine mw_call C rfl rfl (Nat.le_of_ble_eq_true rfl) (by omega) (by omega) ?_
  repeat (refine mw_step rfl ?_)
  refine mw_ild rfl (ix1 i) (by omega) (by omega) ?_
  repeat (refine mw_step rfl ?_)
  refine mw_call D rfl rfl (Nat.le_of_ble_eq_true rfl) (by omega) (by omega) ?_
  refine mw_brT rfl rfl ?_
  refine mw_step rfl ?_
  refine mw_step rfl ?_
  rw [ix6]
  refine mw_pick [0, 1, 2, 3] rfl ?_
  exact K
set_option maxRecDepth 100000 in
theorem w_odd (h3 : sc.1 ≤ 384) (hi : i + 6 ≤ sc.1) (ht : t ≤ 64) (h : Inv x m P) (K : ∀ x m P, Inv x m P → WL sc (i + 6) (t + 1) 18 x m P) : WL sc i t 594 x m P := by
  intro cells slots hc hs
  obtain ⟨r, x', m', P', C, D, hI⟩ := op_odd (sc := sc) h 
  obtain ⟨hT, K⟩ := K x' m' P' hI (cells + 0 + 0) (slots + 0 + 0) (by omega) (by omega)
  refine ⟨hT, ?_⟩
  repeat (refine mw_step rfl ?_)
  refine mw_call C rfl rfl (Nat.le_of_ble_eq_true rfl) (by omega) (by omega) ?_
  repeat (refine mw_step rfl ?_)
  refine mw_call D rfl rfl (Nat.le_of_ble_eq_true rfl) (by omega) (by omega) ?_
  refine mw_brT rfl rfl ?_
  refine mw_step rfl ?_
  refine mw_step rfl ?_
  rw [ix6]
  refine mw_pick [0, 1, 2, 3] rfl ?_
  exact K
set_option maxRecDepth 100000 in
theorem w_next (h3 : sc.1 ≤ 384) (hi : i + 6 ≤ sc.1) (ht : t ≤ 64) (h : Inv x m P) (K : ∀ x m P, Inv x m P → WL sc (i + 6) (t + 1) 18 x m P) : WL sc i t 607 x m P := by
  intro cells slots hc hs
  obtain ⟨r, x', m', P', C, D, hI⟩ := op_next (sc := sc) h (sc.2 (i + 1))
  obtain ⟨hT, K⟩ := K x' m' P' hI (cells + 0 + 0) (slots + 0 + 0) (by omega) (by omega)
  refine ⟨hT, ?_⟩
  repeat (refine mw_step rfl ?_)
  refine mw_ild rfl (ix1 i) (by omega) (by omega) ?_
  repeat (refine mw_step rfl ?_)
  refine mw_call C rfl rfl (Nat.le_of_ble_eq_true rfl) (by omega) (by omega) ?_
  repeat (refine mw_step rfl ?_)
  refine mw_ild rfl (ix1 i) (by omega) (by omega) ?_
  repeat (refine mw_step rfl ?_)
  refine mw_call D rfl rfl (Nat.le_of_ble_eq_true rfl) (by omega) (by omega) ?_
  refine mw_brT rfl rfl ?_
  refine mw_step rfl ?_
  refine mw_step rfl ?_
  rw [ix6]
  refine mw_pick [0, 1, 2, 3] rfl ?_
  exact K
set_option maxRecDepth 100000 in
theorem w_named (h3 : sc.1 ≤ 384) (hi : i + 6 ≤ sc.1) (ht : t ≤ 64) (h : Inv x m P) (K : ∀ x m P, Inv x m P → WL sc (i + 6) (t + 1) 18 x m P) : WL sc i t 630 x m P := by
  intro cells slots hc hs
  obtain ⟨r, x', m', P', C, D, hI⟩ := op_named (sc := sc) h (sc.2 (i + 1)) (sc.2 (i + 2))
  obtain ⟨hT, K⟩ := K x' m' P' hI (cells + 0 + 0) (slots + 0 + 0) (by omega) (by omega)
  refine ⟨hT, ?_⟩
  repeat (refine mw_step rfl ?_)
  refine mw_ild rfl (ix1 i) (by omega) (by omega) ?_
  repeat (refine mw_step rfl ?_)
  refine mw_ild rfl (ix2 i) (by omega) (by omega) ?_
  repeat (refine mw_step rfl ?_)
  refine mw_call C rfl rfl (Nat.le_of_ble_eq_true rfl) (by omega) (by omega) ?_
  repeat (refine mw_step rfl ?_)
  refine mw_ild rfl (ix1 i) (by omega) (by omega) ?_
  repeat (refine mw_step rfl ?_)
  refine mw_ild rfl (ix2 i) (by omega) (by omega) ?_
  repeat (refine mw_step rfl ?_)
  refine mw_call D rfl rfl (Nat.le_of_ble_eq_true rfl) (by omega) (by omega) ?_
  refine mw_brT rfl rfl ?_
  refine mw_step rfl ?_
  refine mw_step rfl ?_
  rw [ix6]
  refine mw_pick [0, 1, 2, 3] rfl ?_
  exact K
set_option maxRecDepth 100000 in
theorem w_plan (h3 : sc.1 ≤ 384) (hi : i + 6 ≤ sc.1) (ht : t ≤ 64) (h : Inv x m P) (K : ∀ x m P, Inv x m P → WL sc (i + 6) (t + 1) 18 x m P) : WL sc i t 663 x m P := by
  intro cells slots hc hs
  obtain ⟨r, x', m', P', C, D, hI⟩ := op_plan (sc := sc) h (sc.2 (i + 1)) (sc.2 (i + 2))
  obtain ⟨hT, K⟩ := K x' m' P' hI (cells + 0 + 0) (slots + 0 + 0) (by omega) (by omega)
  refine ⟨hT, ?_⟩
  repeat (refine mw_step rfl ?_)
  refine mw_ild rfl (ix1 i) (by omega) (by omega) ?_
  repeat (refine mw_step rfl ?_)
  refine mw_ild rfl (ix2 i) (by omega) (by omega) ?_
  repeat (refine mw_step rfl ?_)
  refine mw_call C rfl rfl (Nat.le_of_ble_eq_true rfl) (by omega) (by omega) ?_
  repeat (refine mw_step rfl ?_)
  refine mw_ild rfl (ix1 i) (by omega) (by omega) ?_
  repeat (refine mw_step rfl ?_)
  refine mw_ild rfl (ix2 i) (by omega) (by omega) ?_
  repeat (refine mw_step rfl ?_)
  refine mw_call D rfl rfl (Nat.le_of_ble_eq_true rfl) (by omega) (by omega) ?_
  refine mw_brT rfl rfl ?_
  refine mw_step rfl ?_
  refine mw_step rfl ?_
  rw [ix6]
  refine mw_pick [0, 1, 2, 3] rfl ?_
  exact K
set_option maxRecDepth 100000 in
theorem w_believed (h3 : sc.1 ≤ 384) (hi : i + 6 ≤ sc.1) (ht : t ≤ 64) (h : Inv x m P) (K : ∀ x m P, Inv x m P → WL sc (i + 6) (t + 1) 18 x m P) : WL sc i t 696 x m P := by
  intro cells slots hc hs
  obtain ⟨r, x', m', P', C, D, hI⟩ := op_believed (sc := sc) h (sc.2 (i + 1)) (sc.2 (i + 2))
  obtain ⟨hT, K⟩ := K x' m' P' hI (cells + 0 + 0) (slots + 0 + 0) (by omega) (by omega)
  refine ⟨hT, ?_⟩
  repeat (refine mw_step rfl ?_)
  refine mw_ild rfl (ix1 i) (by omega) (by omega) ?_
  repeat (refine mw_step rfl ?_)
  refine mw_ild rfl (ix2 i) (by omega) (by omega) ?_
  repeat (refine mw_step rfl ?_)
  refine mw_call C rfl rfl (Nat.le_of_ble_eq_true rfl) (by omega) (by omega) ?_
  repeat (refine mw_step rfl ?_)
  refine mw_ild rfl (ix1 i) (by omega) (by omega) ?_
  repeat (refine mw_step rfl ?_)
  refine mw_ild rfl (ix2 i) (by omega) (by omega) ?_
  repeat (refine mw_step rfl ?_)
  refine mw_call D rfl rfl (Nat.le_of_ble_eq_true rfl) (by omega) (by omega) ?_
  refine mw_brT rfl rfl ?_
  refine mw_step rfl ?_
  refine mw_step rfl ?_
  rw [ix6]
  refine mw_pick [0, 1, 2, 3] rfl ?_
  exact K
set_option maxRecDepth 100000 in
theorem w_cheapest (h3 : sc.1 ≤ 384) (hi : i + 6 ≤ sc.1) (ht : t ≤ 64) (h : Inv x m P) (K : ∀ x m P, Inv x m P → WL sc (i + 6) (t + 1) 18 x m P) : WL sc i t 729 x m P := by
  intro cells slots hc hs
  obtain ⟨r, x', m', P', C, D, hI⟩ := op_cheapest (sc := sc) h (sc.2 (i + 1)) (sc.2 (i + 2)) (sc.2 (i + 3))
  obtain ⟨hT, K⟩ := K x' m' P' hI (cells + 0 + 0) (slots + 0 + 0) (by omega) (by omega)
  refine ⟨hT, ?_⟩
  repeat (refine mw_step rfl ?_)
  refine mw_ild rfl (ix1 i) (by omega) (by omega) ?_
  repeat (refine mw_step rfl ?_)
  refine mw_ild rfl (ix2 i) (by omega) (by omega) ?_
  repeat (refine mw_step rfl ?_)
  refine mw_ild rfl (ix3 i) (by omega) (by omega) ?_
  repeat (refine mw_step rfl ?_)
  refine mw_call C rfl rfl (Nat.le_of_ble_eq_true rfl) (by omega) (by omega) ?_
  repeat (refine mw_step rfl ?_)
  refine mw_ild rfl (ix1 i) (by omega) (by omega) ?_
  repeat (refine mw_step rfl ?_)
  refine mw_ild rfl (ix2 i) (by omega) (by omega) ?_
  repeat (refine mw_step rfl ?_)
  refine mw_ild rfl (ix3 i) (by omega) (by omega) ?_
  repeat (refine mw_step rfl ?_)
  refine mw_call D rfl rfl (Nat.le_of_ble_eq_true rfl) (by omega) (by omega) ?_
  refine mw_brT rfl rfl ?_
  refine mw_step rfl ?_
  refine mw_step rfl ?_
  rw [ix6]
  refine mw_pick [0, 1, 2, 3] rfl ?_
  exact K
set_option maxRecDepth 100000 in
theorem w_spoils (h3 : sc.1 ≤ 384) (hi : i + 6 ≤ sc.1) (ht : t ≤ 64) (h : Inv x m P) (K : ∀ x m P, Inv x m P → WL sc (i + 6) (t + 1) 18 x m P) : WL sc i t 772 x m P := by
  intro cells slots hc hs
  obtain ⟨r, x', m', P', C, D, hI⟩ := op_spoils (sc := sc) h (sc.2 (i + 1)) (sc.2 (i + 2))
  obtain ⟨hT, K⟩ := K x' m' P' hI (cells + 0 + 0) (slots + 0 + 0) (by omega) (by omega)
  refine ⟨hT, ?_⟩
  repeat (refine mw_step rfl ?_)
  refine mw_ild rfl (ix1 i) (by omega) (by omega) ?_
  repeat (refine mw_step rfl ?_)
  refine mw_ild rfl (ix2 i) (by omega) (by omega) ?_
  repeat (refine mw_step rfl ?_)
  refine mw_call C rfl rfl (Nat.le_of_ble_eq_true rfl) (by omega) (by omega) ?_
  repeat (refine mw_step rfl ?_)
  refine mw_ild rfl (ix1 i) (by omega) (by omega) ?_
  repeat (refine mw_step rfl ?_)
  refine mw_ild rfl (ix2 i) (by omega) (by omega) ?_
  repeat (refine mw_step rfl ?_)
  refine mw_call D rfl rfl (Nat.le_of_ble_eq_true rfl) (by omega) (by omega) ?_
  refine mw_brT rfl rfl ?_
  refine mw_step rfl ?_
  refine mw_step rfl ?_
  rw [ix6]
  refine mw_pick [0, 1, 2, 3] rfl ?_
  exact K
set_option maxRecDepth 100000 in
theorem w_price (h3 : sc.1 ≤ 384) (hi : i + 6 ≤ sc.1) (ht : t ≤ 64) (h : Inv x m P) (K : ∀ x m P, Inv x m P → WL sc (i + 6) (t + 1) 18 x m P) : WL sc i t 805 x m P := by
  intro cells slots hc hs
  obtain ⟨r, x', m', P', C, D, hI⟩ := op_price (sc := sc) h (sc.2 (i + 1))
  obtain ⟨hT, K⟩ := K x' m' P' hI (cells + 0 + 0) (slots + 0 + 0) (by omega) (by omega)
  refine ⟨hT, ?_⟩
  repeat (refine mw_step rfl ?_)
  refine mw_ild rfl (ix1 i) (by omega) (by omega) ?_
  repeat (refine mw_step rfl ?_)
  refine mw_call C rfl rfl (Nat.le_of_ble_eq_true rfl) (by omega) (by omega) ?_
  repeat (refine mw_step rfl ?_)
  refine mw_ild rfl (ix1 i) (by omega) (by omega) ?_
  repeat (refine mw_step rfl ?_)
  refine mw_call D rfl rfl (Nat.le_of_ble_eq_true rfl) (by omega) (by omega) ?_
  refine mw_brT rfl rfl ?_
  refine mw_step rfl ?_
  refine mw_step rfl ?_
  rw [ix6]
  refine mw_pick [0, 1, 2, 3] rfl ?_
  exact K
set_option maxRecDepth 100000 in
theorem w_paper (h3 : sc.1 ≤ 384) (hi : i + 6 ≤ sc.1) (ht : t ≤ 64) (h : Inv x m P) (K : ∀ x m P, Inv x m P → WL sc (i + 6) (t + 1) 18 x m P) : WL sc i t 828 x m P := by
  intro cells slots hc hs
  obtain ⟨r, x', m', P', C, D, hI⟩ := op_paper (sc := sc) h (sc.2 (i + 1)) (sc.2 (i + 2))
  obtain ⟨hT, K⟩ := K x' m' P' hI (cells + 0 + 0) (slots + 0 + 0) (by omega) (by omega)
  refine ⟨hT, ?_⟩
  repeat (refine mw_step rfl ?_)
  refine mw_ild rfl (ix1 i) (by omega) (by omega) ?_
  repeat (refine mw_step rfl ?_)
  refine mw_ild rfl (ix2 i) (by omega) (by omega) ?_
  repeat (refine mw_step rfl ?_)
  refine mw_call C rfl rfl (Nat.le_of_ble_eq_true rfl) (by omega) (by omega) ?_
  repeat (refine mw_step rfl ?_)
  refine mw_ild rfl (ix1 i) (by omega) (by omega) ?_
  repeat (refine mw_step rfl ?_)
  refine mw_ild rfl (ix2 i) (by omega) (by omega) ?_
  repeat (refine mw_step rfl ?_)
  refine mw_call D rfl rfl (Nat.le_of_ble_eq_true rfl) (by omega) (by omega) ?_
  refine mw_brT rfl rfl ?_
  refine mw_step rfl ?_
  refine mw_step rfl ?_
  rw [ix6]
  refine mw_pick [0, 1, 2, 3] rfl ?_
  exact K
set_option maxRecDepth 100000 in
theorem w_papers (h3 : sc.1 ≤ 384) (hi : i + 6 ≤ sc.1) (ht : t ≤ 64) (h : Inv x m P) (K : ∀ x m P, Inv x m P → WL sc (i + 6) (t + 1) 18 x m P) : WL sc i t 861 x m P := by
  intro cells slots hc hs
  obtain ⟨r, x', m', P', C, D, hI⟩ := op_papers (sc := sc) h (sc.2 (i + 1))
  obtain ⟨hT, K⟩ := K x' m' P' hI (cells + 0 + 0) (slots + 0 + 0) (by omega) (by omega)
  refine ⟨hT, ?_⟩
  repeat (refine mw_step rfl ?_)
  refine mw_ild rfl (ix1 i) (by omega) (by omega) ?_
  repeat (refine mw_step rfl ?_)
  refine mw_call C rfl rfl (Nat.le_of_ble_eq_true rfl) (by omega) (by omega) ?_
  repeat (refine mw_step rfl ?_)
  refine mw_ild rfl (ix1 i) (by omega) (by omega) ?_
  repeat (refine mw_step rfl ?_)
  refine mw_call D rfl rfl (Nat.le_of_ble_eq_true rfl) (by omega) (by omega) ?_
  refine mw_brT rfl rfl ?_
  refine mw_step rfl ?_
  refine mw_step rfl ?_
  rw [ix6]
  refine mw_pick [0, 1, 2, 3] rfl ?_
  exact K
set_option maxRecDepth 100000 in
theorem w_house (h3 : sc.1 ≤ 384) (hi : i + 6 ≤ sc.1) (ht : t ≤ 64) (h : Inv x m P) (K : ∀ x m P, Inv x m P → WL sc (i + 6) (t + 1) 18 x m P) : WL sc i t 884 x m P := by
  intro cells slots hc hs
  obtain ⟨r, x', m', P', C, D, hI⟩ := op_house (sc := sc) h (sc.2 (i + 1))
  obtain ⟨hT, K⟩ := K x' m' P' hI (cells + 0 + 0) (slots + 0 + 0) (by omega) (by omega)
  refine ⟨hT, ?_⟩
  repeat (refine mw_step rfl ?_)
  refine mw_ild rfl (ix1 i) (by omega) (by omega) ?_
  repeat (refine mw_step rfl ?_)
  refine mw_call C rfl rfl (Nat.le_of_ble_eq_true rfl) (by omega) (by omega) ?_
  repeat (refine mw_step rfl ?_)
  refine mw_ild rfl (ix1 i) (by omega) (by omega) ?_
  repeat (refine mw_step rfl ?_)
  refine mw_call D rfl rfl (Nat.le_of_ble_eq_true rfl) (by omega) (by omega) ?_
  refine mw_brT rfl rfl ?_
  refine mw_step rfl ?_
  refine mw_step rfl ?_
  rw [ix6]
  refine mw_pick [0, 1, 2, 3] rfl ?_
  exact K
set_option maxRecDepth 100000 in
theorem w_drawn (h3 : sc.1 ≤ 384) (hi : i + 6 ≤ sc.1) (ht : t ≤ 64) (h : Inv x m P) (K : ∀ x m P, Inv x m P → WL sc (i + 6) (t + 1) 18 x m P) : WL sc i t 907 x m P := by
  intro cells slots hc hs
  obtain ⟨r, x', m', P', C, D, hI⟩ := op_drawn (sc := sc) h (sc.2 (i + 1)) (sc.2 (i + 2)) (sc.2 (i + 3))
  obtain ⟨hT, K⟩ := K x' m' P' hI (cells + 0 + 0) (slots + 0 + 0) (by omega) (by omega)
  refine ⟨hT, ?_⟩
  repeat (refine mw_step rfl ?_)
  refine mw_ild rfl (ix1 i) (by omega) (by omega) ?_
  repeat (refine mw_step rfl ?_)
  refine mw_ild rfl (ix2 i) (by omega) (by omega) ?_
  repeat (refine mw_step rfl ?_)
  refine mw_ild rfl (ix3 i) (by omega) (by omega) ?_
  repeat (refine mw_step rfl ?_)
  refine mw_call C rfl rfl (Nat.le_of_ble_eq_true rfl) (by omega) (by omega) ?_
  repeat (refine mw_step rfl ?_)
  refine mw_ild rfl (ix1 i) (by omega) (by omega) ?_
  repeat (refine mw_step rfl ?_)
  refine mw_ild rfl (ix2 i) (by omega) (by omega) ?_
  repeat (refine mw_step rfl ?_)
  refine mw_ild rfl (ix3 i) (by omega) (by omega) ?_
  repeat (refine mw_step rfl ?_)
  refine mw_call D rfl rfl (Nat.le_of_ble_eq_true rfl) (by omega) (by omega) ?_
  refine mw_brT rfl rfl ?_
  refine mw_step rfl ?_
  refine mw_step rfl ?_
  rw [ix6]
  refine mw_pick [0, 1, 2, 3] rfl ?_
  exact K
set_option maxRecDepth 100000 in
theorem w_image (h3 : sc.1 ≤ 384) (hi : i + 6 ≤ sc.1) (ht : t ≤ 64) (h : Inv x m P) (K : ∀ x m P, Inv x m P → WL sc (i + 6) (t + 1) 18 x m P) : WL sc i t 950 x m P := by
  intro cells slots hc hs
  obtain ⟨r, x', m', P', C, D, hI⟩ := op_image (sc := sc) h 
  obtain ⟨hT, K⟩ := K x' m' P' hI (cells + 0 + 0) (slots + 0 + 0) (by omega) (by omega)
  refine ⟨hT, ?_⟩
  repeat (refine mw_step rfl ?_)
  refine mw_call C rfl rfl (Nat.le_of_ble_eq_true rfl) (by omega) (by omega) ?_
  repeat (refine mw_step rfl ?_)
  refine mw_call D rfl rfl (Nat.le_of_ble_eq_true rfl) (by omega) (by omega) ?_
  refine mw_brT rfl rfl ?_
  refine mw_step rfl ?_
  refine mw_step rfl ?_
  rw [ix6]
  refine mw_pick [0, 1, 2, 3] rfl ?_
  exact K
set_option maxRecDepth 100000 in
theorem w_back (h3 : sc.1 ≤ 384) (hi : i + 6 ≤ sc.1) (ht : t ≤ 64) (h : Inv x m P) (K : ∀ x m P, Inv x m P → WL sc (i + 6) (t + 1) 18 x m P) : WL sc i t 963 x m P := by
  intro cells slots hc hs
  obtain ⟨r, x', m', P', C, D, hI⟩ := op_back (sc := sc) h 
  obtain ⟨hT, K⟩ := K x' m' P' hI (cells + 0 + 0) (slots + 0 + 0) (by omega) (by omega)
  refine ⟨hT, ?_⟩
  repeat (refine mw_step rfl ?_)
  refine mw_call C rfl rfl (Nat.le_of_ble_eq_true rfl) (by omega) (by omega) ?_
  repeat (refine mw_step rfl ?_)
  refine mw_call D rfl rfl (Nat.le_of_ble_eq_true rfl) (by omega) (by omega) ?_
  refine mw_brT rfl rfl ?_
  refine mw_step rfl ?_
  refine mw_step rfl ?_
  rw [ix6]
  refine mw_pick [0, 1, 2, 3] rfl ?_
  exact K
set_option maxRecDepth 100000 in
theorem w_undo (h3 : sc.1 ≤ 384) (hi : i + 6 ≤ sc.1) (ht : t ≤ 64) (h : Inv x m P) (K : ∀ x m P, Inv x m P → WL sc (i + 6) (t + 1) 18 x m P) : WL sc i t 976 x m P := by
  intro cells slots hc hs
  obtain ⟨r, x', m', P', C, D, hI⟩ := op_undo (sc := sc) h 
  obtain ⟨hT, K⟩ := K x' m' P' hI (cells + 0 + 0) (slots + 0 + 0) (by omega) (by omega)
  refine ⟨hT, ?_⟩
  repeat (refine mw_step rfl ?_)
  refine mw_call C rfl rfl (Nat.le_of_ble_eq_true rfl) (by omega) (by omega) ?_
  repeat (refine mw_step rfl ?_)
  refine mw_call D rfl rfl (Nat.le_of_ble_eq_true rfl) (by omega) (by omega) ?_
  refine mw_brT rfl rfl ?_
  refine mw_step rfl ?_
  refine mw_step rfl ?_
  rw [ix6]
  refine mw_pick [0, 1, 2, 3] rfl ?_
  exact K
set_option maxRecDepth 100000 in
theorem w_redo (h3 : sc.1 ≤ 384) (hi : i + 6 ≤ sc.1) (ht : t ≤ 64) (h : Inv x m P) (K : ∀ x m P, Inv x m P → WL sc (i + 6) (t + 1) 18 x m P) : WL sc i t 989 x m P := by
  intro cells slots hc hs
  obtain ⟨r, x', m', P', C, D, hI⟩ := op_redo (sc := sc) h 
  obtain ⟨hT, K⟩ := K x' m' P' hI (cells + 0 + 0) (slots + 0 + 0) (by omega) (by omega)
  refine ⟨hT, ?_⟩
  repeat (refine mw_step rfl ?_)
  refine mw_call C rfl rfl (Nat.le_of_ble_eq_true rfl) (by omega) (by omega) ?_
  repeat (refine mw_step rfl ?_)
  refine mw_call D rfl rfl (Nat.le_of_ble_eq_true rfl) (by omega) (by omega) ?_
  refine mw_brT rfl rfl ?_
  refine mw_step rfl ?_
  refine mw_step rfl ?_
  rw [ix6]
  refine mw_pick [0, 1, 2, 3] rfl ?_
  exact K
set_option maxRecDepth 100000 in
theorem w_body (h3 : sc.1 ≤ 384) (hi : i + 6 ≤ sc.1) (ht : t ≤ 64) (h : Inv x m P) (K : ∀ x m P, Inv x m P → WL sc (i + 6) (t + 1) 18 x m P) : WL sc i t 1002 x m P := by
  intro cells slots hc hs
  obtain ⟨r, x', m', P', C, D, hI⟩ := op_body (sc := sc) h (sc.2 (i + 1))
  obtain ⟨hT, K⟩ := K x' m' P' hI (cells + 0 + 0) (slots + 0 + 0) (by omega) (by omega)
  refine ⟨hT, ?_⟩
  repeat (refine mw_step rfl ?_)
  refine mw_ild rfl (ix1 i) (by omega) (by omega) ?_
  repeat (refine mw_step rfl ?_)
  refine mw_call C rfl rfl (Nat.le_of_ble_eq_true rfl) (by omega) (by omega) ?_
  repeat (refine mw_step rfl ?_)
  refine mw_ild rfl (ix1 i) (by omega) (by omega) ?_
  repeat (refine mw_step rfl ?_)
  refine mw_call D rfl rfl (Nat.le_of_ble_eq_true rfl) (by omega) (by omega) ?_
  refine mw_brT rfl rfl ?_
  refine mw_step rfl ?_
  refine mw_step rfl ?_
  rw [ix6]
  refine mw_pick [0, 1, 2, 3] rfl ?_
  exact K
set_option maxRecDepth 100000 in
theorem w_act (h3 : sc.1 ≤ 384) (hi : i + 6 ≤ sc.1) (ht : t ≤ 64) (h : Inv x m P) (K : ∀ x m P, Inv x m P → WL sc (i + 6) (t + 1) 18 x m P) : WL sc i t 1025 x m P := by
  intro cells slots hc hs
  obtain ⟨r, x', m', P', C, D, hI⟩ := op_act (sc := sc) h (sc.2 (i + 1)) (sc.2 (i + 2)) (sc.2 (i + 3))
  obtain ⟨hT, K⟩ := K x' m' P' hI (cells + 0 + 0) (slots + 0 + 0) (by omega) (by omega)
  refine ⟨hT, ?_⟩
  repeat (refine mw_step rfl ?_)
  refine mw_ild rfl (ix1 i) (by omega) (by omega) ?_
  repeat (refine mw_step rfl ?_)
  refine mw_ild rfl (ix2 i) (by omega) (by omega) ?_
  repeat (refine mw_step rfl ?_)
  refine mw_ild rfl (ix3 i) (by omega) (by omega) ?_
  repeat (refine mw_step rfl ?_)
  refine mw_call C rfl rfl (Nat.le_of_ble_eq_true rfl) (by omega) (by omega) ?_
  repeat (refine mw_step rfl ?_)
  refine mw_ild rfl (ix1 i) (by omega) (by omega) ?_
  repeat (refine mw_step rfl ?_)
  refine mw_ild rfl (ix2 i) (by omega) (by omega) ?_
  repeat (refine mw_step rfl ?_)
  refine mw_ild rfl (ix3 i) (by omega) (by omega) ?_
  repeat (refine mw_step rfl ?_)
  refine mw_call D rfl rfl (Nat.le_of_ble_eq_true rfl) (by omega) (by omega) ?_
  refine mw_brT rfl rfl ?_
  refine mw_step rfl ?_
  refine mw_step rfl ?_
  rw [ix6]
  refine mw_pick [0, 1, 2, 3] rfl ?_
  exact K
set_option maxRecDepth 100000 in
theorem w_trace (h3 : sc.1 ≤ 384) (hi : i + 6 ≤ sc.1) (ht : t ≤ 64) (h : Inv x m P) (K : ∀ x m P, Inv x m P → WL sc (i + 6) (t + 1) 18 x m P) : WL sc i t 1068 x m P := by
  intro cells slots hc hs
  obtain ⟨r, x', m', P', C, D, hI⟩ := op_trace (sc := sc) h (sc.2 (i + 1))
  obtain ⟨hT, K⟩ := K x' m' P' hI (cells + 0 + 0) (slots + 0 + 0) (by omega) (by omega)
  refine ⟨hT, ?_⟩
  repeat (refine mw_step rfl ?_)
  refine mw_ild rfl (ix1 i) (by omega) (by omega) ?_
  repeat (refine mw_step rfl ?_)
  refine mw_call C rfl rfl (Nat.le_of_ble_eq_true rfl) (by omega) (by omega) ?_
  repeat (refine mw_step rfl ?_)
  refine mw_ild rfl (ix1 i) (by omega) (by omega) ?_
  repeat (refine mw_step rfl ?_)
  refine mw_call D rfl rfl (Nat.le_of_ble_eq_true rfl) (by omega) (by omega) ?_
  refine mw_brT rfl rfl ?_
  refine mw_step rfl ?_
  refine mw_step rfl ?_
  rw [ix6]
  refine mw_pick [0, 1, 2, 3] rfl ?_
  exact K
set_option maxRecDepth 100000 in
theorem w_keep (h3 : sc.1 ≤ 384) (hi : i + 6 ≤ sc.1) (ht : t ≤ 64) (h : Inv x m P) (K : ∀ x m P, Inv x m P → WL sc (i + 6) (t + 1) 18 x m P) : WL sc i t 1091 x m P := by
  intro cells slots hc hs
  obtain ⟨r, x', m', P', C, D, hI⟩ := op_keep (sc := sc) h (sc.2 (i + 1)) (sc.2 (i + 2))
  obtain ⟨hT, K⟩ := K x' m' P' hI (cells + 0 + 0) (slots + 0 + 0) (by omega) (by omega)
  refine ⟨hT, ?_⟩
  repeat (refine mw_step rfl ?_)
  refine mw_ild rfl (ix1 i) (by omega) (by omega) ?_
  repeat (refine mw_step rfl ?_)
  refine mw_ild rfl (ix2 i) (by omega) (by omega) ?_
  repeat (refine mw_step rfl ?_)
  refine mw_call C rfl rfl (Nat.le_of_ble_eq_true rfl) (by omega) (by omega) ?_
  repeat (refine mw_step rfl ?_)
  refine mw_ild rfl (ix1 i) (by omega) (by omega) ?_
  repeat (refine mw_step rfl ?_)
  refine mw_ild rfl (ix2 i) (by omega) (by omega) ?_
  repeat (refine mw_step rfl ?_)
  refine mw_call D rfl rfl (Nat.le_of_ble_eq_true rfl) (by omega) (by omega) ?_
  refine mw_brT rfl rfl ?_
  refine mw_step rfl ?_
  refine mw_step rfl ?_
  rw [ix6]
  refine mw_pick [0, 1, 2, 3] rfl ?_
  exact K
set_option maxRecDepth 100000 in
theorem w_row (h3 : sc.1 ≤ 384) (hi : i + 6 ≤ sc.1) (ht : t ≤ 64) (h : Inv x m P) (K : ∀ x m P, Inv x m P → WL sc (i + 6) (t + 1) 18 x m P) : WL sc i t 1124 x m P := by
  intro cells slots hc hs
  obtain ⟨r, x', m', P', C, D, hI⟩ := op_row (sc := sc) h (sc.2 (i + 1)) (sc.2 (i + 2)) (sc.2 (i + 3))
  obtain ⟨hT, K⟩ := K x' m' P' hI (cells + 0 + 0) (slots + 0 + 0) (by omega) (by omega)
  refine ⟨hT, ?_⟩
  repeat (refine mw_step rfl ?_)
  refine mw_ild rfl (ix1 i) (by omega) (by omega) ?_
  repeat (refine mw_step rfl ?_)
  refine mw_ild rfl (ix2 i) (by omega) (by omega) ?_
  repeat (refine mw_step rfl ?_)
  refine mw_ild rfl (ix3 i) (by omega) (by omega) ?_
  repeat (refine mw_step rfl ?_)
  refine mw_call C rfl rfl (Nat.le_of_ble_eq_true rfl) (by omega) (by omega) ?_
  repeat (refine mw_step rfl ?_)
  refine mw_ild rfl (ix1 i) (by omega) (by omega) ?_
  repeat (refine mw_step rfl ?_)
  refine mw_ild rfl (ix2 i) (by omega) (by omega) ?_
  repeat (refine mw_step rfl ?_)
  refine mw_ild rfl (ix3 i) (by omega) (by omega) ?_
  repeat (refine mw_step rfl ?_)
  refine mw_call D rfl rfl (Nat.le_of_ble_eq_true rfl) (by omega) (by omega) ?_
  refine mw_brT rfl rfl ?_
  refine mw_step rfl ?_
  refine mw_step rfl ?_
  rw [ix6]
  refine mw_pick [0, 1, 2, 3] rfl ?_
  exact K
set_option maxRecDepth 100000 in
theorem w_put (h3 : sc.1 ≤ 384) (hi : i + 6 ≤ sc.1) (ht : t ≤ 64) (h : Inv x m P) (K : ∀ x m P, Inv x m P → WL sc (i + 6) (t + 1) 18 x m P) : WL sc i t 1167 x m P := by
  intro cells slots hc hs
  obtain ⟨r, x', m', P', C, D, hI⟩ := op_put (sc := sc) h (sc.2 (i + 1)) (sc.2 (i + 2)) (((sc.2 (i + 3)).toInt64 <<< (((32 : Int32).toInt64) &&& 63)) ||| ((sc.2 (i + 4)).toInt64 &&& 4294967295))
  obtain ⟨hT, K⟩ := K x' m' P' hI (cells + 0 + 0) (slots + 0 + 0) (by omega) (by omega)
  refine ⟨hT, ?_⟩
  repeat (refine mw_step rfl ?_)
  refine mw_ild rfl (ix1 i) (by omega) (by omega) ?_
  repeat (refine mw_step rfl ?_)
  refine mw_ild rfl (ix2 i) (by omega) (by omega) ?_
  repeat (refine mw_step rfl ?_)
  refine mw_ild rfl (ix3 i) (by omega) (by omega) ?_
  repeat (refine mw_step rfl ?_)
  refine mw_ild rfl (ix4 i) (by omega) (by omega) ?_
  repeat (refine mw_step rfl ?_)
  refine mw_call C rfl rfl (Nat.le_of_ble_eq_true rfl) (by omega) (by omega) ?_
  repeat (refine mw_step rfl ?_)
  refine mw_ild rfl (ix1 i) (by omega) (by omega) ?_
  repeat (refine mw_step rfl ?_)
  refine mw_ild rfl (ix2 i) (by omega) (by omega) ?_
  repeat (refine mw_step rfl ?_)
  refine mw_ild rfl (ix3 i) (by omega) (by omega) ?_
  repeat (refine mw_step rfl ?_)
  refine mw_ild rfl (ix4 i) (by omega) (by omega) ?_
  repeat (refine mw_step rfl ?_)
  refine mw_call D rfl rfl (Nat.le_of_ble_eq_true rfl) (by omega) (by omega) ?_
  refine mw_brT rfl rfl ?_
  refine mw_step rfl ?_
  refine mw_step rfl ?_
  rw [ix6]
  refine mw_pick [0, 1, 2, 3] rfl ?_
  exact K
set_option maxRecDepth 100000 in
theorem w_element (h3 : sc.1 ≤ 384) (hi : i + 6 ≤ sc.1) (ht : t ≤ 64) (h : Inv x m P) (K : ∀ x m P, Inv x m P → WL sc (i + 6) (t + 1) 18 x m P) : WL sc i t 1240 x m P := by
  intro cells slots hc hs
  obtain ⟨r, x', m', P', C, D, hI⟩ := op_element (sc := sc) h (sc.2 (i + 1)) (sc.2 (i + 2))
  obtain ⟨hT, K⟩ := K x' m' P' hI (cells + 0 + 0) (slots + 0 + 0) (by omega) (by omega)
  refine ⟨hT, ?_⟩
  repeat (refine mw_step rfl ?_)
  refine mw_ild rfl (ix1 i) (by omega) (by omega) ?_
  repeat (refine mw_step rfl ?_)
  refine mw_ild rfl (ix2 i) (by omega) (by omega) ?_
  repeat (refine mw_step rfl ?_)
  refine mw_call C rfl rfl (Nat.le_of_ble_eq_true rfl) (by omega) (by omega) ?_
  repeat (refine mw_step rfl ?_)
  refine mw_ild rfl (ix1 i) (by omega) (by omega) ?_
  repeat (refine mw_step rfl ?_)
  refine mw_ild rfl (ix2 i) (by omega) (by omega) ?_
  repeat (refine mw_step rfl ?_)
  refine mw_call D rfl rfl (Nat.le_of_ble_eq_true rfl) (by omega) (by omega) ?_
  repeat (refine mw_step rfl ?_)
  refine mw_brT rfl (lcmp0 r) ?_
  refine mw_step rfl ?_
  refine mw_step rfl ?_
  rw [ix6]
  refine mw_pick [0, 1, 2, 3] rfl ?_
  exact K
set_option maxRecDepth 100000 in
theorem w_shift (h3 : sc.1 ≤ 384) (hi : i + 6 ≤ sc.1) (ht : t ≤ 64) (h : Inv x m P) (K : ∀ x m P, Inv x m P → WL sc (i + 6) (t + 1) 18 x m P) : WL sc i t 1274 x m P := by
  intro cells slots hc hs
  obtain ⟨r, x', m', P', C, D, hI⟩ := op_shift (sc := sc) h (sc.2 (i + 1)) (sc.2 (i + 2)) (sc.2 (i + 3)) (sc.2 (i + 4)) (sc.2 (i + 5))
  obtain ⟨hT, K⟩ := K x' m' P' hI (cells + 0 + 0) (slots + 0 + 0) (by omega) (by omega)
  refine ⟨hT, ?_⟩
  repeat (refine mw_step rfl ?_)
  refine mw_ild rfl (ix1 i) (by omega) (by omega) ?_
  repeat (refine mw_step rfl ?_)
  refine mw_ild rfl (ix2 i) (by omega) (by omega) ?_
  repeat (refine mw_step rfl ?_)
  refine mw_ild rfl (ix3 i) (by omega) (by omega) ?_
  repeat (refine mw_step rfl ?_)
  refine mw_ild rfl (ix4 i) (by omega) (by omega) ?_
  repeat (refine mw_step rfl ?_)
  refine mw_ild rfl (ix5 i) (by omega) (by omega) ?_
  repeat (refine mw_step rfl ?_)
  refine mw_call C rfl rfl (Nat.le_of_ble_eq_true rfl) (by omega) (by omega) ?_
  repeat (refine mw_step rfl ?_)
  refine mw_ild rfl (ix1 i) (by omega) (by omega) ?_
  repeat (refine mw_step rfl ?_)
  refine mw_ild rfl (ix2 i) (by omega) (by omega) ?_
  repeat (refine mw_step rfl ?_)
  refine mw_ild rfl (ix3 i) (by omega) (by omega) ?_
  repeat (refine mw_step rfl ?_)
  refine mw_ild rfl (ix4 i) (by omega) (by omega) ?_
  repeat (refine mw_step rfl ?_)
  refine mw_ild rfl (ix5 i) (by omega) (by omega) ?_
  repeat (refine mw_step rfl ?_)
  refine mw_call D rfl rfl (Nat.le_of_ble_eq_true rfl) (by omega) (by omega) ?_
  refine mw_brT rfl rfl ?_
  refine mw_step rfl ?_
  refine mw_step rfl ?_
  rw [ix6]
  refine mw_pick [0, 1, 2, 3] rfl ?_
  exact K
set_option maxRecDepth 100000 in
theorem w_taken (h3 : sc.1 ≤ 384) (hi : i + 6 ≤ sc.1) (ht : t ≤ 64) (h : Inv x m P) (K : ∀ x m P, Inv x m P → WL sc (i + 6) (t + 1) 18 x m P) : WL sc i t 1337 x m P := by
  intro cells slots hc hs
  obtain ⟨r, x', m', P', C, D, hI⟩ := op_taken (sc := sc) h (sc.2 (i + 1)) (sc.2 (i + 2))
  obtain ⟨hT, K⟩ := K x' m' P' hI (cells + 0 + 0) (slots + 0 + 0) (by omega) (by omega)
  refine ⟨hT, ?_⟩
  repeat (refine mw_step rfl ?_)
  refine mw_ild rfl (ix1 i) (by omega) (by omega) ?_
  repeat (refine mw_step rfl ?_)
  refine mw_ild rfl (ix2 i) (by omega) (by omega) ?_
  repeat (refine mw_step rfl ?_)
  refine mw_call C rfl rfl (Nat.le_of_ble_eq_true rfl) (by omega) (by omega) ?_
  repeat (refine mw_step rfl ?_)
  refine mw_ild rfl (ix1 i) (by omega) (by omega) ?_
  repeat (refine mw_step rfl ?_)
  refine mw_ild rfl (ix2 i) (by omega) (by omega) ?_
  repeat (refine mw_step rfl ?_)
  refine mw_call D rfl rfl (Nat.le_of_ble_eq_true rfl) (by omega) (by omega) ?_
  refine mw_brT rfl rfl ?_
  refine mw_step rfl ?_
  refine mw_step rfl ?_
  rw [ix6]
  refine mw_pick [0, 1, 2, 3] rfl ?_
  exact K
set_option maxRecDepth 100000 in
theorem w_count (h3 : sc.1 ≤ 384) (hi : i + 6 ≤ sc.1) (ht : t ≤ 64) (h : Inv x m P) (K : ∀ x m P, Inv x m P → WL sc (i + 6) (t + 1) 18 x m P) : WL sc i t 1370 x m P := by
  intro cells slots hc hs
  obtain ⟨r, x', m', P', C, D, hI⟩ := op_count (sc := sc) h (sc.2 (i + 1))
  obtain ⟨hT, K⟩ := K x' m' P' hI (cells + 0 + 0) (slots + 0 + 0) (by omega) (by omega)
  refine ⟨hT, ?_⟩
  repeat (refine mw_step rfl ?_)
  refine mw_ild rfl (ix1 i) (by omega) (by omega) ?_
  repeat (refine mw_step rfl ?_)
  refine mw_call C rfl rfl (Nat.le_of_ble_eq_true rfl) (by omega) (by omega) ?_
  repeat (refine mw_step rfl ?_)
  refine mw_ild rfl (ix1 i) (by omega) (by omega) ?_
  repeat (refine mw_step rfl ?_)
  refine mw_call D rfl rfl (Nat.le_of_ble_eq_true rfl) (by omega) (by omega) ?_
  refine mw_brT rfl rfl ?_
  refine mw_step rfl ?_
  refine mw_step rfl ?_
  rw [ix6]
  refine mw_pick [0, 1, 2, 3] rfl ?_
  exact K
set_option maxRecDepth 100000 in
theorem w_nop (ht : t ≤ 64) (h : Inv x m P) (K : ∀ x m P, Inv x m P → WL sc (i + 6) (t + 1) 18 x m P) : WL sc i t 1393 x m P := by
  intro cells slots hc hs
  obtain ⟨hT, K⟩ := K x m P h cells slots (by omega) (by omega)
  refine ⟨hT, ?_⟩
  refine mw_step rfl ?_
  refine mw_step rfl ?_
  rw [ix6]
  refine mw_pick [0, 1, 2, 3] rfl ?_
  exact K
set_option maxRecDepth 100000 in
theorem w_sw (h3 : sc.1 ≤ 384) (hi : i + 6 ≤ sc.1) (ht : t ≤ 64) (h : Inv x m P) (K : ∀ x m P, Inv x m P → WL sc (i + 6) (t + 1) 18 x m P) : ∃ pc, m_sw M_W_law 33 (sc.2 i &&& 63).toInt = some (pc : Nat) ∧ WL sc i t pc x m P := by
  by_cases hw : 0 ≤ (sc.2 i &&& 63) ∧ (sc.2 i &&& 63) ≤ nI 38
  · obtain ⟨a, ha, e⟩ := rng (n := 38) (by decide) hw
    rw [e]
    rcases Nat.lt_or_ge a 20 with q0_38 | q0_38
    · skip
      rcases Nat.lt_or_ge a 10 with q0_19 | q0_19
      · skip
        rcases Nat.lt_or_ge a 5 with q0_9 | q0_9
        · skip
          rcases Nat.lt_or_ge a 3 with q0_4 | q0_4
          · skip
            rcases Nat.lt_or_ge a 2 with q0_2 | q0_2
            · skip
              rcases Nat.lt_or_ge a 1 with q0_1 | q0_1
              · skip
                have ea : a = 0 := by omega
                subst ea
                exact ⟨204, rfl, w_part h3 hi ht h K⟩
              · skip
                have ea : a = 1 := by omega
                subst ea
                exact ⟨227, rfl, w_parts h3 hi ht h K⟩
            · skip
              have ea : a = 2 := by omega
              subst ea
              exact ⟨270, rfl, w_mend h3 hi ht h K⟩
          · skip
            rcases Nat.lt_or_ge a 4 with q3_4 | q3_4
            · skip
              have ea : a = 3 := by omega
              subst ea
              exact ⟨313, rfl, w_find h3 hi ht h K⟩
            · skip
              have ea : a = 4 := by omega
              subst ea
              exact ⟨346, rfl, w_of h3 hi ht h K⟩
        · skip
          rcases Nat.lt_or_ge a 8 with q5_9 | q5_9
          · skip
            rcases Nat.lt_or_ge a 7 with q5_7 | q5_7
            · skip
              rcases Nat.lt_or_ge a 6 with q5_6 | q5_6
              · skip
                have ea : a = 5 := by omega
                subst ea
                exact ⟨379, rfl, w_feed h3 hi ht h K⟩
              · skip
                have ea : a = 6 := by omega
                subst ea
                exact ⟨402, rfl, w_law h3 hi ht h K⟩
            · skip
              have ea : a = 7 := by omega
              subst ea
              exact ⟨425, rfl, w_number h3 hi ht h K⟩
          · skip
            rcases Nat.lt_or_ge a 9 with q8_9 | q8_9
            · skip
              have ea : a = 8 := by omega
              subst ea
              exact ⟨458, rfl, w_likely h3 hi ht h K⟩
            · skip
              have ea : a = 9 := by omega
              subst ea
              exact ⟨492, rfl, w_percent h3 hi ht h K⟩
      · skip
        rcases Nat.lt_or_ge a 15 with q10_19 | q10_19
        · skip
          rcases Nat.lt_or_ge a 13 with q10_14 | q10_14
          · skip
            rcases Nat.lt_or_ge a 12 with q10_12 | q10_12
            · skip
              rcases Nat.lt_or_ge a 11 with q10_11 | q10_11
              · skip
                have ea : a = 10 := by omega
                subst ea
                exact ⟨515, rfl, w_likeliest h3 hi ht h K⟩
              · skip
                have ea : a = 11 := by omega
                subst ea
                exact ⟨538, rfl, w_when h3 hi ht h K⟩
            · skip
              have ea : a = 12 := by omega
              subst ea
              exact ⟨571, rfl, w_whole h3 hi ht h K⟩
          · skip
            rcases Nat.lt_or_ge a 14 with q13_14 | q13_14
            · skip
              have ea : a = 13 := by omega
              subst ea
              exact ⟨594, rfl, w_odd h3 hi ht h K⟩
            · skip
              have ea : a = 14 := by omega
              subst ea
              exact ⟨607, rfl, w_next h3 hi ht h K⟩
        · skip
          rcases Nat.lt_or_ge a 18 with q15_19 | q15_19
          · skip
            rcases Nat.lt_or_ge a 17 with q15_17 | q15_17
            · skip
              rcases Nat.lt_or_ge a 16 with q15_16 | q15_16
              · skip
                have ea : a = 15 := by omega
                subst ea
                exact ⟨630, rfl, w_named h3 hi ht h K⟩
              · skip
                have ea : a = 16 := by omega
                subst ea
                exact ⟨663, rfl, w_plan h3 hi ht h K⟩
            · skip
              have ea : a = 17 := by omega
              subst ea
              exact ⟨696, rfl, w_believed h3 hi ht h K⟩
          · skip
            rcases Nat.lt_or_ge a 19 with q18_19 | q18_19
            · skip
              have ea : a = 18 := by omega
              subst ea
              exact ⟨729, rfl, w_cheapest h3 hi ht h K⟩
            · skip
              have ea : a = 19 := by omega
              subst ea
              exact ⟨772, rfl, w_spoils h3 hi ht h K⟩
    · skip
      rcases Nat.lt_or_ge a 30 with q20_38 | q20_38
      · skip
        rcases Nat.lt_or_ge a 25 with q20_29 | q20_29
        · skip
          rcases Nat.lt_or_ge a 23 with q20_24 | q20_24
          · skip
            rcases Nat.lt_or_ge a 22 with q20_22 | q20_22
            · skip
              rcases Nat.lt_or_ge a 21 with q20_21 | q20_21
              · skip
                have ea : a = 20 := by omega
                subst ea
                exact ⟨805, rfl, w_price h3 hi ht h K⟩
              · skip
                have ea : a = 21 := by omega
                subst ea
                exact ⟨828, rfl, w_paper h3 hi ht h K⟩
            · skip
              have ea : a = 22 := by omega
              subst ea
              exact ⟨861, rfl, w_papers h3 hi ht h K⟩
          · skip
            rcases Nat.lt_or_ge a 24 with q23_24 | q23_24
            · skip
              have ea : a = 23 := by omega
              subst ea
              exact ⟨884, rfl, w_house h3 hi ht h K⟩
            · skip
              have ea : a = 24 := by omega
              subst ea
              exact ⟨907, rfl, w_drawn h3 hi ht h K⟩
        · skip
          rcases Nat.lt_or_ge a 28 with q25_29 | q25_29
          · skip
            rcases Nat.lt_or_ge a 27 with q25_27 | q25_27
            · skip
              rcases Nat.lt_or_ge a 26 with q25_26 | q25_26
              · skip
                have ea : a = 25 := by omega
                subst ea
                exact ⟨950, rfl, w_image h3 hi ht h K⟩
              · skip
                have ea : a = 26 := by omega
                subst ea
                exact ⟨963, rfl, w_back h3 hi ht h K⟩
            · skip
              have ea : a = 27 := by omega
              subst ea
              exact ⟨976, rfl, w_undo h3 hi ht h K⟩
          · skip
            rcases Nat.lt_or_ge a 29 with q28_29 | q28_29
            · skip
              have ea : a = 28 := by omega
              subst ea
              exact ⟨989, rfl, w_redo h3 hi ht h K⟩
            · skip
              have ea : a = 29 := by omega
              subst ea
              exact ⟨1002, rfl, w_body h3 hi ht h K⟩
      · skip
        rcases Nat.lt_or_ge a 35 with q30_38 | q30_38
        · skip
          rcases Nat.lt_or_ge a 33 with q30_34 | q30_34
          · skip
            rcases Nat.lt_or_ge a 32 with q30_32 | q30_32
            · skip
              rcases Nat.lt_or_ge a 31 with q30_31 | q30_31
              · skip
                have ea : a = 30 := by omega
                subst ea
                exact ⟨1025, rfl, w_act h3 hi ht h K⟩
              · skip
                have ea : a = 31 := by omega
                subst ea
                exact ⟨1068, rfl, w_trace h3 hi ht h K⟩
            · skip
              have ea : a = 32 := by omega
              subst ea
              exact ⟨1091, rfl, w_keep h3 hi ht h K⟩
          · skip
            rcases Nat.lt_or_ge a 34 with q33_34 | q33_34
            · skip
              have ea : a = 33 := by omega
              subst ea
              exact ⟨1124, rfl, w_row h3 hi ht h K⟩
            · skip
              have ea : a = 34 := by omega
              subst ea
              exact ⟨1167, rfl, w_put h3 hi ht h K⟩
        · skip
          rcases Nat.lt_or_ge a 37 with q35_38 | q35_38
          · skip
            rcases Nat.lt_or_ge a 36 with q35_36 | q35_36
            · skip
              have ea : a = 35 := by omega
              subst ea
              exact ⟨1240, rfl, w_element h3 hi ht h K⟩
            · skip
              have ea : a = 36 := by omega
              subst ea
              exact ⟨1274, rfl, w_shift h3 hi ht h K⟩
          · skip
            rcases Nat.lt_or_ge a 38 with q37_38 | q37_38
            · skip
              have ea : a = 37 := by omega
              subst ea
              exact ⟨1337, rfl, w_taken h3 hi ht h K⟩
            · skip
              have ea : a = 38 := by omega
              subst ea
              exact ⟨1370, rfl, w_count h3 hi ht h K⟩
  · exact ⟨1393, m_sw_out rfl (m_out (n := 38) (by decide) hw) rfl, w_nop ht h K⟩
theorem sub6 {n : Nat} (h : n ≤ 384) : (nI n - 6).toInt = (n : Int) - 6 := by
  rw [Int32.toInt_sub, nI_toInt (by omega), show (6 : Int32).toInt = 6 from rfl]
  exact Int.bmod_eq_of_le (by omega) (by omega)
set_option maxRecDepth 100000 in
theorem w_loop (h3 : sc.1 ≤ 384) : ∀ r i t x m P, i ≤ 390 → i + 6 * r ≥ sc.1 → 6 * t = i → Inv x m P → WL sc i t 18 x m P := by
  intro r
  induction r with
  | zero =>
    intro i t x m P hi hr ht h cells slots hc hs
    refine ⟨heap sc x m P, ?_⟩
    repeat (refine mw_step rfl ?_)
    refine mw_brT rfl ?_ ?_
    · show nI sc.1 - 6 < nI i
      rw [Int32.lt_iff_toInt_lt, sub6 h3, nI_toInt (by omega)]
      omega
    · repeat (refine mw_step rfl ?_)
      exact mw_r1 rfl rfl (by omega) (by omega) rfl rfl
  | succ r ih =>
    intro i t x m P hi hr ht h
    by_cases hx : i + 6 ≤ sc.1
    · have K : ∀ x m P, Inv x m P → WL sc (i + 6) (t + 1) 18 x m P := fun x m P hI => ih (i + 6) (t + 1) x m P (by omega) (by omega) (by omega) hI
      obtain ⟨pc, e, W⟩ := w_sw h3 hx (by omega) h K
      intro cells slots hc hs
      obtain ⟨hT, W⟩ := W cells slots hc hs
      refine ⟨hT, ?_⟩
      repeat (refine mw_step rfl ?_)
      refine mw_brF rfl ?_ ?_
      · show ¬ nI sc.1 - 6 < nI i
        rw [Int32.lt_iff_toInt_lt, sub6 h3, nI_toInt (by omega)]
        omega
      · repeat (refine mw_step rfl ?_)
        refine mw_ild rfl rfl (by omega) (by omega) ?_
        repeat (refine mw_step rfl ?_)
        refine mw_sw e ?_
        refine mw_pick [0, 1, 2, 3] rfl ?_
        exact W
    · intro cells slots hc hs
      refine ⟨heap sc x m P, ?_⟩
      repeat (refine mw_step rfl ?_)
      refine mw_brT rfl ?_ ?_
      · show nI sc.1 - 6 < nI i
        rw [Int32.lt_iff_toInt_lt, sub6 h3, nI_toInt (by omega)]
        omega
      · repeat (refine mw_step rfl ?_)
        exact mw_r1 rfl rfl (by omega) (by omega) rfl rfl
end LW
