/-! array rules with named indices; small number facts -/
def m_ldI (M : MD) (pc : Nat) (st : List Value) (h : MH) : Option (Nat × Int32 × (Nat → Int32) × Nat × List Value) := match m_find pc M.2.2.2.2.2 with
  | some (.iaload, nx, _) => match st with
    | .int j :: .ref i :: r => match h[i]? with
      | some (.inl (_, n, .inl f)) => some (n, j, f, nx, r)
      | _ => none
    | _ => none
  | _ => none
def m_ldL (M : MD) (pc : Nat) (st : List Value) (h : MH) : Option (Nat × Int32 × (Nat → Int64) × Nat × List Value) := match m_find pc M.2.2.2.2.2 with
  | some (.laload, nx, _) => match st with
    | .int j :: .ref i :: r => match h[i]? with
      | some (.inl (_, n, .inr (.inl f))) => bif Nat.ble 5 i then some (n, j, f, nx, r) else none
      | _ => none
    | _ => none
  | _ => none
section RW
variable {M : MD} {d mc ms : Nat} {v : Option Value} {hT : MH} {cells slots pc : Nat} {l : ML} {st : List Value} {h : MH}
theorem mw_ild {n nx i : Nat} {j : Int32} {f : Nat → Int32} {r : List Value} (hs : m_ldI M pc st h = some (n, j, f, nx, r)) (hj : j = nI i) (hi : i < n) (hn : n < 2 ^ 31) (K : MW M d mc ms v hT cells slots nx l (.int (f i) :: r) h) : MW M d mc ms v hT cells slots pc l st h := by
  refine mw_ald (n := n) (j := j) (x := .int (f j.toNatClampNeg)) (nx := nx) (r := r) ?_ (by rw [hj]; exact vp_in_nI hi hn) (by rw [hj, nI_clamp (by omega)]; exact K)
  unfold m_ldI at hs
  unfold m_ald
  split at hs
  · next nx2 rest hf =>
    rw [hf]
    split at hs
    · split at hs
      · next h1 =>
        cases hs
        simp only [h1]
      · cases hs
    · cases hs
  · cases hs
theorem mw_lld {n nx i : Nat} {j : Int32} {f : Nat → Int64} {r : List Value} (hs : m_ldL M pc st h = some (n, j, f, nx, r)) (hj : j = nI i) (hi : i < n) (hn : n < 2 ^ 31) (K : MW M d mc ms v hT cells slots nx l (.long (f i) :: r) h) : MW M d mc ms v hT cells slots pc l st h := by
  refine mw_ald (n := n) (j := j) (x := .long (f j.toNatClampNeg)) (nx := nx) (r := r) ?_ (by rw [hj]; exact vp_in_nI hi hn) (by rw [hj, nI_clamp (by omega)]; exact K)
  unfold m_ldL at hs
  unfold m_ald
  split at hs
  · next nx2 rest hf =>
    rw [hf]
    split at hs
    · split at hs
      · next h1 =>
        obtain ⟨b1, hs⟩ := m_cond hs
        cases hs
        simp only [h1, b1]
        rfl
      · cases hs
    · cases hs
  · cases hs
def m_stI (M : MD) (pc : Nat) (st : List Value) (h : MH) : Option (Nat × FieldType × Nat × Int32 × Int32 × (Nat → Int32) × Nat × List Value) := match m_find pc M.2.2.2.2.2 with
  | some (.iastore, nx, _) => match st with
    | .int x :: .int j :: .ref i :: r => match h[i]? with
      | some (.inl (ty, n, .inl f)) => bif Nat.ble 5 i then some (i, ty, n, j, x, f, nx, r) else none
      | _ => none
    | _ => none
  | _ => none
def m_stL (M : MD) (pc : Nat) (st : List Value) (h : MH) : Option (Nat × FieldType × Nat × Int32 × Int64 × (Nat → Int64) × Nat × List Value) := match m_find pc M.2.2.2.2.2 with
  | some (.lastore, nx, _) => match st with
    | .long x :: .int j :: .ref i :: r => match h[i]? with
      | some (.inl (ty, n, .inr (.inl f))) => bif Nat.ble 5 i then some (i, ty, n, j, x, f, nx, r) else none
      | _ => none
    | _ => none
  | _ => none
theorem mw_ist {a n nx i : Nat} {ty : FieldType} {j x : Int32} {f : Nat → Int32} {r : List Value} (hs : m_stI M pc st h = some (a, ty, n, j, x, f, nx, r)) (hj : j = nI i) (hi : i < n) (hn : n < 2 ^ 31) (K : MW M d mc ms v hT cells slots nx l r (h.set a (.inl (ty, n, .inl (upd f i x))))) : MW M d mc ms v hT cells slots pc l st h := by
  refine mw_ast (n := n) (j := j) (h' := h.set a (.inl (ty, n, .inl (upd f j.toNatClampNeg x)))) (nx := nx) (r := r) ?_ (by rw [hj]; exact vp_in_nI hi hn) (by rw [hj, nI_clamp (by omega)]; exact K)
  unfold m_stI at hs
  unfold m_ast
  split at hs
  · next nx2 rest hf =>
    rw [hf]
    split at hs
    · split at hs
      · next h1 =>
        obtain ⟨b1, hs⟩ := m_cond hs
        cases hs
        simp only [h1, b1]
        rfl
      · cases hs
    · cases hs
  · cases hs
theorem mw_lst {a n nx i : Nat} {ty : FieldType} {j : Int32} {x : Int64} {f : Nat → Int64} {r : List Value} (hs : m_stL M pc st h = some (a, ty, n, j, x, f, nx, r)) (hj : j = nI i) (hi : i < n) (hn : n < 2 ^ 31) (K : MW M d mc ms v hT cells slots nx l r (h.set a (.inl (ty, n, .inr (.inl (vp_updL f i x)))))) : MW M d mc ms v hT cells slots pc l st h := by
  refine mw_ast (n := n) (j := j) (h' := h.set a (.inl (ty, n, .inr (.inl (vp_updL f j.toNatClampNeg x))))) (nx := nx) (r := r) ?_ (by rw [hj]; exact vp_in_nI hi hn) (by rw [hj, nI_clamp (by omega)]; exact K)
  unfold m_stL at hs
  unfold m_ast
  split at hs
  · next nx2 rest hf =>
    rw [hf]
    split at hs
    · split at hs
      · next h1 =>
        obtain ⟨b1, hs⟩ := m_cond hs
        cases hs
        simp only [h1, b1]
        rfl
      · cases hs
    · cases hs
  · cases hs
end RW
theorem n_lt {a b : Nat} (h : a < b) (hb : b < 2 ^ 31) : nI a < nI b := nI_lt h hb
theorem n_nlt {a b : Nat} (h : b ≤ a) (ha : a < 2 ^ 31) : ¬ nI a < nI b := nI_nlt h ha
theorem lg_lt0 (x y : Int64) : lg_cmp x y < 0 ↔ x < y := by
  unfold lg_cmp
  by_cases h1 : y < x
  · rw [if_pos h1]
    constructor
    · intro z; exact absurd z (by decide)
    · intro z; rw [Int64.lt_iff_toInt_lt] at h1 z; omega
  · rw [if_neg h1]
    by_cases h2 : x = y
    · rw [if_pos h2]
      subst h2
      constructor
      · intro z; exact absurd z (by decide)
      · intro z; exact absurd z h1
    · rw [if_neg h2]
      constructor
      · intro _
        rw [Int64.lt_iff_toInt_lt] at h1 ⊢
        have : x.toInt ≠ y.toInt := fun e => h2 (Int64.toInt_inj.mp e)
        omega
      · intro _; decide
theorem lg_gt0 (x y : Int64) : 0 < lg_cmp x y ↔ y < x := by
  unfold lg_cmp
  by_cases h1 : y < x
  · rw [if_pos h1]
    exact ⟨fun _ => h1, fun _ => by decide⟩
  · rw [if_neg h1]
    by_cases h2 : x = y
    · rw [if_pos h2]
      exact ⟨fun z => absurd z (by decide), fun z => absurd z h1⟩
    · rw [if_neg h2]
      exact ⟨fun z => absurd z (by decide), fun z => absurd z h1⟩
theorem lg_eq0 (x y : Int64) : lg_cmp x y = 0 ↔ x = y := by
  unfold lg_cmp
  by_cases h1 : y < x
  · rw [if_pos h1]
    constructor
    · intro z; exact absurd z (by decide)
    · intro z; subst z; rw [Int64.lt_iff_toInt_lt] at h1; omega
  · rw [if_neg h1]
    by_cases h2 : x = y
    · rw [if_pos h2]; exact ⟨fun _ => h2, fun _ => rfl⟩
    · rw [if_neg h2]; exact ⟨fun z => absurd z (by decide), fun z => absurd z h2⟩
theorem c_withinO (h : MH) (x lo hi : Int64) : MC M_O_within 0 0 0 [.long x, .long lo, .long hi] h (some (.int (bI (lo ≤ x ∧ x ≤ hi)))) h := by
  refine mc_of k1_O_within k2_O_within (Nat.le_of_ble_eq_true rfl) ?_
  repeat (refine mw_step rfl ?_)
  refine mw_br rfl (fun h1 => ?_) (fun h1 => ?_)
  · repeat (refine mw_step rfl ?_)
    exact mw_r1 rfl rfl (Nat.le_refl _) (Nat.le_refl _) (by rw [bI_f]; intro z; rw [lg_lt0, Int64.lt_iff_toInt_lt] at h1; have := z.1; rw [Int64.le_iff_toInt_le] at this; omega) rfl
  · repeat (refine mw_step rfl ?_)
    refine mw_br rfl (fun h2 => ?_) (fun h2 => ?_)
    · repeat (refine mw_step rfl ?_)
      exact mw_r1 rfl rfl (Nat.le_refl _) (Nat.le_refl _) (by rw [bI_f]; intro z; rw [lg_gt0, Int64.lt_iff_toInt_lt] at h2; have := z.2; rw [Int64.le_iff_toInt_le] at this; omega) rfl
    · repeat (refine mw_step rfl ?_)
      exact mw_r1 rfl rfl (Nat.le_refl _) (Nat.le_refl _) (by rw [bI_t]; rw [lg_lt0] at h1; rw [lg_gt0] at h2; exact ⟨Int64.not_lt.mp h1, Int64.not_lt.mp h2⟩) rfl
