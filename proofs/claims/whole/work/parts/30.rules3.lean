/-! rules whose cells are told by hypotheses -/
section RX
variable {M : MD} {d mc ms : Nat} {v : Option Value} {hT : MH} {cells slots pc : Nat} {l : ML} {st : List Value} {h : MH}
def m_fld (M : MD) (pc : Nat) : Option (Nat × Nat × Nat) := match m_find pc M.2.2.2.2.2 with
  | some (.getfield _, nx, a, k, _) => some (a, k, nx)
  | _ => none
theorem mw_getf {a k nx i : Nat} {fs : List Value} {w : Value} (hs : m_fld M pc = some (a, k, nx)) (hi : h[i]? = some (.inr (a, fs))) (h5 : 5 ≤ i) (hw : fs[k]? = some w) (K : MW M d mc ms v hT cells slots nx l (w :: st) h) : MW M d mc ms v hT cells slots pc l (.ref i :: st) h := by
  refine mw_step (pc' := nx) (l' := l) (st' := w :: st) (h' := h) ?_ K
  unfold m_fld at hs
  unfold m_step
  split at hs
  · next idx nx2 a2 k2 rest hf =>
    obtain ⟨pos, y, z⟩ := rest
    rw [hf]
    cases hs
    simp only [m_ins, hi, hw, show Nat.beq a a = true from Nat.beq_refl a, Nat.ble_eq_true_of_le h5, Bool.and_self, cond_true]
  · cases hs
def m_pfld (M : MD) (pc : Nat) : Option (Nat × Nat × Value × Nat) := match m_find pc M.2.2.2.2.2 with
  | some (.putfield _, nx, a, k, _, _, w) => some (a, k, w, nx)
  | _ => none
theorem mw_putf {a k nx i : Nat} {fs : List Value} {w u : Value} (hs : m_pfld M pc = some (a, k, w, nx)) (hi : h[i]? = some (.inr (a, fs))) (h5 : 5 ≤ i) (hk : k < fs.length) (hw : m_fit w u = true) (K : MW M d mc ms v hT cells slots nx l st (h.set i (.inr (a, fs.set k u)))) : MW M d mc ms v hT cells slots pc l (u :: .ref i :: st) h := by
  refine mw_step (pc' := nx) (l' := l) (st' := st) (h' := h.set i (.inr (a, fs.set k u))) ?_ K
  unfold m_pfld at hs
  unfold m_step
  split at hs
  · next idx nx2 a2 k2 pos y z hf =>
    rw [hf]
    cases hs
    have hb : Nat.blt k fs.length = true := Nat.ble_eq_true_of_le hk
    simp only [m_ins, hi, hw, hb, show Nat.beq a a = true from Nat.beq_refl a, Nat.ble_eq_true_of_le h5, Bool.and_self, cond_true]
  · cases hs
def m_isld (M : MD) (pc : Nat) : Option Nat := match m_find pc M.2.2.2.2.2 with
  | some (.iaload, nx, _) => some nx
  | _ => none
theorem mw_ildP {nx i a n : Nat} {j : Int32} {ty : FieldType} {f : Nat → Int32} (hs : m_isld M pc = some nx) (ha : h[a]? = some (.inl (ty, n, .inl f))) (hj : j = nI i) (hi : i < n) (hn : n < 2 ^ 31) (K : MW M d mc ms v hT cells slots nx l (.int (f i) :: st) h) : MW M d mc ms v hT cells slots pc l (.int j :: .ref a :: st) h := by
  refine mw_ild (n := n) (j := j) (f := f) (nx := nx) (r := st) ?_ hj hi hn K
  unfold m_isld at hs
  unfold m_ldI
  split at hs
  · next nx2 rest hf =>
    rw [hf]
    cases hs
    simp only [ha]
  · cases hs
def m_isst (M : MD) (pc : Nat) : Option Nat := match m_find pc M.2.2.2.2.2 with
  | some (.iastore, nx, _) => some nx
  | _ => none
theorem mw_istP {nx i a n : Nat} {j x : Int32} {ty : FieldType} {f : Nat → Int32} (hs : m_isst M pc = some nx) (ha : h[a]? = some (.inl (ty, n, .inl f))) (h5 : 5 ≤ a) (hj : j = nI i) (hi : i < n) (hn : n < 2 ^ 31) (K : MW M d mc ms v hT cells slots nx l st (h.set a (.inl (ty, n, .inl (upd f i x))))) : MW M d mc ms v hT cells slots pc l (.int x :: .int j :: .ref a :: st) h := by
  refine mw_ist (a := a) (ty := ty) (n := n) (j := j) (x := x) (f := f) (nx := nx) (r := st) ?_ hj hi hn K
  unfold m_isst at hs
  unfold m_stI
  split at hs
  · next nx2 rest hf =>
    rw [hf]
    cases hs
    simp only [ha, Nat.ble_eq_true_of_le h5, cond_true]
  · cases hs
def m_isal (M : MD) (pc : Nat) : Option Nat := match m_find pc M.2.2.2.2.2 with
  | some (.arraylength, nx, _) => some nx
  | _ => none
theorem mw_alenP {nx a n : Nat} {ty : FieldType} {u : (Nat → Int32) ⊕ (Nat → Int64) ⊕ (Nat → UInt32) ⊕ (Nat → UInt64) ⊕ (Nat → Option Nat)} (hs : m_isal M pc = some nx) (ha : h[a]? = some (.inl (ty, n, u))) (K : MW M d mc ms v hT cells slots nx l (.int (nI n) :: st) h) : MW M d mc ms v hT cells slots pc l (.ref a :: st) h := by
  refine mw_step (pc' := nx) (l' := l) (st' := .int (nI n) :: st) (h' := h) ?_ K
  unfold m_isal at hs
  unfold m_step
  split at hs
  · next nx2 rest hf =>
    obtain ⟨a2, k2, pos, y, z⟩ := rest
    rw [hf]
    cases hs
    simp only [m_ins, ha]
    rfl
  · cases hs
def m_isV (M : MD) (pc : Nat) : Bool := match m_find pc M.2.2.2.2.2 with
  | some (.invokevirtual _, _) => true
  | _ => false
/-- a call whose receiver's cell is told by a hypothesis -/
theorem mw_callP {M' : MD} {d' mc' ms' nx i ci : Nat} {As r : List Value} {fs : List Value} {w : Option Value} {h' : MH}
    (hC : MC M' d' mc' ms' (.ref i :: As) h w h') (hs : m_inv M pc st = some (M'.1, .ref i :: As, nx, r)) (hv : m_isV M pc = true) (hi : h[i]? = some (.inr (ci, fs))) (h5 : 5 ≤ i) (hk : (Nat.beq M'.2.2.2.2.1.1 1 && Nat.beq As.length M'.2.2.2.2.1.2.1 && Nat.beq ci M'.2.2.2.2.1.2.2) = true) (hd : d' + 1 ≤ d) (hc : cells + mc' ≤ mc) (hsl : slots + ms' ≤ ms)
    (K : MW M d mc ms v hT (cells + mc') (slots + ms') nx l (w.toList ++ r) h') : MW M d mc ms v hT cells slots pc l st h := by
  refine mw_call hC hs ?_ hd hc hsl K
  unfold m_isV at hv
  unfold m_kok
  split at hv
  · next idx rest hf =>
    rw [hf]
    simp only [hi, hk, Nat.ble_eq_true_of_le h5, Bool.and_self]
  · cases hv
end RX
