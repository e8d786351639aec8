/-! methods standing: MW, and its rules -/
def MOk1 (M : MD) : Prop := ∀ q ∈ M.2.2.2.2.2, m_eok M.1 M.2.1 M.2.2.1 q = true
def MX (M : MD) (d mc ms : Nat) (p : Program) (R : Room) (s : State) (m : MethodId) (args : Array Value) (meth : Method) (c : Code) : Prop :=
  p.tables.exec = Jvm.exec ∧ c.code = M.2.1 ∧ c.maxLocals = M.2.2.1 ∧ s.vm.findClass M.1.cls = some m.cls ∧ (∀ w ∈ m_good, w.before args s = true) ∧ (∀ w ∈ m_nest, va_Nw w s) ∧ va_AO "ChairOld$Piece" s ∧ (M.1.name = "<init>" → meth.name = "<init>") ∧ d ≤ R.frames ∧ 40 * d ≤ R.locals ∧ mc ≤ R.cells ∧ ms ≤ R.slots
def m_isret (M : MD) (pc : Nat) (v : Option Value) : Prop := match M.2.2.2.1, v with
  | none, none => decode M.2.1 pc = .ok (.return_, 1)
  | some .int, some (.int _) => decode M.2.1 pc = .ok (.ireturn, 1)
  | some .boolean, some (.int x) => decode M.2.1 pc = .ok (.ireturn, 1) ∧ narrow .boolean (.int x) = .int x
  | some .long, some (.long _) => decode M.2.1 pc = .ok (.lreturn, 1)
  | some (.object _), some .null => decode M.2.1 pc = .ok (.areturn, 1)
  | some (.object _), some (.ref _) => decode M.2.1 pc = .ok (.areturn, 1)
  | _, _ => False
/-- addresses as at the entry, the first five cells too -/
def MA (α0 : Nat → Nat) (h0 : MH) (α : Nat → Nat) (h : MH) : Prop := (∀ i, i < h0.length → α i = α0 i) ∧ h0.length ≤ h.length ∧ ∀ i, i < 5 → h[i]? = h0[i]?
def MW (M : MD) (d mc ms : Nat) (v : Option Value) (hT : MH) (cells slots pc : Nat) (l : ML) (st : List Value) (h : MH) : Prop :=
  MOk1 M → ∀ (p : Program) (la : Launch) (e : Env) (R : Room) (s : State) (m : MethodId) (args : Array Value) (below : List Frame) (meth : Method) (c : Code) (A : Nat → Prop) (D : va_G) (cA : FieldType → ClassId) (Q : State → Prop) (α0 : Nat → Nat) (h0 : MH),
    MX M d mc ms p R s m args meth c →
    (∀ (α' : Nat → Nat) (H' : Heap) (locs' : List Loc) (pc' : Nat) (ls' : Array Slot), MR s A D cA α' hT H' locs' → MA α0 h0 α' hT → m_isret M pc' v → m_oks hT.length v.toList → W p la e R s m args below meth c H' locs' mc ms Q (F0 m pc' ls' (v.toList.map (m_tv α')))) →
    ∀ (α : Nat → Nat) (H : Heap) (locs : List Loc) (ls : Array Slot), MR s A D cA α h H locs → MA α0 h0 α h → lv_has ls M.2.2.1 (m_tl α l) → m_okl h.length l → m_oks h.length st →
      W p la e R s m args below meth c H locs cells slots Q (F0 m pc ls (st.map (m_tv α)))
def m_step (M : MD) (pc : Nat) (l : ML) (st : List Value) (h : MH) : Option (Nat × ML × List Value × MH) := match m_find pc M.2.2.2.2.2 with
  | some (ins, nx, a, k, _, _, w) => m_ins ins nx a k w l st h
  | none => none
section RU
variable {M : MD} {d mc ms : Nat} {v : Option Value} {hT : MH} {cells slots pc : Nat} {l : ML} {st : List Value} {h : MH}
theorem mw_step {pc' : Nat} {l' : ML} {st' : List Value} {h' : MH} (hs : m_step M pc l st h = some (pc', l', st', h')) (K : MW M d mc ms v hT cells slots pc' l' st' h') : MW M d mc ms v hT cells slots pc l st h := by
  intro hM p la e R s m args below meth c A D cA Q α0 h0 hX hret α H locs ls hR hA hl hol hos
  unfold m_step at hs
  split at hs
  · next ins nx a k pos y w hf =>
    obtain ⟨x1, x2, x3, x4, x5, x6, x7, x8, x9⟩ := id hX
    exact m_ins_ok x1 x2 x4 x5 x8 (hM _ (m_find_mem hf)) hs hR hl hol hos (fun H' locs' ls' hR' hl' hol' hos' hlen => K hM p la e R s m args below meth c A D cA Q α0 h0 hX hret α H' locs' ls' hR' ⟨hA.1, by rw [hlen.1]; exact hA.2.1, fun i hi => (hlen.2 i hi).trans (hA.2.2 i hi)⟩ hl' hol' hos')
  · cases hs
/-- the same, but not from place t on -/
theorem mw_to (t : Nat) {pc' : Nat} {l' : ML} {st' : List Value} {h' : MH} (_ : Nat.beq pc t = false) (hs : m_step M pc l st h = some (pc', l', st', h')) (K : MW M d mc ms v hT cells slots pc' l' st' h') : MW M d mc ms v hT cells slots pc l st h := mw_step hs K
theorem mw_pick (ks : List Nat) {l' : ML} (hk : m_pickK l ks (fun l1 => some l1) = some l') (K : MW M d mc ms v hT cells slots pc l' st h) : MW M d mc ms v hT cells slots pc l st h := by
  rw [m_pickK_eq] at hk
  cases hk
  intro hM p la e R s m args below meth c A D cA Q α0 h0 hX hret α H locs ls hR hA hl hol hos
  refine K hM p la e R s m args below meth c A D cA Q α0 h0 hX hret α H locs ls hR hA ⟨hl.1, hl.2.1, fun q hq => ?_⟩ (fun q hq => hol q (m_pick_mem hq)) hos
  obtain ⟨q', h1, rfl⟩ := List.mem_map.mp hq
  exact hl.2.2 _ (List.mem_map.mpr ⟨q', m_pick_mem h1, rfl⟩)
theorem mw_widen {k n : Nat} (h1 : cells ≤ k) (h2 : slots ≤ n) (K : MW M d mc ms v hT k n pc l st h) : MW M d mc ms v hT cells slots pc l st h := by
  intro hM p la e R s m args below meth c A D cA Q α0 h0 hX hret α H locs ls hR hA hl hol hos
  exact W.widen h1 h2 (K hM p la e R s m args below meth c A D cA Q α0 h0 hX hret α H locs ls hR hA hl hol hos)
def m_br (M : MD) (pc : Nat) (st : List Value) : Option (Prop × Nat × Nat × List Value) := match m_find pc M.2.2.2.2.2 with
  | some (.ifCond cd _, nx, a, _) => match st with
    | .int x :: r => match cd with
      | .eq => some (x = 0, a, nx, r)
      | .ne => some (x = 0, nx, a, r)
      | .lt => some (x < 0, a, nx, r)
      | .ge => some (x < 0, nx, a, r)
      | .gt => some (0 < x, a, nx, r)
      | .le => some (0 < x, nx, a, r)
    | _ => none
  | some (.if_icmp cd _, nx, a, _) => match st with
    | .int y :: .int x :: r => match cd with
      | .eq => some (x = y, a, nx, r)
      | .ne => some (x = y, nx, a, r)
      | .lt => some (x < y, a, nx, r)
      | .ge => some (x < y, nx, a, r)
      | .gt => some (y < x, a, nx, r)
      | .le => some (y < x, nx, a, r)
    | _ => none
  | _ => none
theorem m_nlt {x y : Int32} (h : x ≤ y) : ¬ y < x := by
  rw [Int32.lt_iff_toInt_lt]
  rw [Int32.le_iff_toInt_le] at h
  omega
theorem m_nle {x y : Int32} (h : ¬ x ≤ y) : y < x := by
  rw [Int32.lt_iff_toInt_lt]
  rw [Int32.le_iff_toInt_le] at h
  omega
theorem mw_br {cnd : Prop} {t f : Nat} {r : List Value} (hs : m_br M pc st = some (cnd, t, f, r)) (kt : cnd → MW M d mc ms v hT cells slots t l r h) (kf : ¬ cnd → MW M d mc ms v hT cells slots f l r h) : MW M d mc ms v hT cells slots pc l st h := by
  intro hM p la e R s m args below meth c A D cA Q α0 h0 hX hret α H locs ls hR hA hl hol hos
  obtain ⟨x1, x2, x3, x4, x5, x6, x7, x8, x9⟩ := id hX
  have KT := fun (z : cnd) (ho : m_oks h.length r) => kt z hM p la e R s m args below meth c A D cA Q α0 h0 hX hret α H locs ls hR hA hl hol ho
  have KF := fun (z : ¬ cnd) (ho : m_oks h.length r) => kf z hM p la e R s m args below meth c A D cA Q α0 h0 hX hret α H locs ls hR hA hl hol ho
  unfold m_br at hs
  split at hs
  · next cd off nx a rest hf =>
    obtain ⟨k, pos, y, w⟩ := rest
    obtain ⟨hd, hnx, hk⟩ := m_eok_spec (hM _ (m_find_mem hf))
    simp only [m_lok, decide_eq_true_eq] at hk
    simp only [m_len] at hd hnx
    split at hs
    · next x r2 =>
      have ho := m_oks_tail hos
      cases cd <;> cases hs
      · subst hnx; exact lv_if_eq x1 x2 hd hk (fun z => KT z ho) (fun z => KF z ho)
      · subst hnx; exact lv_if_ne x1 x2 hd hk (fun z => KF z ho) (fun z => KT z ho)
      · subst hnx; exact lv_if_lt x1 x2 hd hk (fun z => KT z ho) (fun z => KF z ho)
      · subst hnx; exact lv_if_ge x1 x2 hd hk (fun z => KF (m_nlt z) ho) (fun z => KT (m_nle z) ho)
      · subst hnx; exact lv_if_gt x1 x2 hd hk (fun z => KT z ho) (fun z => KF z ho)
      · subst hnx; exact lv_if_le x1 x2 hd hk (fun z => KF (m_nlt z) ho) (fun z => KT (m_nle z) ho)
    · cases hs
  · next cd off nx a rest hf =>
    obtain ⟨k, pos, y, w⟩ := rest
    obtain ⟨hd, hnx, hk⟩ := m_eok_spec (hM _ (m_find_mem hf))
    simp only [m_lok, decide_eq_true_eq] at hk
    simp only [m_len] at hd hnx
    split at hs
    · next y2 x r2 =>
      have ho := m_oks_tail (m_oks_tail hos)
      cases cd <;> cases hs
      · subst hnx; exact lv_icmp_eq x1 x2 hd hk (fun z => KT z ho) (fun z => KF z ho)
      · subst hnx; exact lv_icmp_ne x1 x2 hd hk (fun z => KF z ho) (fun z => KT z ho)
      · subst hnx; exact lv_icmp_lt x1 x2 hd hk (fun z => KT z ho) (fun z => KF z ho)
      · subst hnx; exact lv_icmp_ge x1 x2 hd hk (fun z => KF (m_nlt z) ho) (fun z => KT (m_nle z) ho)
      · subst hnx; exact lv_icmp_gt x1 x2 hd hk (fun z => KT z ho) (fun z => KF z ho)
      · subst hnx; exact lv_icmp_le x1 x2 hd hk (fun z => KF (m_nlt z) ho) (fun z => KT (m_nle z) ho)
    · cases hs
  · cases hs
theorem mw_brT {cnd : Prop} {t f : Nat} {r : List Value} (hs : m_br M pc st = some (cnd, t, f, r)) (hc : cnd) (kt : MW M d mc ms v hT cells slots t l r h) : MW M d mc ms v hT cells slots pc l st h := mw_br hs (fun _ => kt) (fun z => absurd hc z)
theorem mw_brF {cnd : Prop} {t f : Nat} {r : List Value} (hs : m_br M pc st = some (cnd, t, f, r)) (hc : ¬ cnd) (kf : MW M d mc ms v hT cells slots f l r h) : MW M d mc ms v hT cells slots pc l st h := mw_br hs (fun z => absurd z hc) (fun _ => kf)
/-- array loads: length, index, value, next place, rest -/
def m_ald (M : MD) (pc : Nat) (st : List Value) (h : MH) : Option (Nat × Int32 × Value × Nat × List Value) := match m_find pc M.2.2.2.2.2 with
  | some (.iaload, nx, _) => match st with
    | .int j :: .ref i :: r => match h[i]? with
      | some (.inl (_, n, .inl f)) => some (n, j, .int (f j.toNatClampNeg), nx, r)
      | _ => none
    | _ => none
  | some (.laload, nx, _) => match st with
    | .int j :: .ref i :: r => match h[i]? with
      | some (.inl (_, n, .inr (.inl f))) => bif Nat.ble 5 i then some (n, j, .long (f j.toNatClampNeg), nx, r) else none
      | _ => none
    | _ => none
  | some (.aaload, nx, _) => match st with
    | .int j :: .ref i :: r => match h[i]? with
      | some (.inl (_, n, .inr (.inr (.inr (.inr f))))) => bif Nat.ble 5 i then some (n, j, va_rf (f j.toNatClampNeg), nx, r) else none
      | _ => none
    | _ => none
  | _ => none
theorem m_cond {b : Bool} {α : Type} {x y : α} (h : (bif b then some x else none) = some y) : b = true ∧ x = y := by
  cases b with
  | false => cases h
  | true => exact ⟨rfl, Option.some.inj h⟩
theorem mw_ald {n nx : Nat} {j : Int32} {x : Value} {r : List Value} (hs : m_ald M pc st h = some (n, j, x, nx, r)) (hin : vp_in j n) (K : MW M d mc ms v hT cells slots nx l (x :: r) h) : MW M d mc ms v hT cells slots pc l st h := by
  intro hM p la e R s m args below meth c A D cA Q α0 h0 hX hret α H locs ls hR hA hl hol hos
  obtain ⟨x1, x2, x3, x4, x5, x6, x7, x8, x9⟩ := id hX
  have KK := fun (ho : m_oks h.length (x :: r)) => K hM p la e R s m args below meth c A D cA Q α0 h0 hX hret α H locs ls hR hA hl hol ho
  unfold m_ald at hs
  split at hs
  · next nx2 rest hf =>
    obtain ⟨a, k, pos, y, w⟩ := rest
    obtain ⟨hd, hnx, hk⟩ := m_eok_spec (hM _ (m_find_mem hf))
    simp only [m_len] at hd hnx
    split at hs
    · next j2 i r2 =>
      split at hs
      · next ty n2 f hi =>
        cases hs
        subst hnx
        have ho := m_oks_cons (m_ok_int h.length (f j.toNatClampNeg)) (m_oks_tail (m_oks_tail hos))
        by_cases h5 : 5 ≤ i
        · rcases hR.2.2.2.2.2.2.2 i _ hi with ⟨e1, -⟩ | ⟨-, f2, e2⟩ | ⟨-, f2, e2⟩
          · subst e1
            exact va_iald x1 x2 hR.1 hR.2.1 (i - 5) 0 (m_ws_get h5 hi) rfl hin hd (KK ho)
          · cases e2
          · cases e2
        · obtain ⟨n3, f3, h1, hT⟩ := hR.2.2.2.2.2.1.2.1 i (Nat.lt_of_not_le h5)
          rw [hi] at h1
          cases h1
          exact va_ti x1 x2 hT hR.2.2.2.1 hin rfl hd (KK ho)
      · cases hs
    · cases hs
  · next nx2 rest hf =>
    obtain ⟨a, k, pos, y, w⟩ := rest
    obtain ⟨hd, hnx, hk⟩ := m_eok_spec (hM _ (m_find_mem hf))
    simp only [m_len] at hd hnx
    split at hs
    · next j2 i r2 =>
      split at hs
      · next ty n2 f hi =>
        obtain ⟨h5, hs⟩ := m_cond hs
        cases hs
        subst hnx
        have h5 : 5 ≤ i := Nat.le_of_ble_eq_true h5
        have ho := m_oks_cons (m_ok_long h.length (f j.toNatClampNeg)) (m_oks_tail (m_oks_tail hos))
        rcases hR.2.2.2.2.2.2.2 i _ hi with ⟨-, f2, e2⟩ | ⟨e1, -⟩ | ⟨-, f2, e2⟩
        · cases e2
        · subst e1
          exact va_lald x1 x2 hR.1 hR.2.1 (i - 5) 1 (m_ws_get h5 hi) rfl hin hd (KK ho)
        · cases e2
      · cases hs
    · cases hs
  · next nx2 rest hf =>
    obtain ⟨a, k, pos, y, w⟩ := rest
    obtain ⟨hd, hnx, hk⟩ := m_eok_spec (hM _ (m_find_mem hf))
    simp only [m_len] at hd hnx
    split at hs
    · next j2 i r2 =>
      split at hs
      · next ty n2 f hi =>
        obtain ⟨h5, hs⟩ := m_cond hs
        cases hs
        subst hnx
        have h5 : 5 ≤ i := Nat.le_of_ble_eq_true h5
        have hov : m_okv h.length (va_rf (f j.toNatClampNeg)) := by
          cases hj : f j.toNatClampNeg with
          | none => exact m_ok_null _
          | some a => exact fun i2 e2 => by cases e2; exact hR.2.2.2.2.2.2.1 i _ hi f rfl _ _ hj
        have ho := m_oks_cons hov (m_oks_tail (m_oks_tail hos))
        have KK := KK ho
        have ev : m_tv α (va_rf (f j.toNatClampNeg)) = va_rf ((f j.toNatClampNeg).map α) := by cases f j.toNatClampNeg <;> rfl
        rw [List.map_cons, ev] at KK
        rcases hR.2.2.2.2.2.2.2 i _ hi with ⟨-, f2, e2⟩ | ⟨-, f2, e2⟩ | ⟨e1, -⟩
        · cases e2
        · cases e2
        · subst e1
          exact va_aldq x1 x2 hR.1 hR.2.1 (i - 5) 2 (m_ws_get h5 hi) rfl hin hd KK
      · cases hs
    · cases hs
  · cases hs
/-- array stores: length, index, new heap, next place, rest -/
def m_ast (M : MD) (pc : Nat) (st : List Value) (h : MH) : Option (Nat × Int32 × MH × Nat × List Value) := match m_find pc M.2.2.2.2.2 with
  | some (.iastore, nx, _) => match st with
    | .int x :: .int j :: .ref i :: r => match h[i]? with
      | some (.inl (ty, n, .inl f)) => bif Nat.ble 5 i then some (n, j, h.set i (.inl (ty, n, .inl (upd f j.toNatClampNeg x))), nx, r) else none
      | _ => none
    | _ => none
  | some (.lastore, nx, _) => match st with
    | .long x :: .int j :: .ref i :: r => match h[i]? with
      | some (.inl (ty, n, .inr (.inl f))) => bif Nat.ble 5 i then some (n, j, h.set i (.inl (ty, n, .inr (.inl (vp_updL f j.toNatClampNeg x)))), nx, r) else none
      | _ => none
    | _ => none
  | some (.aastore, nx, _) => match st with
    | .ref x :: .int j :: .ref i :: r => match h[i]?, h[x]? with
      | some (.inl (ty, n, .inr (.inr (.inr (.inr f))))), some (.inr (ci, _)) => bif Nat.ble 5 i && Nat.ble 5 x && Nat.beq ci 3 then some (n, j, h.set i (.inl (ty, n, .inr (.inr (.inr (.inr (va_up f j.toNatClampNeg (some x))))))), nx, r) else none
      | _, _ => none
    | _ => none
  | _ => none
theorem mw_ast {n nx : Nat} {j : Int32} {r : List Value} {h' : MH} (hs : m_ast M pc st h = some (n, j, h', nx, r)) (hin : vp_in j n) (K : MW M d mc ms v hT cells slots nx l r h') : MW M d mc ms v hT cells slots pc l st h := by
  intro hM p la e R s m args below meth c A D cA Q α0 h0 hX hret α H locs ls hR hA hl hol hos
  obtain ⟨x1, x2, x3, x4, x5, x6, x7, x8, x9⟩ := id hX
  have KK := fun (H1 : Heap) (locs1 : List Loc) (hlen : h'.length = h.length ∧ ∀ i, i < 5 → h'[i]? = h[i]?) (hR' : MR s A D cA α h' H1 locs1) (ho : m_oks h.length r) => K hM p la e R s m args below meth c A D cA Q α0 h0 hX hret α H1 locs1 ls hR' ⟨hA.1, by rw [hlen.1]; exact hA.2.1, fun i hi => (hlen.2 i hi).trans (hA.2.2 i hi)⟩ hl (by rw [hlen.1]; exact hol) (by rw [hlen.1]; exact ho)
  unfold m_ast at hs
  split at hs
  · next nx2 rest hf =>
    obtain ⟨a, k, pos, y, w⟩ := rest
    obtain ⟨hd, hnx, hk⟩ := m_eok_spec (hM _ (m_find_mem hf))
    simp only [m_len] at hd hnx
    split at hs
    · next x j2 i r2 =>
      split at hs
      · next ty n2 f hi =>
        obtain ⟨h5, hs⟩ := m_cond hs
        cases hs
        subst hnx
        have h5 : 5 ≤ i := Nat.le_of_ble_eq_true h5
        rcases hR.2.2.2.2.2.2.2 i _ hi with ⟨e1, -⟩ | ⟨-, f2, e2⟩ | ⟨-, f2, e2⟩
        · subst e1
          exact va_iast x1 x2 hR.1 hR.2.1 hR.2.2.1 hR.2.2.2.1 (i - 5) 0 (m_ws_get h5 hi) rfl hin hd (fun H1 locs1 q1 q2 q3 => KK H1 locs1 (m_set_same h5) (m_set_R hR h5 (fun f3 e3 => by cases e3) (Or.inl ⟨rfl, _, rfl⟩) q1 q2 q3) (m_oks_tail (m_oks_tail (m_oks_tail hos))))
        · cases e2
        · cases e2
      · cases hs
    · cases hs
  · next nx2 rest hf =>
    obtain ⟨a, k, pos, y, w⟩ := rest
    obtain ⟨hd, hnx, hk⟩ := m_eok_spec (hM _ (m_find_mem hf))
    simp only [m_len] at hd hnx
    split at hs
    · next x j2 i r2 =>
      split at hs
      · next ty n2 f hi =>
        obtain ⟨h5, hs⟩ := m_cond hs
        cases hs
        subst hnx
        have h5 : 5 ≤ i := Nat.le_of_ble_eq_true h5
        rcases hR.2.2.2.2.2.2.2 i _ hi with ⟨-, f2, e2⟩ | ⟨e1, -⟩ | ⟨-, f2, e2⟩
        · cases e2
        · subst e1
          exact va_last x1 x2 hR.1 hR.2.1 hR.2.2.1 hR.2.2.2.1 (i - 5) 1 (m_ws_get h5 hi) rfl hin hd (fun H1 locs1 q1 q2 q3 => KK H1 locs1 (m_set_same h5) (m_set_R hR h5 (fun f3 e3 => by cases e3) (Or.inr (Or.inl ⟨rfl, _, rfl⟩)) q1 q2 q3) (m_oks_tail (m_oks_tail (m_oks_tail hos))))
        · cases e2
      · cases hs
    · cases hs
  · next nx2 rest hf =>
    obtain ⟨a, k, pos, y, w⟩ := rest
    obtain ⟨hd, hnx, hk⟩ := m_eok_spec (hM _ (m_find_mem hf))
    simp only [m_len] at hd hnx
    split at hs
    · next x j2 i r2 =>
      split at hs
      · next ty n2 f ci fs hi hxx =>
        obtain ⟨h5, hs⟩ := m_cond hs
        cases hs
        subst hnx
        simp only [Bool.and_eq_true] at h5
        obtain ⟨⟨h5, h6⟩, h7⟩ := h5
        have h5 : 5 ≤ i := Nat.le_of_ble_eq_true h5
        have h6 : 5 ≤ x := Nat.le_of_ble_eq_true h6
        have h7 := Nat.eq_of_beq_eq_true h7
        subst h7
        have hfo := hR.2.2.2.2.2.2.1 i _ hi f rfl
        have hxo : x < h.length := (List.getElem?_eq_some_iff.mp hxx).1
        have eu : (fun z => (va_up f j.toNatClampNeg (some x) z).map α) = va_up (fun z => (f z).map α) j.toNatClampNeg (some (α x)) := by
          funext z
          simp only [va_up]
          split <;> rfl
        rcases hR.2.2.2.2.2.2.2 i _ hi with ⟨-, f2, e2⟩ | ⟨-, f2, e2⟩ | ⟨e1, -⟩
        · cases e2
        · cases e2
        · subst e1
          refine va_astq (r := ("ChairOld$Piece", m_T3, 6)) x1 x2 hR.1 hR.2.1 hR.2.2.1 hR.2.2.2.1 (i - 5) 2 (x - 5) 3 (m_ws_get h5 hi) rfl (m_ws_get h6 hxx) rfl hin hd (fun H1 locs1 q1 q2 q3 => KK H1 locs1 (m_set_same h5) (m_set_R hR h5 ?_ (Or.inr (Or.inr ⟨rfl, _, rfl⟩)) ?_ ?_ q3) (m_oks_tail (m_oks_tail (m_oks_tail hos))))
          · intro f3 e3 z2 z3 hz
            cases e3
            simp only [va_up] at hz
            split at hz
            · cases hz
              exact hxo
            · exact hfo z2 z3 hz
          · simp only [m_te, m_ta, eu]
            exact q1
          · simp only [m_te, m_ta, eu]
            exact q2
      · cases hs
    · cases hs
  · cases hs
def m_div (M : MD) (pc : Nat) (st : List Value) : Option (Prop × Value × Nat × List Value) := match m_find pc M.2.2.2.2.2 with
  | some (.idiv, nx, _) => match st with
    | .int y :: .int x :: r => some (y = 0, .int (x / y), nx, r)
    | _ => none
  | some (.irem, nx, _) => match st with
    | .int y :: .int x :: r => some (y = 0, .int (x - x / y * y), nx, r)
    | _ => none
  | some (.ldiv, nx, _) => match st with
    | .long y :: .long x :: r => some (y = 0, .long (x / y), nx, r)
    | _ => none
  | some (.lrem, nx, _) => match st with
    | .long y :: .long x :: r => some (y = 0, .long (x - x / y * y), nx, r)
    | _ => none
  | _ => none
theorem mw_div {cnd : Prop} {x : Value} {nx : Nat} {r : List Value} (hs : m_div M pc st = some (cnd, x, nx, r)) (hne : ¬ cnd) (K : MW M d mc ms v hT cells slots nx l (x :: r) h) : MW M d mc ms v hT cells slots pc l st h := by
  intro hM p la e R s m args below meth c A D cA Q α0 h0 hX hret α H locs ls hR hA hl hol hos
  obtain ⟨x1, x2, x3, x4, x5, x6, x7, x8, x9⟩ := id hX
  have KK := fun (ho : m_oks h.length (x :: r)) => K hM p la e R s m args below meth c A D cA Q α0 h0 hX hret α H locs ls hR hA hl hol ho
  unfold m_div at hs
  split at hs
  · next nx2 rest hf =>
    obtain ⟨a, k, pos, y, w⟩ := rest
    obtain ⟨hd, hnx, hk⟩ := m_eok_spec (hM _ (m_find_mem hf))
    simp only [m_len] at hd hnx
    split at hs
    · cases hs
      subst hnx
      exact lv_idiv x1 x2 hd hne (KK (m_oks_cons (m_ok_int _ _) (m_oks_tail (m_oks_tail hos))))
    · cases hs
  · next nx2 rest hf =>
    obtain ⟨a, k, pos, y, w⟩ := rest
    obtain ⟨hd, hnx, hk⟩ := m_eok_spec (hM _ (m_find_mem hf))
    simp only [m_len] at hd hnx
    split at hs
    · cases hs
      subst hnx
      exact lv_irem x1 x2 hd hne (KK (m_oks_cons (m_ok_int _ _) (m_oks_tail (m_oks_tail hos))))
    · cases hs
  · next nx2 rest hf =>
    obtain ⟨a, k, pos, y, w⟩ := rest
    obtain ⟨hd, hnx, hk⟩ := m_eok_spec (hM _ (m_find_mem hf))
    simp only [m_len] at hd hnx
    split at hs
    · cases hs
      subst hnx
      exact lv_ldiv x1 x2 hd hne (KK (m_oks_cons (m_ok_long _ _) (m_oks_tail (m_oks_tail hos))))
    · cases hs
  · next nx2 rest hf =>
    obtain ⟨a, k, pos, y, w⟩ := rest
    obtain ⟨hd, hnx, hk⟩ := m_eok_spec (hM _ (m_find_mem hf))
    simp only [m_len] at hd hnx
    split at hs
    · cases hs
      subst hnx
      exact lv_lrem x1 x2 hd hne (KK (m_oks_cons (m_ok_long _ _) (m_oks_tail (m_oks_tail hos))))
    · cases hs
  · cases hs
/-- where a switch goes -/
def m_sw (M : MD) (pc : Nat) (x : Int) : Option Int := match m_find pc M.2.2.2.2.2 with
  | some (.tableswitch dflt lo hi offs, _) => bif decide (x < lo) || decide (hi < x) then some ((pc : Int) + dflt) else (offs[(x - lo).toNat]?).map fun o => (pc : Int) + o
  | some (.lookupswitch dflt ps, _) => some ((pc : Int) + Op.lookupswitch.offset ps.toList dflt x)
  | _ => none
theorem mw_sw {x : Int32} {t : Nat} {r : List Value} (hs : m_sw M pc x.toInt = some (t : Int)) (K : MW M d mc ms v hT cells slots t l r h) : MW M d mc ms v hT cells slots pc l (.int x :: r) h := by
  intro hM p la e R s m args below meth c A D cA Q α0 h0 hX hret α H locs ls hR hA hl hol hos
  obtain ⟨x1, x2, x3, x4, x5, x6, x7, x8, x9⟩ := id hX
  have KK := K hM p la e R s m args below meth c A D cA Q α0 h0 hX hret α H locs ls hR hA hl hol (m_oks_tail hos)
  unfold m_sw at hs
  split at hs
  · next dflt lo hi offs rest hf =>
    obtain ⟨nx, a, k, pos, y, w⟩ := rest
    obtain ⟨hd, hnx, hk⟩ := m_eok_spec (hM _ (m_find_mem hf))
    cases hbb : (decide (x.toInt < lo) || decide (hi < x.toInt)) with
    | true =>
      rw [hbb] at hs
      simp only [Bool.or_eq_true, decide_eq_true_eq] at hbb
      exact lv_tableOut x1 x2 hd hbb (Option.some.inj hs) KK
    | false =>
      rw [hbb] at hs
      simp only [Bool.or_eq_false_iff, decide_eq_false_iff_not] at hbb
      cases ho : offs[(x.toInt - lo).toNat]? with
      | none =>
        rw [ho] at hs
        cases hs
      | some off =>
        rw [ho] at hs
        exact lv_tableIn x1 x2 hd hbb.1 hbb.2 ho (Option.some.inj hs) KK
  · next dflt ps rest hf =>
    obtain ⟨nx, a, k, pos, y, w⟩ := rest
    obtain ⟨hd, hnx, hk⟩ := m_eok_spec (hM _ (m_find_mem hf))
    exact lv_lookup x1 x2 hd hk rfl (Option.some.inj hs) KK
  · cases hs
/-- a return -/
def m_ret (M : MD) (pc : Nat) (v : Option Value) : Bool := match m_find pc M.2.2.2.2.2 with
  | some (.return_, _) => match M.2.2.2.1, v with
    | none, none => true
    | _, _ => false
  | some (.ireturn, _) => match M.2.2.2.1, v with
    | some .int, some (.int _) => true
    | some .boolean, some (.int _) => true
    | _, _ => false
  | some (.lreturn, _) => match M.2.2.2.1, v with
    | some .long, some (.long _) => true
    | _, _ => false
  | some (.areturn, _) => match M.2.2.2.1, v with
    | some (.object _), some .null => true
    | some (.object _), some (.ref _) => true
    | _, _ => false
  | _ => false
/-- a boolean's answer is 0 or 1 -/
def m_bool (M : MD) (v : Option Value) : Prop := match M.2.2.2.1, v with
  | some .boolean, some (.int x) => narrow .boolean (.int x) = .int x
  | _, _ => True
theorem m_ret_spec (hM : MOk1 M) (hr : m_ret M pc v = true) (hb : m_bool M v) : m_isret M pc v := by
  unfold m_ret at hr
  unfold m_isret
  unfold m_bool at hb
  split at hr
  · next rest hf =>
    obtain ⟨nx, a, k, pos, y, w⟩ := rest
    obtain ⟨hd, hnx, hk⟩ := m_eok_spec (hM _ (m_find_mem hf))
    split at hr
    · next e1 => rw [e1]; exact hd
    · cases hr
  · next rest hf =>
    obtain ⟨nx, a, k, pos, y, w⟩ := rest
    obtain ⟨hd, hnx, hk⟩ := m_eok_spec (hM _ (m_find_mem hf))
    split at hr
    · next e1 => rw [e1]; exact hd
    · next e1 => rw [e1] at hb ⊢; exact ⟨hd, hb⟩
    · cases hr
  · next rest hf =>
    obtain ⟨nx, a, k, pos, y, w⟩ := rest
    obtain ⟨hd, hnx, hk⟩ := m_eok_spec (hM _ (m_find_mem hf))
    split at hr
    · next e1 => rw [e1]; exact hd
    · cases hr
  · next rest hf =>
    obtain ⟨nx, a, k, pos, y, w⟩ := rest
    obtain ⟨hd, hnx, hk⟩ := m_eok_spec (hM _ (m_find_mem hf))
    split at hr
    · next e1 => rw [e1]; exact hd
    · next e1 => rw [e1]; exact hd
    · cases hr
  · cases hr
theorem mw_ret (hr : m_ret M pc v = true) (hb : m_bool M v) (hc : cells ≤ mc) (hs : slots ≤ ms) : MW M d mc ms v h cells slots pc l v.toList h := by
  intro hM p la e R s m args below meth c A D cA Q α0 h0 hX hret α H locs ls hR hA hl hol hos
  exact W.widen hc hs (hret α H locs pc ls hR hA (m_ret_spec hM hr hb) hos)
end RU
