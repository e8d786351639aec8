/-! the M machine: cells, values, worlds -/
abbrev MCell : Type := (FieldType × vp_A) ⊕ (Nat × List Value)
abbrev MH : Type := List MCell
abbrev ML : Type := List (Nat × Value)
abbrev ME : Type := Instr × Nat × Nat × Nat × Nat × MethodName × Value
abbrev MD : Type := MethodName × ByteArray × Nat × Option FieldType × (Nat × Nat × Nat) × List (Nat × ME)
def m_tv (α : Nat → Nat) : Value → Value
  | .ref i => .ref (α i)
  | .int x => .int x
  | .long x => .long x
  | .float x => .float x
  | .double x => .double x
  | .null => .null
  | .retAddr x => .retAddr x
def m_ta (α : Nat → Nat) (a : vp_A) : vp_A := (a.1, match a.2 with
  | .inl f => .inl f
  | .inr (.inl f) => .inr (.inl f)
  | .inr (.inr (.inl f)) => .inr (.inr (.inl f))
  | .inr (.inr (.inr (.inl f))) => .inr (.inr (.inr (.inl f)))
  | .inr (.inr (.inr (.inr f))) => .inr (.inr (.inr (.inr fun j => (f j).map α))))
def m_te (α : Nat → Nat) (cA : FieldType → ClassId) (c : MCell) : va_E := match c with
  | .inl q => .inl (cA q.1, m_ta α q.2)
  | .inr o => .inr (o.1, o.2.map (m_tv α))
def m_tw (α : Nat → Nat) (cA : FieldType → ClassId) : Nat → MH → va_W
  | _, [] => []
  | i, c :: h => (α i, m_te α cA c) :: m_tw α cA (i + 1) h
def m_ws (α : Nat → Nat) (cA : FieldType → ClassId) (h : MH) : va_W := m_tw α cA 5 (h.drop 5)
def m_tl (α : Nat → Nat) (l : ML) : ML := l.map (fun q => (q.1, m_tv α q.2))
def m_okv (n : Nat) (v : Value) : Prop := ∀ i : Nat, v = .ref i → i < n
def m_oka (n : Nat) (a : vp_A) : Prop := ∀ f : Nat → Option Nat, a.2 = .inr (.inr (.inr (.inr f))) → ∀ j i : Nat, f j = some i → i < n
def m_okc (n : Nat) (c : MCell) : Prop := match c with
  | .inl q => m_oka n q.2
  | .inr o => ∀ v ∈ o.2, m_okv n v
def m_okh (h : MH) : Prop := ∀ (k : Nat) (c : MCell), h[k]? = some c → m_okc h.length c
def m_oks (n : Nat) (st : List Value) : Prop := ∀ v ∈ st, m_okv n v
def m_okl (n : Nat) (l : ML) : Prop := ∀ q ∈ l, m_okv n q.2
theorem m_tv_cat (α : Nat → Nat) (v : Value) : (m_tv α v).category = v.category := by cases v <;> rfl
theorem m_tw_len (α : Nat → Nat) (cA : FieldType → ClassId) : ∀ (h : MH) (i : Nat), (m_tw α cA i h).length = h.length
  | [], _ => rfl
  | _ :: h, i => by simp [m_tw, m_tw_len α cA h (i + 1)]
theorem m_tw_get (α : Nat → Nat) (cA : FieldType → ClassId) : ∀ (h : MH) (i k : Nat), (m_tw α cA i h)[k]? = (h[k]?).map fun c => (α (i + k), m_te α cA c)
  | [], i, k => by simp [m_tw]
  | c :: h, i, 0 => by simp [m_tw]
  | c :: h, i, k + 1 => by
    simp only [m_tw, List.getElem?_cons_succ, m_tw_get α cA h (i + 1) k]
    rw [show i + 1 + k = i + (k + 1) by omega]
theorem m_tw_set (α : Nat → Nat) (cA : FieldType → ClassId) (c : MCell) : ∀ (h : MH) (i k : Nat), m_tw α cA i (h.set k c) = (m_tw α cA i h).set k (α (i + k), m_te α cA c)
  | [], i, k => by simp [m_tw]
  | d :: h, i, 0 => by simp [m_tw]
  | d :: h, i, k + 1 => by
    simp only [m_tw, List.set_cons_succ, m_tw_set α cA c h (i + 1) k]
    rw [show i + 1 + k = i + (k + 1) by omega]
theorem m_tw_app (α : Nat → Nat) (cA : FieldType → ClassId) (c : MCell) : ∀ (h : MH) (i : Nat), m_tw α cA i (h ++ [c]) = m_tw α cA i h ++ [(α (i + h.length), m_te α cA c)]
  | [], i => by simp [m_tw]
  | d :: h, i => by
    simp only [m_tw, List.cons_append, m_tw_app α cA c h (i + 1), List.length_cons]
    rw [show i + 1 + h.length = i + (h.length + 1) by omega]
theorem m_ws_get {α : Nat → Nat} {cA : FieldType → ClassId} {h : MH} {k : Nat} {c : MCell} (hk : 5 ≤ k) (hc : h[k]? = some c) : (m_ws α cA h)[k - 5]? = some (α k, m_te α cA c) := by
  unfold m_ws
  rw [m_tw_get, List.getElem?_drop, show 5 + (k - 5) = k by omega, hc]
  rfl
theorem m_ws_set {α : Nat → Nat} {cA : FieldType → ClassId} {h : MH} {k : Nat} {c : MCell} (hk : 5 ≤ k) : m_ws α cA (h.set k c) = (m_ws α cA h).set (k - 5) (α k, m_te α cA c) := by
  unfold m_ws
  rw [List.drop_set, if_neg (by omega), m_tw_set, show 5 + (k - 5) = k by omega]
theorem m_ws_app {α : Nat → Nat} {cA : FieldType → ClassId} {h : MH} {c : MCell} (hk : 5 ≤ h.length) : m_ws α cA (h ++ [c]) = m_ws α cA h ++ [(α h.length, m_te α cA c)] := by
  unfold m_ws
  rw [List.drop_append_of_le_length hk, m_tw_app, List.length_drop, show 5 + (h.length - 5) = h.length by omega]
theorem m_okv_mono {n n' : Nat} (h : n ≤ n') {v : Value} (hv : m_okv n v) : m_okv n' v := fun i e => Nat.lt_of_lt_of_le (hv i e) h
theorem m_okc_mono {n n' : Nat} (h : n ≤ n') {c : MCell} (hc : m_okc n c) : m_okc n' c := by
  cases c with
  | inl q => exact fun f e j i hi => Nat.lt_of_lt_of_le (hc f e j i hi) h
  | inr o => exact fun v hv => m_okv_mono h (hc v hv)
theorem m_tv_congr {α α' : Nat → Nat} {n : Nat} (ha : ∀ i, i < n → α' i = α i) {v : Value} (hv : m_okv n v) : m_tv α' v = m_tv α v := by
  cases v with
  | ref i => simp only [m_tv]; rw [ha i (hv i rfl)]
  | _ => rfl
theorem m_ta_congr {α α' : Nat → Nat} {n : Nat} (ha : ∀ i, i < n → α' i = α i) {a : vp_A} (hv : m_oka n a) : m_ta α' a = m_ta α a := by
  obtain ⟨k, x⟩ := a
  rcases x with f | f | f | f | f
  · rfl
  · rfl
  · rfl
  · rfl
  · have e : (fun j => (f j).map α') = fun j => (f j).map α := by
      funext j
      cases hj : f j with
      | none => rfl
      | some i => simp only [Option.map_some]; rw [ha i (hv f rfl j i hj)]
    simp only [m_ta, e]
theorem m_te_congr {α α' : Nat → Nat} {cA : FieldType → ClassId} {n : Nat} (ha : ∀ i, i < n → α' i = α i) {c : MCell} (hv : m_okc n c) : m_te α' cA c = m_te α cA c := by
  cases c with
  | inl q => simp only [m_te, m_ta_congr ha (a := q.2) hv]
  | inr o =>
    simp only [m_te]
    rw [show o.2.map (m_tv α') = o.2.map (m_tv α) from List.map_congr_left fun v h => m_tv_congr ha (hv v h)]
theorem m_tw_congr {α α' : Nat → Nat} {cA : FieldType → ClassId} {n : Nat} (ha : ∀ i, i < n → α' i = α i) : ∀ (h : MH) (i : Nat), i + h.length ≤ n → (∀ c ∈ h, m_okc n c) → m_tw α' cA i h = m_tw α cA i h
  | [], _, _, _ => rfl
  | c :: h, i, hn, hc => by
    simp only [m_tw, List.length_cons] at hn ⊢
    rw [m_tw_congr ha h (i + 1) (by omega) (fun c hm => hc c (List.mem_cons_of_mem _ hm)), m_te_congr ha (hc c List.mem_cons_self), ha i (by omega)]
theorem m_ws_congr {α α' : Nat → Nat} {cA : FieldType → ClassId} {h : MH} (ha : ∀ i, i < h.length → α' i = α i) (h5 : 5 ≤ h.length) (ho : m_okh h) : m_ws α' cA h = m_ws α cA h := by
  refine m_tw_congr ha _ 5 (by simp; omega) (fun c hc => ?_)
  obtain ⟨k, hk⟩ := List.getElem?_of_mem (List.mem_of_mem_drop hc)
  exact ho k c hk
theorem m_stack_congr {α α' : Nat → Nat} {n : Nat} (ha : ∀ i, i < n → α' i = α i) {st : List Value} (hs : m_oks n st) : st.map (m_tv α') = st.map (m_tv α) := List.map_congr_left fun v h => m_tv_congr ha (hs v h)
theorem m_tl_congr {α α' : Nat → Nat} {n : Nat} (ha : ∀ i, i < n → α' i = α i) {l : ML} (hs : m_okl n l) : m_tl α' l = m_tl α l := List.map_congr_left fun q h => by rw [m_tv_congr ha (hs q h)]
theorem m_okh_set {h : MH} (ho : m_okh h) {k : Nat} {c : MCell} (hc : m_okc h.length c) : m_okh (h.set k c) := by
  intro j d hj
  rw [List.length_set]
  by_cases e : k = j
  · subst e
    by_cases hl : k < h.length
    · rw [List.getElem?_set_self hl] at hj
      cases hj
      exact hc
    · rw [List.set_eq_of_length_le (by omega)] at hj
      exact ho _ _ hj
  · rw [List.getElem?_set_ne e] at hj
    exact ho j d hj
theorem m_okh_app {h : MH} (ho : m_okh h) {c : MCell} (hc : m_okc (h.length + 1) c) : m_okh (h ++ [c]) := by
  intro j d hj
  rw [List.length_append, List.length_singleton]
  by_cases e : j < h.length
  · rw [List.getElem?_append_left e] at hj
    exact m_okc_mono (Nat.le_succ _) (ho j d hj)
  · rw [List.getElem?_append_right (by omega)] at hj
    have hz : j - h.length < 1 := (List.getElem?_eq_some_iff.mp hj).1
    rw [show j - h.length = 0 by omega] at hj
    cases hj
    exact hc
def m_get (i : Nat) : ML → Option Value
  | [] => none
  | (j, v) :: r => bif Nat.beq j i then some v else m_get i r
theorem m_get_mem {i : Nat} {v : Value} : ∀ {l : ML}, m_get i l = some v → (i, v) ∈ l
  | [], h => by cases h
  | (j, w) :: r, h => by
    simp only [m_get] at h
    cases e : Nat.beq j i with
    | true =>
      rw [e] at h
      cases h
      rw [Nat.eq_of_beq_eq_true e]
      exact List.mem_cons_self
    | false =>
      rw [e] at h
      exact List.mem_cons_of_mem _ (m_get_mem h)
theorem m_get_at {α : Nat → Nat} {i nL : Nat} {v : Value} {l : ML} {ls : Array Slot} (hl : lv_has ls nL (m_tl α l)) (h : m_get i l = some v) : ls[i]? = some (.val (m_tv α v)) :=
  hl.2.2 (i, m_tv α v) (List.mem_map.mpr ⟨(i, v), m_get_mem h, rfl⟩)
theorem m_get_ok {n i : Nat} {v : Value} {l : ML} (hl : m_okl n l) (h : m_get i l = some v) : m_okv n v := hl (i, v) (m_get_mem h)
def m_set1 (i : Nat) (v : Value) (l : ML) : ML := (i, v) :: l.filter (fun q => !(q.1 == i) && !(q.1 + 1 == i && q.2.category == 2))
def m_set2 (i : Nat) (v : Value) (l : ML) : ML := (i, v) :: l.filter (fun q => !(q.1 == i) && (!(q.1 == i + 1) && !(q.1 + 1 == i && q.2.category == 2)))
theorem m_tl_filter (α : Nat → Nat) (P : Nat → Nat → Bool) (l : ML) : (m_tl α l).filter (fun q => P q.1 q.2.category) = m_tl α (l.filter (fun q => P q.1 q.2.category)) := by
  unfold m_tl
  rw [List.filter_map]
  congr 1
  apply List.filter_congr
  intro q _
  simp only [Function.comp, m_tv_cat]
theorem m_tl_set1 (α : Nat → Nat) (i : Nat) (v : Value) (l : ML) : (i, m_tv α v) :: (m_tl α l).filter (fun q => !(q.1 == i) && !(q.1 + 1 == i && q.2.category == 2)) = m_tl α (m_set1 i v l) := by
  rw [m_tl_filter α (fun a b => !(a == i) && !(a + 1 == i && b == 2))]
  rfl
theorem m_tl_set2 (α : Nat → Nat) (i : Nat) (v : Value) (l : ML) : (i, m_tv α v) :: (m_tl α l).filter (fun q => !(q.1 == i) && (!(q.1 == i + 1) && !(q.1 + 1 == i && q.2.category == 2))) = m_tl α (m_set2 i v l) := by
  rw [m_tl_filter α (fun a b => !(a == i) && (!(a == i + 1) && !(a + 1 == i && b == 2)))]
  rfl
theorem m_okl_set1 {n i : Nat} {v : Value} {l : ML} (hl : m_okl n l) (hv : m_okv n v) : m_okl n (m_set1 i v l) := by
  intro q hq
  rcases List.mem_cons.mp hq with rfl | hq
  · exact hv
  · exact hl q (List.mem_filter.mp hq).1
theorem m_okl_set2 {n i : Nat} {v : Value} {l : ML} (hl : m_okl n l) (hv : m_okv n v) : m_okl n (m_set2 i v l) := by
  intro q hq
  rcases List.mem_cons.mp hq with rfl | hq
  · exact hv
  · exact hl q (List.mem_filter.mp hq).1
theorem m_ok_int (n : Nat) (x : Int32) : m_okv n (.int x) := fun _ e => by cases e
theorem m_ok_long (n : Nat) (x : Int64) : m_okv n (.long x) := fun _ e => by cases e
theorem m_ok_null (n : Nat) : m_okv n .null := fun _ e => by cases e
theorem m_oks_nil (n : Nat) : m_oks n [] := fun _ h => by cases h
theorem m_oks_cons {n : Nat} {v : Value} {st : List Value} (hv : m_okv n v) (hs : m_oks n st) : m_oks n (v :: st) := fun w hw => by
  rcases List.mem_cons.mp hw with rfl | h
  · exact hv
  · exact hs w h
theorem m_oks_tail {n : Nat} {v : Value} {st : List Value} (hs : m_oks n (v :: st)) : m_oks n st := fun w hw => hs w (List.mem_cons_of_mem _ hw)
theorem m_oks_head {n : Nat} {v : Value} {st : List Value} (hs : m_oks n (v :: st)) : m_okv n v := hs v List.mem_cons_self
/-- locals by their numbers -/
def m_pick (l : ML) : List Nat → ML
  | [] => []
  | i :: r => match m_get i l with
    | some v => (i, v) :: m_pick l r
    | none => m_pick l r
theorem m_pick_mem {l : ML} : ∀ {ks : List Nat} {q : Nat × Value}, q ∈ m_pick l ks → q ∈ l
  | [], q, h => by cases h
  | i :: r, q, h => by
    simp only [m_pick] at h
    cases e : m_get i l with
    | none =>
      rw [e] at h
      exact m_pick_mem h
    | some v =>
      rw [e] at h
      rcases List.mem_cons.mp h with rfl | h
      · exact m_get_mem e
      · exact m_pick_mem h
