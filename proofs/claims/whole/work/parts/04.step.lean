/-! entries: what is checked of them, what a plain one does -/
def m_find (pc : Nat) : List (Nat × ME) → Option ME
  | [] => none
  | (k, e) :: r => bif Nat.beq k pc then some e else m_find pc r
theorem m_find_mem {pc : Nat} {e : ME} : ∀ {l : List (Nat × ME)}, m_find pc l = some e → (pc, e) ∈ l
  | [], h => by cases h
  | (j, w) :: r, h => by
    simp only [m_find] at h
    cases e : Nat.beq j pc with
    | true =>
      rw [e] at h
      cases h
      rw [Nat.eq_of_beq_eq_true e]
      exact List.mem_cons_self
    | false =>
      rw [e] at h
      exact List.mem_cons_of_mem _ (m_find_mem h)
def m_len (ins : Instr) (a : Nat) : Nat := match ins with
  | .tableswitch .. => a
  | .lookupswitch .. => a
  | .bipush _ => 2
  | .iload _ => 2
  | .lload _ => 2
  | .aload _ => 2
  | .istore _ => 2
  | .lstore _ => 2
  | .astore _ => 2
  | .ldc _ => 2
  | .newarray _ => 2
  | .sipush _ => 3
  | .ldc_w _ => 3
  | .ldc2_w _ => 3
  | .iinc _ _ => 3
  | .goto _ => 3
  | .ifCond _ _ => 3
  | .if_icmp _ _ => 3
  | .ifnull _ => 3
  | .ifnonnull _ => 3
  | .getfield _ => 3
  | .putfield _ => 3
  | .getstatic _ => 3
  | .invokestatic _ => 3
  | .invokevirtual _ => 3
  | .invokespecial _ => 3
  | .new _ => 3
  | .anewarray _ => 3
  | _ => 1
def m_wd (pos : Nat) (w : Cond) : Bool := decide (lw_tbl[pos]? = some w) && goodWord w
def m_wn (pos : Nat) (w : Cond) : Bool := decide (lw_tbl[pos]? = some w) && m_isNest w
def m_isInt (w : Value) : Bool := match w with
  | .int _ => true
  | _ => false
def m_isLong (w : Value) : Bool := match w with
  | .long _ => true
  | _ => false
/-- the kind of value that a field of this type takes, by a sample -/
def m_kind (ty : FieldType) (w : Value) : Bool := match ty, w with
  | .int, .int x => x == 0
  | .boolean, .int x => x == 1
  | .long, .long _ => true
  | .object _, .null => true
  | .array _, .null => true
  | _, _ => false
def m_lok (y0 : MethodName) (maxL pc : Nat) (ins : Instr) (a k pos : Nat) (y : MethodName) (w : Value) : Bool := match ins with
  | .iconst n => decide (Value.int (Int32.ofInt n) = w)
  | .bipush n => decide (Value.int (Int8.ofInt n).toInt32 = w)
  | .sipush n => decide (Value.int (Int16.ofInt n).toInt32 = w)
  | .lconst n => decide (Value.long (Int64.ofNat (n : Nat)) = w)
  | .ldc i => match w with
    | .int x => m_wd pos (.constant y0.cls i x)
    | _ => false
  | .ldc_w i => match w with
    | .int x => m_wd pos (.constant y0.cls i x)
    | _ => false
  | .ldc2_w i => match w with
    | .long x => m_wd pos (.constantLong y0.cls i x)
    | _ => false
  | .iload i => a == i
  | .lload i => a == i
  | .aload i => a == i
  | .iload_n i => a == (i : Nat)
  | .lload_n i => a == (i : Nat)
  | .aload_n i => a == (i : Nat)
  | .istore i => a == i && decide (a < maxL)
  | .astore i => a == i && decide (a < maxL)
  | .lstore i => a == i && decide (a + 1 < maxL)
  | .istore_n i => a == (i : Nat) && decide (a < maxL)
  | .astore_n i => a == (i : Nat) && decide (a < maxL)
  | .lstore_n i => a == (i : Nat) && decide (a + 1 < maxL)
  | .iinc i n => a == i && decide (a < maxL) && decide (Value.int (Int32.ofInt n) = w)
  | .goto off => decide ((pc : Int) + off = (a : Int))
  | .ifCond _ off => decide ((pc : Int) + off = (a : Int))
  | .if_icmp _ off => decide ((pc : Int) + off = (a : Int))
  | .ifnull off => decide ((pc : Int) + off = (a : Int))
  | .ifnonnull off => decide ((pc : Int) + off = (a : Int))
  | .getfield i => match m_cls[a]? with
    | some (_, T, N) => decide (k < N) && m_wd pos (.fieldLink y0.cls i (T k).1 (T k).2.1 (T k).2.2.1)
    | none => false
  | .putfield i => match m_cls[a]? with
    | some (_, T, N) => decide (k < N) && m_wd pos (.fieldLink y0.cls i (T k).1 (T k).2.1 (T k).2.2.1) && m_kind (m_ty0 T k) w && ((T k).2.2.2 == false || (y0.name == "<init>" && (T k).1 == y0.cls))
    | none => false
  | .getstatic i => match m_stat[a]? with
    | some (C, n, d) => m_wd pos (.fieldLink y0.cls i C n d)
    | none => false
  | .new i => match m_cls[a]? with
    | some (C, _, _) => m_wd pos (.classLink y0.cls i C)
    | none => false
  | .anewarray i => m_wd pos (.classLink y0.cls i "ChairOld$Piece")
  | .invokestatic i => bif k == 0 then m_wd pos (.methodLink y0.cls i y) else m_wn pos (.methodLinkNest y0.cls i y "ChairOld")
  | .invokevirtual i => m_wd pos (.methodLink y0.cls i y)
  | .invokespecial i => bif k == 0 then m_wd pos (.methodLink y0.cls i y) else m_wn pos (.methodLinkNest y0.cls i y "ChairOld")
  | .lookupswitch _ ps => (ps.toList.zip (ps.toList.drop 1)).all (fun (a, next) => a.1 < next.1)
  | _ => true
def m_eok (y0 : MethodName) (b : ByteArray) (maxL : Nat) (q : Nat × ME) : Bool := match q with
  | (pc, ins, nx, a, k, pos, y, w) => decide (decode b pc = .ok (ins, m_len ins a)) && (nx == pc + m_len ins a) && m_lok y0 maxL pc ins a k pos y w
theorem m_eok_spec {y0 : MethodName} {b : ByteArray} {maxL pc nx a k pos : Nat} {ins : Instr} {y : MethodName} {w : Value} (h : m_eok y0 b maxL (pc, ins, nx, a, k, pos, y, w) = true) :
    decode b pc = .ok (ins, m_len ins a) ∧ nx = pc + m_len ins a ∧ m_lok y0 maxL pc ins a k pos y w = true := by
  simp only [m_eok, Bool.and_eq_true, decide_eq_true_eq, beq_iff_eq] at h
  exact ⟨h.1.1, h.1.2, h.2⟩
theorem m_wd_spec {pos : Nat} {w : Cond} (h : m_wd pos w = true) : w ∈ m_good := by
  simp only [m_wd, Bool.and_eq_true, decide_eq_true_eq] at h
  exact m_in (List.mem_of_getElem? h.1) h.2
theorem m_wn_spec {pos : Nat} {w : Cond} (h : m_wn pos w = true) : w ∈ m_nest := by
  simp only [m_wn, Bool.and_eq_true, decide_eq_true_eq] at h
  exact List.mem_filter.mpr ⟨List.mem_of_getElem? h.1, h.2⟩
def m_fit (w v : Value) : Bool := match w, v with
  | .int x, .int z => bif x == 1 then z == 0 || z == 1 else true
  | .long _, .long _ => true
  | .null, .ref _ => true
  | .null, .null => true
  | _, _ => false
/-! stores that leave a plain list -/
def m_isL (w : Value) : Bool := match w with
  | .long _ => true
  | .double _ => true
  | _ => false
def m_fltK {β : Type} (i : Nat) : ML → (ML → β) → β
  | [], k => k []
  | (j, w) :: r, k => bif Nat.beq j i then m_fltK i r k else bif Nat.beq (Nat.succ j) i && m_isL w then m_fltK i r k else m_fltK i r (fun r' => k ((j, w) :: r'))
def m_fltK2 {β : Type} (i : Nat) : ML → (ML → β) → β
  | [], k => k []
  | (j, w) :: r, k => bif Nat.beq j i then m_fltK2 i r k else bif Nat.beq j (Nat.succ i) then m_fltK2 i r k else bif Nat.beq (Nat.succ j) i && m_isL w then m_fltK2 i r k else m_fltK2 i r (fun r' => k ((j, w) :: r'))
def m_pickK {β : Type} (l : ML) : List Nat → (ML → β) → β
  | [], k => k []
  | i :: r, k => match m_get i l with
    | some v => m_pickK l r (fun r' => k ((i, v) :: r'))
    | none => m_pickK l r k
theorem m_isL_eq (w : Value) : m_isL w = (w.category == 2) := by cases w <;> rfl
theorem m_beq_eq (a b : Nat) : Nat.beq a b = (a == b) := by
  cases h : Nat.beq a b with
  | true => rw [Nat.eq_of_beq_eq_true h]; simp
  | false =>
    have := Nat.ne_of_beq_eq_false h
    simp [this]
theorem m_fltK_eq {β : Type} (i : Nat) : ∀ (l : ML) (k : ML → β), m_fltK i l k = k (l.filter (fun q => !(q.1 == i) && !(q.1 + 1 == i && q.2.category == 2)))
  | [], k => rfl
  | (j, w) :: r, k => by
    simp only [m_fltK, List.filter_cons, m_fltK_eq i r, m_beq_eq, m_isL_eq, Nat.succ_eq_add_one]
    cases h1 : (j == i) with
    | true => simp
    | false =>
      cases h2 : (j + 1 == i && w.category == 2) with
      | true => simp
      | false => simp
theorem m_fltK2_eq {β : Type} (i : Nat) : ∀ (l : ML) (k : ML → β), m_fltK2 i l k = k (l.filter (fun q => !(q.1 == i) && (!(q.1 == i + 1) && !(q.1 + 1 == i && q.2.category == 2))))
  | [], k => rfl
  | (j, w) :: r, k => by
    simp only [m_fltK2, List.filter_cons, m_fltK2_eq i r, m_beq_eq, m_isL_eq, Nat.succ_eq_add_one]
    cases h1 : (j == i) with
    | true => simp
    | false =>
      cases h3 : (j == i + 1) with
      | true => simp
      | false =>
        cases h2 : (j + 1 == i && w.category == 2) with
        | true => simp
        | false => simp
theorem m_pickK_eq {β : Type} (l : ML) : ∀ (ks : List Nat) (k : ML → β), m_pickK l ks k = k (m_pick l ks)
  | [], k => rfl
  | i :: r, k => by
    simp only [m_pickK, m_pick]
    cases m_get i l with
    | none => exact m_pickK_eq l r k
    | some v => exact m_pickK_eq l r _
/-- a plain instruction -/
def m_ins (ins : Instr) (nx a k : Nat) (w : Value) (l : ML) (st : List Value) (h : MH) : Option (Nat × ML × List Value × MH) := match ins with
  | .iconst _ => some (nx, l, w :: st, h)
  | .bipush _ => some (nx, l, w :: st, h)
  | .sipush _ => some (nx, l, w :: st, h)
  | .lconst _ => some (nx, l, w :: st, h)
  | .ldc _ => some (nx, l, w :: st, h)
  | .ldc_w _ => some (nx, l, w :: st, h)
  | .ldc2_w _ => some (nx, l, w :: st, h)
  | .aconst_null => some (nx, l, .null :: st, h)
  | .iload _ => match m_get a l with
    | some (.int x) => some (nx, l, .int x :: st, h)
    | _ => none
  | .iload_n _ => match m_get a l with
    | some (.int x) => some (nx, l, .int x :: st, h)
    | _ => none
  | .lload _ => match m_get a l with
    | some (.long x) => some (nx, l, .long x :: st, h)
    | _ => none
  | .lload_n _ => match m_get a l with
    | some (.long x) => some (nx, l, .long x :: st, h)
    | _ => none
  | .aload _ => match m_get a l with
    | some (.ref x) => some (nx, l, .ref x :: st, h)
    | some .null => some (nx, l, .null :: st, h)
    | _ => none
  | .aload_n _ => match m_get a l with
    | some (.ref x) => some (nx, l, .ref x :: st, h)
    | some .null => some (nx, l, .null :: st, h)
    | _ => none
  | .istore _ => match st with
    | .int x :: r => m_fltK a l (fun l1 => some (nx, (a, (.int x)) :: l1, r, h))
    | _ => none
  | .istore_n _ => match st with
    | .int x :: r => m_fltK a l (fun l1 => some (nx, (a, (.int x)) :: l1, r, h))
    | _ => none
  | .lstore _ => match st with
    | .long x :: r => m_fltK2 a l (fun l1 => some (nx, (a, (.long x)) :: l1, r, h))
    | _ => none
  | .lstore_n _ => match st with
    | .long x :: r => m_fltK2 a l (fun l1 => some (nx, (a, (.long x)) :: l1, r, h))
    | _ => none
  | .astore _ => match st with
    | .ref x :: r => m_fltK a l (fun l1 => some (nx, (a, (.ref x)) :: l1, r, h))
    | .null :: r => m_fltK a l (fun l1 => some (nx, (a, .null) :: l1, r, h))
    | _ => none
  | .astore_n _ => match st with
    | .ref x :: r => m_fltK a l (fun l1 => some (nx, (a, (.ref x)) :: l1, r, h))
    | .null :: r => m_fltK a l (fun l1 => some (nx, (a, .null) :: l1, r, h))
    | _ => none
  | .iinc _ _ => match m_get a l, w with
    | some (.int x), .int n => m_fltK a l (fun l1 => some (nx, (a, (.int (x + n))) :: l1, st, h))
    | _, _ => none
  | .iadd => match st with
    | .int y :: .int x :: r => some (nx, l, .int (x + y) :: r, h)
    | _ => none
  | .isub => match st with
    | .int y :: .int x :: r => some (nx, l, .int (x - y) :: r, h)
    | _ => none
  | .imul => match st with
    | .int y :: .int x :: r => some (nx, l, .int (x * y) :: r, h)
    | _ => none
  | .iand => match st with
    | .int y :: .int x :: r => some (nx, l, .int (x &&& y) :: r, h)
    | _ => none
  | .ior => match st with
    | .int y :: .int x :: r => some (nx, l, .int (x ||| y) :: r, h)
    | _ => none
  | .ixor => match st with
    | .int y :: .int x :: r => some (nx, l, .int (x ^^^ y) :: r, h)
    | _ => none
  | .ishl => match st with
    | .int y :: .int x :: r => some (nx, l, .int (x <<< (y &&& 31)) :: r, h)
    | _ => none
  | .ishr => match st with
    | .int y :: .int x :: r => some (nx, l, .int (x >>> (y &&& 31)) :: r, h)
    | _ => none
  | .iushr => match st with
    | .int y :: .int x :: r => some (nx, l, .int (x.toUInt32 >>> (y.toUInt32 &&& Int32.toUInt32 31)).toInt32 :: r, h)
    | _ => none
  | .ineg => match st with
    | .int x :: r => some (nx, l, .int (-x) :: r, h)
    | _ => none
  | .ladd => match st with
    | .long y :: .long x :: r => some (nx, l, .long (x + y) :: r, h)
    | _ => none
  | .lsub => match st with
    | .long y :: .long x :: r => some (nx, l, .long (x - y) :: r, h)
    | _ => none
  | .lmul => match st with
    | .long y :: .long x :: r => some (nx, l, .long (x * y) :: r, h)
    | _ => none
  | .land => match st with
    | .long y :: .long x :: r => some (nx, l, .long (x &&& y) :: r, h)
    | _ => none
  | .lor => match st with
    | .long y :: .long x :: r => some (nx, l, .long (x ||| y) :: r, h)
    | _ => none
  | .lshl => match st with
    | .int y :: .long x :: r => some (nx, l, .long (x <<< (y.toInt64 &&& 63)) :: r, h)
    | _ => none
  | .lcmp => match st with
    | .long y :: .long x :: r => some (nx, l, .int (lg_cmp x y) :: r, h)
    | _ => none
  | .i2l => match st with
    | .int x :: r => some (nx, l, .long x.toInt64 :: r, h)
    | _ => none
  | .l2i => match st with
    | .long x :: r => some (nx, l, .int x.toInt32 :: r, h)
    | _ => none
  | .i2b => match st with
    | .int x :: r => some (nx, l, .int x.toInt8.toInt32 :: r, h)
    | _ => none
  | .i2s => match st with
    | .int x :: r => some (nx, l, .int x.toInt16.toInt32 :: r, h)
    | _ => none
  | .dup => match st with
    | .int x :: r => some (nx, l, .int x :: .int x :: r, h)
    | .ref x :: r => some (nx, l, .ref x :: .ref x :: r, h)
    | _ => none
  | .dup2 => match st with
    | .int y :: .ref x :: r => some (nx, l, .int y :: .ref x :: .int y :: .ref x :: r, h)
    | _ => none
  | .pop2 => match st with
    | .long _ :: r => some (nx, l, r, h)
    | _ => none
  | .goto _ => some (a, l, st, h)
  | .ifnull _ => match st with
    | .null :: r => some (a, l, r, h)
    | .ref _ :: r => some (nx, l, r, h)
    | _ => none
  | .ifnonnull _ => match st with
    | .null :: r => some (nx, l, r, h)
    | .ref _ :: r => some (a, l, r, h)
    | _ => none
  | .getfield _ => match st with
    | .ref i :: r => match h[i]? with
      | some (.inr (ci, fs)) => match fs[k]? with
        | some v => bif Nat.beq ci a && Nat.ble 5 i then some (nx, l, v :: r, h) else none
        | none => none
      | _ => none
    | _ => none
  | .putfield _ => match st with
    | v :: .ref i :: r => match h[i]? with
      | some (.inr (ci, fs)) => bif Nat.beq ci a && Nat.ble 5 i && Nat.blt k fs.length && m_fit w v then some (nx, l, r, h.set i (.inr (ci, fs.set k v))) else none
      | _ => none
    | _ => none
  | .getstatic _ => some (nx, l, .ref a :: st, h)
  | .arraylength => match st with
    | .ref i :: r => match h[i]? with
      | some (.inl (_, n, _)) => some (nx, l, .int (Int32.ofNat n) :: r, h)
      | _ => none
    | _ => none
  | _ => none
/-- which array types there are -/
def m_tys (cA : FieldType → ClassId) : List (ClassId × FieldType) := [(cA .int, .int), (cA .long, .long), (cA (.object "ChairOld$Piece"), .object "ChairOld$Piece")]
def m_cst (α : Nat → Nat) (A : Nat → Prop) (s : State) (H : Heap) (h : MH) : Prop := 5 ≤ h.length ∧ (∀ i, i < 5 → ∃ (n : Nat) (f : Nat → Int32), h[i]? = some (.inl (.int, n, .inl f)) ∧ va_T .int (α i) n (fun j => .int (f j)) A s H) ∧ ∀ (i : Nat) (q : String × String × String), m_stat[i]? = some q → va_Z q.1 q.2.1 q.2.2 (.ref (α i)) A s H
/-- an array's type is one of the three, its contents of that kind -/
def m_tyc (c : MCell) : Prop := match c with
  | .inl (ty, _, x) => (ty = .int ∧ ∃ f, x = .inl f) ∨ (ty = .long ∧ ∃ f, x = .inr (.inl f)) ∨ (ty = .object "ChairOld$Piece" ∧ ∃ f, x = .inr (.inr (.inr (.inr f))))
  | .inr _ => True
def MR (s : State) (A : Nat → Prop) (D : va_G) (cA : FieldType → ClassId) (α : Nat → Nat) (h : MH) (H : Heap) (locs : List Loc) : Prop :=
  va_K D m_cls (m_tys cA) s ∧ va_P D m_cls (m_ws α cA h) H ∧ va_D A (m_ws α cA h) ∧ va_S A s.heap H locs ∧ (∀ q, s.heap.size ≤ q → A q) ∧ m_cst α A s s.heap h ∧ m_okh h ∧ (∀ (k : Nat) (c : MCell), h[k]? = some c → m_tyc c)
