/-! THE CLAIM OUT OF ONE WALK OF THE LAW'S BODY. Your part is whole_start (and what it stands on); all else here is the same for every law, but numbers. -/
def R_law : String := "ChairOldLaw"
def lw_P (b : Addr) (xs : List Int32) (args : Array Value) (s : State) : Prop := args = #[.ref b] ∧ s.IntsAt b xs ∧ xs.length ≤ 384 ∧ (Jvm.Cond.and given_1 narrow_1).before args s = true
def lw_Q (_ : Array Value) (s : State) (o : Outcome) (t : State) : Prop := o = .returned (some (.int 1)) ∧ Framed s o t [] 600000 7302249
def lw_Z (below : List Frame) (a : Array Value) (s : State) : State → Prop := fun t => ∃ o, t.status = .running ∧ Ended t below o ∧ lw_Q a s o t
/-- the law's own end, with 1 on the stack, nothing written that was there before, its room as the claim has it -/
theorem lw_ret {p : Program} {l : Launch} {e : Env} {s : State} {m : MethodId} {below : List Frame} {meth : Method} {c : Code} {b : Nat} (hx : p.tables.exec = Jvm.exec) (hb : c.code = code) (hr : meth.sig.returnType = ret) (hlocks : meth.locks = false) {pc : Nat} {H : Heap} {ls : Array Slot} (hdg : decode code pc = .ok (.ireturn, 1)) : W p l e room_1 s m #[Value.ref b] below meth c H [] 600000 7302249 (lw_Z below #[Value.ref b] s) (F0 m pc ls [.int 1]) := by
  intro T hT X
  obtain ⟨fs, hret, hrun, hended, hW, hframe⟩ := X.leave (v := some (.int 1)) (hlocks := hlocks) (fun h => by rw [hr] at h; cases h)
  have hmeth' : T.vm.method? m = some meth := X.method'
  refine ⟨T.setFrames fs, ?_, .returned (some (.int 1)), hrun, hended, rfl, ⟨_, rfl⟩, hW, hframe⟩
  jvm_step X.here [X.here.top, hx, hb, hdg, hmeth', hr, ret, narrow_b1]
  (try refine ⟨rfl, ?_⟩); (try refine ⟨rfl, ?_⟩)
  first | (intro acts; rw [hret _ acts rfl rfl rfl]) | rw [hret _ _ rfl rfl rfl]
  exact Steps.refl _
/-- what holds at the law's entry: the machine, the code, the tables' words (any of lw_tbl by 'hts w (by decide +kernel)'), the script of L ints xs at the cell b, what the Statement gives of the start (any of its parts by flat_of_before) -/
def lw_At (p : Program) (s : State) (m : MethodId) (meth : Method) (c : Code) (b L : Nat) (xs : Nat → Int32) : Prop :=
  p.tables.exec = Jvm.exec ∧ c.code = code ∧ meth.sig.returnType = ret ∧ c.maxLocals = 4 ∧ s.vm.findClass R_law = some m.cls ∧ (∀ w ∈ lw_tbl, w.before #[Value.ref b] s = true) ∧ va_X b L xs s s.heap ∧ b < s.heap.size ∧ meth.locks = false ∧ (Jvm.Cond.and given_1 narrow_1).before #[Value.ref b] s = true
/-! the world at the start -/
theorem st_good {args : Array Value} {s : State} (hts : ∀ w ∈ lw_tbl, w.before args s = true) : ∀ w ∈ m_good, w.before args s = true := fun w hw => hts w (List.mem_filter.mp hw).1
theorem st_nest {args : Array Value} {s : State} (hts : ∀ w ∈ lw_tbl, w.before args s = true) : ∀ w ∈ m_nest, va_Nw w s := by
  intro w hw
  have h1 := List.mem_filter.mp hw
  refine va_Nw.of ?_ (hts w h1.1)
  have h2 := h1.2
  unfold m_isNest at h2
  split at h2
  · rfl
  · cases h2
theorem st_K {args : Array Value} {s : State} (hts : ∀ w ∈ lw_tbl, w.before args s = true) (hao : va_AO "ChairOld$Piece" s) : ∃ (D : va_G) (cA : FieldType → ClassId), va_K D m_cls (m_tys cA) s := by
  have hg := st_good hts
  have h1 : ∀ c : Nat, ∃ q : ClassId × (Nat → Nat), ∀ r, m_cls[c]? = some r → u_Kn s r.1 r.2.1 r.2.2 q.1 q.2 := by
    intro c
    cases h : m_cls[c]? with
    | none => exact ⟨((0 : Nat), fun _ => 0), fun r hr => by cases hr⟩
    | some r =>
      obtain ⟨k1, k2, k3, k4, k5, k6⟩ := m_cok_at c r h
      obtain ⟨cC, iS, hK⟩ := u_known hg k1 (hg _ k4)
      exact ⟨(cC, iS), fun r' hr => by cases hr; exact hK⟩
  obtain ⟨d, hd⟩ := Classical.axiomOfChoice h1
  obtain ⟨ci, ki, pi, i1, i2, i3⟩ := Cond.arrayClass_spec (hg _ m_arrW.1)
  obtain ⟨cj, kj, pj, j1, j2, j3⟩ := Cond.arrayClass_spec (hg _ m_arrW.2)
  obtain ⟨po, co, ko, o1, o2, o3, o4, o5⟩ := Cond.arrayOver_spec hao
  refine ⟨(fun c => (d c).1, fun c => (d c).2), fun t => if t = .int then ci else if t = .long then cj else co, fun c q hq => hd c q hq, fun k q hq => ?_⟩
  match k, hq with
  | 0, hq => cases hq; exact ⟨fun n z => ⟨fun k h => (by cases h), ki, i2, pi, i3⟩, i1⟩
  | 1, hq => cases hq; exact ⟨fun n z => ⟨fun k h => (by cases h), kj, j2, pj, j3⟩, j1⟩
  | 2, hq => cases hq; exact ⟨fun n z => ⟨fun k h => (by cases h), ko, o3, po, o4⟩, ko, po, o3, o4, o1, o5⟩
  | k + 3, hq => cases hq
theorem st_T {args : Array Value} {s : State} (hts : ∀ w ∈ lw_tbl, w.before args s = true) (hgv : (Jvm.Cond.and given_1 narrow_1).before args s = true) {C n d : String} {N : Nat} {f : Nat → Int32} (hN : N < 2 ^ 31) (g1 : Cond.laysStatic C n d ∈ lw_tbl) (g2 : Cond.initialized C ∈ lw_tbl) (e1 : ∀ {w : Cond}, w = Cond.arrayOf (.static C n d) .int → w.before args s = true) (e2 : ∀ {w : Cond}, w = Cond.eq (.length (.static C n d)) (.int (Int32.ofNat N)) → w.before args s = true) (e3 : ∀ j, j < N → (Cond.eq (.elem (.static C n d) (.int (Int32.ofNat j))) (.int (f j))).before args s = true) : ∃ t : Nat, va_T .int t N (fun j => .int (f j)) (fun q => s.heap.size ≤ q) s s.heap ∧ va_Z C n d (.ref t) (fun q => s.heap.size ≤ q) s s.heap := by
  have hA : ∀ a : Nat, a < s.heap.size → ¬ (fun q : Nat => s.heap.size ≤ q) a := fun a h => Nat.not_le.mpr h
  obtain ⟨t, h1, h2⟩ := va_Tof (A := fun q : Nat => s.heap.size ≤ q) (f := fun j => .int (f j)) hN (e1 rfl) (va_eqt (e2 rfl)) (fun j hj => va_eqt (e3 j hj)) hA
  exact ⟨t, h2, va_Zref (hts _ g1) (hts _ g2) h1 hA⟩
theorem st_cst {s : State} {b L : Nat} {xs : Nat → Int32} (hts : ∀ w ∈ lw_tbl, w.before #[Value.ref b] s = true) (hgv : (Jvm.Cond.and given_1 narrow_1).before #[Value.ref b] s = true) (hX : va_X b L xs s s.heap) (hbl : b < s.heap.size) : ∃ α : Nat → Nat, α 4 = b ∧ m_cst α (fun q => s.heap.size ≤ q) s s.heap [.inl (.int, 4, .inl k_least), .inl (.int, 4, .inl k_most), .inl (.int, 8, .inl k_above), .inl (.int, 32, .inl k_own), .inl (.int, L, .inl xs)] := by
  have hs := flat_of_before _ hgv
  obtain ⟨t0, a0, z0⟩ := st_T (C := "ChairOld") (n := "LEAST_TOLD") (d := "[I") (N := 4) (f := k_least) hts hgv (by decide) (by decide +kernel) (by decide +kernel) (fun e => by rw [e]; exact hs _ (by decide +kernel)) (fun e => by rw [e]; exact hs _ (by decide +kernel)) (fun j hj => by
    rcases (show j = 0 ∨ j = 1 ∨ j = 2 ∨ j = 3 by omega) with rfl | rfl | rfl | rfl <;> exact hs _ (by decide +kernel))
  obtain ⟨t1, a1, z1⟩ := st_T (C := "ChairOld") (n := "MOST_TOLD") (d := "[I") (N := 4) (f := k_most) hts hgv (by decide) (by decide +kernel) (by decide +kernel) (fun e => by rw [e]; exact hs _ (by decide +kernel)) (fun e => by rw [e]; exact hs _ (by decide +kernel)) (fun j hj => by
    rcases (show j = 0 ∨ j = 1 ∨ j = 2 ∨ j = 3 by omega) with rfl | rfl | rfl | rfl <;> exact hs _ (by decide +kernel))
  obtain ⟨t2, a2, z2⟩ := st_T (C := "ChairOld$Bodies") (n := "ABOVE") (d := "[I") (N := 8) (f := k_above) hts hgv (by decide) (by decide +kernel) (by decide +kernel) (fun e => by rw [e]; exact hs _ (by decide +kernel)) (fun e => by rw [e]; exact hs _ (by decide +kernel)) (fun j hj => by
    rcases (show j = 0 ∨ j = 1 ∨ j = 2 ∨ j = 3 ∨ j = 4 ∨ j = 5 ∨ j = 6 ∨ j = 7 by omega) with rfl | rfl | rfl | rfl | rfl | rfl | rfl | rfl <;> exact hs _ (by decide +kernel))
  obtain ⟨t3, a3, z3⟩ := st_T (C := "ChairOld$Bodies") (n := "OWN") (d := "[I") (N := 32) (f := k_own) hts hgv (by decide) (by decide +kernel) (by decide +kernel) (fun e => by rw [e]; exact hs _ (by decide +kernel)) (fun e => by rw [e]; exact hs _ (by decide +kernel)) (fun j hj => by
    rcases (show j = 0 ∨ j = 1 ∨ j = 2 ∨ j = 3 ∨ j = 4 ∨ j = 5 ∨ j = 6 ∨ j = 7 ∨ j = 8 ∨ j = 9 ∨ j = 10 ∨ j = 11 ∨ j = 12 ∨ j = 13 ∨ j = 14 ∨ j = 15 ∨ j = 16 ∨ j = 17 ∨ j = 18 ∨ j = 19 ∨ j = 20 ∨ j = 21 ∨ j = 22 ∨ j = 23 ∨ j = 24 ∨ j = 25 ∨ j = 26 ∨ j = 27 ∨ j = 28 ∨ j = 29 ∨ j = 30 ∨ j = 31 by omega) with rfl | rfl | rfl | rfl | rfl | rfl | rfl | rfl | rfl | rfl | rfl | rfl | rfl | rfl | rfl | rfl | rfl | rfl | rfl | rfl | rfl | rfl | rfl | rfl | rfl | rfl | rfl | rfl | rfl | rfl | rfl | rfl <;> exact hs _ (by decide +kernel))
  obtain ⟨scr, x1, x2, x3, x4, x5⟩ := hX
  have a4 : va_T .int b L (fun j => .int (xs j)) (fun q => s.heap.size ≤ q) s s.heap := ⟨scr, x1, x2, x3, by omega, by rw [x4] <;> rfl, x5, Nat.not_le.mpr hbl⟩
  refine ⟨fun i => [t0, t1, t2, t3].getD i b, rfl, Nat.le_of_ble_eq_true rfl, fun i hi => ?_, fun i q hq => ?_⟩
  · match i, hi with
    | 0, _ => exact ⟨4, k_least, rfl, a0⟩
    | 1, _ => exact ⟨4, k_most, rfl, a1⟩
    | 2, _ => exact ⟨8, k_above, rfl, a2⟩
    | 3, _ => exact ⟨32, k_own, rfl, a3⟩
    | 4, _ => exact ⟨L, xs, rfl, a4⟩
    | i + 5, h => exact absurd h (by omega)
  · match i, hq with
    | 0, hq => cases hq; exact z0
    | 1, hq => cases hq; exact z1
    | 2, hq => cases hq; exact z2
    | 3, hq => cases hq; exact z3
    | i + 4, hq => cases hq
theorem whole_start {p : Program} {e : Env} {s : State} {m : MethodId} {below : List Frame} {meth : Method} {c : Code} (l : Launch) {b L : Nat} {xs : Nat → Int32} (hL : L ≤ 384) (C0 : lw_At p s m meth c b L xs) : W p l e room_1 s m #[Value.ref b] below meth c s.heap [] 0 0 (lw_Z below #[Value.ref b] s) (entryFrame m ([Value.ref b] : List Value).toArray 4) := by
  obtain ⟨hx, hb, hr, hml, hown, hts, hX, hbl, hlocks, hgv⟩ := id C0
  have hao : va_AO "ChairOld$Piece" s := va_AO.of (hts (.arrayOver (.object "ChairOld$Piece")) (by decide +kernel))
  obtain ⟨D, cA, hK⟩ := st_K hts hao
  obtain ⟨α, e4, hc⟩ := st_cst hts hgv hX hbl
  obtain ⟨hT, K⟩ := law_walk (L, xs) hL
  have hl := lv_entry ([.ref b]) (n := 4) (Nat.le_of_ble_eq_true rfl)
  rw [lg_entry_eq]
  generalize (lg_sl ([.ref b]) ++ List.replicate (4 - (lg_sl ([.ref b])).length) Slot.unset).toArray = ls at hl ⊢
  have hl : lv_has ls 4 [(0, .ref b)] := hl
  refine K k1_W_law p l e room_1 s m #[Value.ref b] below meth c (fun q => s.heap.size ≤ q) D cA (lw_Z below #[Value.ref b] s) α _ ⟨hx, hb, hml, hown, st_good hts, st_nest hts, hao, fun z => absurd z (by decide), by decide, by decide, Nat.le_refl _, Nat.le_refl _⟩ ?_ α s.heap [] ls ⟨hK, ?_, ?_, va_S.rf, fun _ h => h, hc, ?_, ?_⟩ ⟨fun _ _ => rfl, Nat.le_refl _, fun _ _ => rfl⟩ ?_ ?_ (m_oks_nil _)
  · intro α' H' locs' pc' ls' hR' _ hret _
    have hret : decode code pc' = .ok (.ireturn, 1) ∧ _ := hret
    exact va_forget (fun q hq => hR'.2.2.2.1.2.2 q hq) (lw_ret hx hb hr hlocks hret.1)
  · intro k q h
    cases h
  · exact ⟨fun i j p q h => by (cases h), fun k q h => by (cases h)⟩
  · intro k c hk
    match k, hk with
    | 0, hk => cases hk; intro f hf; cases hf
    | 1, hk => cases hk; intro f hf; cases hf
    | 2, hk => cases hk; intro f hf; cases hf
    | 3, hk => cases hk; intro f hf; cases hf
    | 4, hk => cases hk; intro f hf; cases hf
    | k + 5, hk => cases hk
  · intro k c hk
    match k, hk with
    | 0, hk => cases hk; exact Or.inl ⟨rfl, _, rfl⟩
    | 1, hk => cases hk; exact Or.inl ⟨rfl, _, rfl⟩
    | 2, hk => cases hk; exact Or.inl ⟨rfl, _, rfl⟩
    | 3, hk => cases hk; exact Or.inl ⟨rfl, _, rfl⟩
    | 4, hk => cases hk; exact Or.inl ⟨rfl, _, rfl⟩
    | k + 5, hk => cases hk
  · show lv_has ls 4 [(0, .ref (α 4))]
    rw [e4]
    exact hl
  · intro q hq i ei
    rcases List.mem_cons.mp hq with rfl | hq
    · cases ei
      exact Nat.le_of_ble_eq_true rfl
    · cases hq
