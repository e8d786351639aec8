/-! what is made; calls; contracts -/
def m_al (α : Nat → Nat) (n q : Nat) : Nat → Nat := fun i => if i = n then q else α i
theorem m_al_lt {α : Nat → Nat} {n q : Nat} : ∀ i, i < n → m_al α n q i = α i := fun i hi => if_neg (by omega)
theorem m_al_at {α : Nat → Nat} {n q : Nat} : m_al α n q n = q := if_pos rfl
theorem m_grow_R {s : State} {A : Nat → Prop} {D : va_G} {cA : FieldType → ClassId} {α : Nat → Nat} {h : MH} {H H1 : Heap} {locs locs1 : List Loc} {q : Nat} {d : MCell} (hR : MR s A D cA α h H locs) (hok : m_okc h.length d) (hty : m_tyc d)
    (q1 : va_P D m_cls (m_ws α cA h ++ [(q, m_te α cA d)]) H1) (q2 : va_D A (m_ws α cA h ++ [(q, m_te α cA d)])) (q3 : va_S A s.heap H1 locs1) : MR s A D cA (m_al α h.length q) (h ++ [d]) H1 locs1 := by
  obtain ⟨a1, a2, a3, a4, a5, ⟨b1, b2, b3⟩, a7, a8⟩ := hR
  have e : m_ws (m_al α h.length q) cA (h ++ [d]) = m_ws α cA h ++ [(q, m_te α cA d)] := by
    rw [m_ws_app b1, m_ws_congr m_al_lt b1 a7, m_al_at, m_te_congr m_al_lt hok]
  rw [← e] at q1 q2
  refine ⟨a1, q1, q2, q3, a5, ⟨by rw [List.length_append]; omega, fun i hi => ?_, fun i z hz => ?_⟩, m_okh_app a7 (m_okc_mono (Nat.le_succ _) hok), fun k c hk => ?_⟩
  · obtain ⟨n, f, c1, c2⟩ := b2 i hi
    exact ⟨n, f, by rw [List.getElem?_append_left (by omega)]; exact c1, by rw [m_al_lt i (by omega)]; exact c2⟩
  · have hi : i < 4 := (List.getElem?_eq_some_iff.mp hz).1
    rw [m_al_lt i (by omega)]
    exact b3 i z hz
  · by_cases hl : k < h.length
    · rw [List.getElem?_append_left hl] at hk
      exact a8 k c hk
    · rw [List.getElem?_append_right (by omega)] at hk
      have hz : k - h.length < 1 := (List.getElem?_eq_some_iff.mp hk).1
      rw [show k - h.length = 0 by omega] at hk
      cases hk
      exact hty
theorem m_grow_A {α0 α : Nat → Nat} {h0 h : MH} {q : Nat} {d : MCell} (h5 : 5 ≤ h.length) (hA : MA α0 h0 α h) : MA α0 h0 (m_al α h.length q) (h ++ [d]) :=
  ⟨fun i hi => (m_al_lt i (Nat.lt_of_lt_of_le hi hA.2.1)).trans (hA.1 i hi), by rw [List.length_append]; exact Nat.le_trans hA.2.1 (Nat.le_add_right _ _), fun i hi => by rw [List.getElem?_append_left (by omega)]; exact hA.2.2 i hi⟩
theorem m_oks_mono {n n' : Nat} (hn : n ≤ n') {st : List Value} (h : m_oks n st) : m_oks n' st := fun v hv => m_okv_mono hn (h v hv)
theorem m_okl_mono {n n' : Nat} (hn : n ≤ n') {l : ML} (h : m_okl n l) : m_okl n' l := fun v hv => m_okv_mono hn (h v hv)
/-- the fields of a new object -/
def m_dfl : Nat → List Value
  | 0 => [.null, .int 0, .null, .int 0]
  | 1 => [.null, .null, .null]
  | 2 => [.null, .null, .null, .int 0]
  | 3 => [.int 0, .int 0, .int 0, .int 0, .int 0, .null]
  | 4 => [.null, .int 0, .null, .int 0, .int 0, .int 0]
  | 5 => [.null, .null, .null, .null, .null, .null]
  | 6 => [.null, .null, .null, .null]
  | 7 => [.null, .null, .null, .null, .int 0, .int 0]
  | 8 => [.null, .null, .null, .null, .null, .null, .null, .null, .int 0, .null, .null, .null, .int 0, .int 0]
  | _ => [.null, .null, .null, .null, .int 0, .int 0, .int 0, .null, .null, .null, .null, .int 0, .null, .null, .int 0, .int 0, .int 0, .int 0, .int 0, .null, .null, .null, .null, .null, .long 0, .null, .null, .int 0, .null, .null, .null, .null, .int 0, .int 0, .int 0, .null, .null, .int 0, .int 0, .int 0, .null, .null, .null, .null]
theorem m_dfl_ok : ∀ (ci : Nat) (q : vw_C), m_cls[ci]? = some q → ∀ j, j < q.2.2 → defaultValue (m_ty0 q.2.1 j) = vp_V (m_dfl ci) j := by
  intro c q h
  match c, h with
  | 0, h => cases h; decide +kernel
  | 1, h => cases h; decide +kernel
  | 2, h => cases h; decide +kernel
  | 3, h => cases h; decide +kernel
  | 4, h => cases h; decide +kernel
  | 5, h => cases h; decide +kernel
  | 6, h => cases h; decide +kernel
  | 7, h => cases h; decide +kernel
  | 8, h => cases h; decide +kernel
  | 9, h => cases h; decide +kernel
  | c + 10, h => simp [m_cls] at h
theorem m_dfl_noref : ∀ (ci : Nat) (v : Value), v ∈ m_dfl ci → ∀ i, v ≠ .ref i := by
  intro c v h i e
  subst e
  unfold m_dfl at h
  split at h <;> simp at h
def m_arr0 (M : MD) (pc : Nat) (n : Nat) : Option (MCell × Nat) := match m_find pc M.2.2.2.2.2 with
  | some (.newarray .int, nx, _) => some (.inl (.int, n, .inl fun _ => 0), nx)
  | some (.newarray .long, nx, _) => some (.inl (.long, n, .inr (.inl fun _ => 0)), nx)
  | _ => none
def m_new (M : MD) (pc : Nat) : Option (Nat × Nat × Nat) := match m_find pc M.2.2.2.2.2 with
  | some (.new _, nx, a, _) => match m_cls[a]? with
    | some (_, _, N) => some (a, N, nx)
    | none => none
  | _ => none
def m_anew (M : MD) (pc : Nat) : Option Nat := match m_find pc M.2.2.2.2.2 with
  | some (.anewarray _, nx, _) => some nx
  | _ => none
theorem m_objW : (Cond.instanceMethod Lib.objectInit ∈ m_good) ∧ Cond.code Lib.objectInit ⟨#[0xb1]⟩ 1 none ∈ m_good := ⟨m_in (List.mem_of_getElem? (i := 89) (by decide +kernel)) rfl, m_in (List.mem_of_getElem? (i := 90) (by decide +kernel)) rfl⟩
theorem m_arrW : Cond.arrayClass .int ∈ m_good ∧ Cond.arrayClass .long ∈ m_good := ⟨m_in (List.mem_of_getElem? (i := 117) (by decide +kernel)) rfl, m_in (List.mem_of_getElem? (i := 188) (by decide +kernel)) rfl⟩
theorem m_cpyW : Cond.native arraycopyName ∈ m_good ∧ Cond.static arraycopyName ∈ m_good ∧ Cond.initialized "java/lang/System" ∈ m_good := ⟨m_in (List.mem_of_getElem? (i := 388) (by decide +kernel)) rfl, m_in (List.mem_of_getElem? (i := 387) (by decide +kernel)) rfl, m_in (List.mem_of_getElem? (i := 79) (by decide +kernel)) rfl⟩
section RV
variable {M : MD} {d mc ms : Nat} {v : Option Value} {hT : MH} {cells slots pc : Nat} {l : ML} {st : List Value} {h : MH}
theorem mw_newa {n : Int32} {N nx : Nat} {cell : MCell} (hn : ¬ n < 0) (hN : n.toNatClampNeg = N) (hs : m_arr0 M pc N = some (cell, nx)) (hB : N * 8 ≤ 536870912) (hc : cells + 1 ≤ mc) (hsl : slots + N ≤ ms)
    (K : MW M d mc ms v hT (cells + 1) (slots + N) nx l (.ref h.length :: st) (h ++ [cell])) : MW M d mc ms v hT cells slots pc l (.int n :: st) h := by
  intro hM p la e R s m args below meth c A D cA Q α0 h0 hX hret α H locs ls hR hA hl hol hos
  obtain ⟨x1, x2, x3, x4, x5, x6, x7, x8, x9, x10, x11, x12⟩ := id hX
  have h5 := hR.2.2.2.2.2.1.1
  have KK := fun (q : Nat) (H1 : Heap) (locs1 : List Loc) (hR' : MR s A D cA (m_al α h.length q) (h ++ [cell]) H1 locs1) => K hM p la e R s m args below meth c A D cA Q α0 h0 hX hret (m_al α h.length q) H1 locs1 ls hR' (m_grow_A h5 hA) (by rw [m_tl_congr m_al_lt hol]; exact hl) (m_okl_mono (by rw [List.length_append]; omega) hol) (m_oks_cons (fun i ei => by cases ei; rw [List.length_append]; exact Nat.lt_succ_self _) (m_oks_mono (by rw [List.length_append]; omega) (m_oks_tail hos)))
  have es : ∀ q : Nat, (Value.ref h.length :: st).map (m_tv (m_al α h.length q)) = .ref q :: st.map (m_tv α) := fun q => by
    rw [List.map_cons, m_stack_congr m_al_lt (m_oks_tail hos)]
    simp only [m_tv, m_al_at]
  unfold m_arr0 at hs
  split at hs
  · next nx2 rest hf =>
    obtain ⟨a, k, pos, y, w⟩ := rest
    obtain ⟨hd, hnx, hk⟩ := m_eok_spec (hM _ (m_find_mem hf))
    simp only [m_len] at hd hnx
    cases hs
    subst hnx
    refine va_newa (atype := .int) (ty := .int) (a0 := (N, .inl fun _ => 0)) x1 x2 (x5 _ m_arrW.1) rfl hR.1 hR.2.1 hR.2.2.1 hR.2.2.2.1 hR.2.2.2.2.1 (fun _ => rfl) hn hN (by show N * 4 ≤ _; omega) (by omega) (by omega) hd (fun q cA' H1 qK qP qD qS => ?_)
    have ec : cA' = cA .int := by
      have r1 : va_RA s cA' .int := (qK.2 3 _ rfl).2
      have r2 : va_RA s (cA .int) .int := (qK.2 0 _ rfl).2
      exact Option.some.inj (r1.symm.trans r2)
    subst ec
    have KQ := KK q H1 locs (m_grow_R hR (fun f3 e3 => by cases e3) (Or.inl ⟨rfl, _, rfl⟩) qP qD qS)
    rw [es] at KQ
    exact KQ
  · next nx2 rest hf =>
    obtain ⟨a, k, pos, y, w⟩ := rest
    obtain ⟨hd, hnx, hk⟩ := m_eok_spec (hM _ (m_find_mem hf))
    simp only [m_len] at hd hnx
    cases hs
    subst hnx
    refine va_newa (atype := .long) (ty := .long) (a0 := (N, .inr (.inl fun _ => 0))) x1 x2 (x5 _ m_arrW.2) rfl hR.1 hR.2.1 hR.2.2.1 hR.2.2.2.1 hR.2.2.2.2.1 (fun _ => rfl) hn hN (by show N * 8 ≤ _; omega) (by omega) (by omega) hd (fun q cA' H1 qK qP qD qS => ?_)
    have ec : cA' = cA .long := by
      have r1 : va_RA s cA' .long := (qK.2 3 _ rfl).2
      have r2 : va_RA s (cA .long) .long := (qK.2 1 _ rfl).2
      exact Option.some.inj (r1.symm.trans r2)
    subst ec
    have KQ := KK q H1 locs (m_grow_R hR (fun f3 e3 => by cases e3) (Or.inr (Or.inl ⟨rfl, _, rfl⟩)) qP qD qS)
    rw [es] at KQ
    exact KQ
  · cases hs
theorem mw_anew {n : Int32} {N nx : Nat} (hn : ¬ n < 0) (hN : n.toNatClampNeg = N) (hs : m_anew M pc = some nx) (hB : N * 4 ≤ 536870912) (hc : cells + 1 ≤ mc) (hsl : slots + N ≤ ms)
    (K : MW M d mc ms v hT (cells + 1) (slots + N) nx l (.ref h.length :: st) (h ++ [.inl (.object "ChairOld$Piece", N, .inr (.inr (.inr (.inr fun _ => none))))])) : MW M d mc ms v hT cells slots pc l (.int n :: st) h := by
  intro hM p la e R s m args below meth c A D cA Q α0 h0 hX hret α H locs ls hR hA hl hol hos
  obtain ⟨x1, x2, x3, x4, x5, x6, x7, x8, x9, x10, x11, x12⟩ := id hX
  have h5 := hR.2.2.2.2.2.1.1
  have es : ∀ q : Nat, (Value.ref h.length :: st).map (m_tv (m_al α h.length q)) = .ref q :: st.map (m_tv α) := fun q => by
    rw [List.map_cons, m_stack_congr m_al_lt (m_oks_tail hos)]
    simp only [m_tv, m_al_at]
  unfold m_anew at hs
  split at hs
  · next idx nx2 rest hf =>
    obtain ⟨a, k, pos, y, w⟩ := rest
    obtain ⟨hd, hnx, hk⟩ := m_eok_spec (hM _ (m_find_mem hf))
    simp only [m_len] at hd hnx
    simp only [m_lok] at hk
    cases hs
    subst hnx
    refine va_newq x1 x2 x4 (x5 _ (m_wd_spec hk)) x7 hR.1 hR.2.1 hR.2.2.1 hR.2.2.2.1 hR.2.2.2.2.1 hn hN hB (by omega) (by omega) hd (fun q cA' H1 qK qP qD qS => ?_)
    have ec : cA' = cA (.object "ChairOld$Piece") := by
      obtain ⟨_, _, _, _, _, r1⟩ : va_RA s cA' (.object "ChairOld$Piece") := (qK.2 3 _ rfl).2
      obtain ⟨_, _, _, _, _, r2⟩ : va_RA s (cA (.object "ChairOld$Piece")) (.object "ChairOld$Piece") := (qK.2 2 _ rfl).2
      exact Option.some.inj (r1.symm.trans r2)
    subst ec
    have KQ := K hM p la e R s m args below meth c A D cA Q α0 h0 hX hret (m_al α h.length q) H1 locs ls (m_grow_R hR (fun f3 e3 => by cases e3; exact fun j i hj => by cases hj) (Or.inr (Or.inr ⟨rfl, _, rfl⟩)) qP qD qS) (m_grow_A h5 hA) (by rw [m_tl_congr m_al_lt hol]; exact hl) (m_okl_mono (by rw [List.length_append]; omega) hol) (m_oks_cons (fun i ei => by cases ei; rw [List.length_append]; exact Nat.lt_succ_self _) (m_oks_mono (by rw [List.length_append]; omega) (m_oks_tail hos)))
    rw [es] at KQ
    exact KQ
  · cases hs
theorem mw_new {ci N nx : Nat} (hs : m_new M pc = some (ci, N, nx)) (hc : cells + 1 ≤ mc) (hsl : slots + N ≤ ms)
    (K : MW M d mc ms v hT (cells + 1) (slots + N) nx l (.ref h.length :: st) (h ++ [.inr (ci, m_dfl ci)])) : MW M d mc ms v hT cells slots pc l st h := by
  intro hM p la e R s m args below meth c A D cA Q α0 h0 hX hret α H locs ls hR hA hl hol hos
  obtain ⟨x1, x2, x3, x4, x5, x6, x7, x8, x9, x10, x11, x12⟩ := id hX
  have h5 := hR.2.2.2.2.2.1.1
  have es : ∀ q : Nat, (Value.ref h.length :: st).map (m_tv (m_al α h.length q)) = .ref q :: st.map (m_tv α) := fun q => by
    rw [List.map_cons, m_stack_congr m_al_lt hos]
    simp only [m_tv, m_al_at]
  have ed : ∀ β : Nat → Nat, (m_dfl ci).map (m_tv β) = m_dfl ci := fun β => by
    refine (List.map_congr_left fun z hz => ?_).trans (List.map_id _)
    cases z with
    | ref i => exact absurd rfl (m_dfl_noref ci _ hz i)
    | _ => rfl
  unfold m_new at hs
  split at hs
  · next idx nx2 a rest hf =>
    obtain ⟨k, pos, y, w⟩ := rest
    obtain ⟨hd, hnx, hk⟩ := m_eok_spec (hM _ (m_find_mem hf))
    simp only [m_len] at hd hnx
    simp only [m_lok] at hk
    split at hs
    · next C T N2 hcl =>
      rw [hcl] at hk
      cases hs
      subst hnx
      obtain ⟨c1, c2, c3, c4, c5, c6⟩ := m_cok_at _ _ hcl
      refine va_new (fs := m_dfl ci) x1 x2 x5 c1 (m_ty0 T) c3 x4 (x5 _ (m_wd_spec hk)) (x5 _ c4) (x5 _ c5) hR.1 hR.2.1 hR.2.2.1 hR.2.2.2.1 hR.2.2.2.2.1 hcl (m_dfl_ok _ _ hcl) (by omega) (by show slots + N ≤ R.slots; omega) hd (fun q H1 qP qD qS => ?_)
      have KQ := K hM p la e R s m args below meth c A D cA Q α0 h0 hX hret (m_al α h.length q) H1 locs ls (m_grow_R hR (fun z hz i ei => absurd ei (m_dfl_noref ci z hz i)) trivial (by simp only [m_te, ed]; exact qP) (by simp only [m_te, ed]; exact qD) qS) (m_grow_A h5 hA) (by rw [m_tl_congr m_al_lt hol]; exact hl) (m_okl_mono (by rw [List.length_append]; omega) hol) (m_oks_cons (fun i ei => by cases ei; rw [List.length_append]; exact Nat.lt_succ_self _) (m_oks_mono (by rw [List.length_append]; omega) hos))
      rw [es] at KQ
      exact KQ
    · cases hs
  · cases hs
def m_obj (M : MD) (pc : Nat) : Option Nat := match m_find pc M.2.2.2.2.2 with
  | some (.invokespecial _, nx, _, k, _, y, _) => bif decide (y = Lib.objectInit) && Nat.beq k 0 then some nx else none
  | _ => none
theorem mw_obj {i nx : Nat} (hs : m_obj M pc = some nx) (hd1 : 1 ≤ d) (K : MW M d mc ms v hT cells slots nx l [] h) : MW M d mc ms v hT cells slots pc l [.ref i] h := by
  intro hM p la e R s m args below meth c A D cA Q α0 h0 hX hret α H locs ls hR hA hl hol hos
  obtain ⟨x1, x2, x3, x4, x5, x6, x7, x8, x9, x10, x11, x12⟩ := id hX
  have KK := K hM p la e R s m args below meth c A D cA Q α0 h0 hX hret α H locs ls hR hA hl hol (m_oks_tail hos)
  unfold m_obj at hs
  split at hs
  · next idx nx2 a k pos y w hf =>
    obtain ⟨hd, hnx, hk⟩ := m_eok_spec (hM _ (m_find_mem hf))
    obtain ⟨hy, hs⟩ := m_cond hs
    subst hs
    simp only [m_len] at hd hnx
    subst hnx
    simp only [Bool.and_eq_true, decide_eq_true_eq] at hy
    obtain ⟨hy, hk0⟩ := hy
    have hk0 := Nat.eq_of_beq_eq_true hk0
    subst hy
    subst hk0
    exact W.objInit x1 x2 x4 (x5 _ (m_wd_spec hk)) (x5 _ m_objW.1) (x5 _ m_objW.2) rfl (hl.1.trans x3.symm) rfl hd (by omega) (by show 2 * 0 + 0 + 12 ≤ _; omega) KK
  · cases hs
def m_cpy (M : MD) (pc : Nat) : Option Nat := match m_find pc M.2.2.2.2.2 with
  | some (.invokestatic _, nx, _, k, _, y, _) => bif decide (y = arraycopyName) && Nat.beq k 0 then some nx else none
  | _ => none
theorem mw_cpyi {i0 i1 nx n0 n1 : Nat} {sp dp n : Int32} {ty0 ty1 : FieldType} {f g : Nat → Int32} (hs : m_cpy M pc = some nx) (hd1 : 1 ≤ d) (hi0 : h[i0]? = some (.inl (ty0, n0, .inl f))) (hi1 : h[i1]? = some (.inl (ty1, n1, .inl g))) (g0 : 5 ≤ i0) (g1 : 5 ≤ i1)
    (h1 : ¬ sp < 0) (h2 : ¬ dp < 0) (h3 : ¬ n < 0) (h4 : sp.toNatClampNeg + n.toNatClampNeg ≤ n0) (h5 : dp.toNatClampNeg + n.toNatClampNeg ≤ n1)
    (K : MW M d mc ms v hT cells slots nx l [] (h.set i1 (.inl (ty1, n1, .inl (va_cpy f g sp.toNatClampNeg dp.toNatClampNeg n.toNatClampNeg))))) : MW M d mc ms v hT cells slots pc l [.int n, .int dp, .ref i1, .int sp, .ref i0] h := by
  intro hM p la e R s m args below meth c A D cA Q α0 h0 hX hret α H locs ls hR hA hl hol hos
  obtain ⟨x1, x2, x3, x4, x5, x6, x7, x8, x9, x10, x11, x12⟩ := id hX
  have KK := fun (H1 : Heap) (locs1 : List Loc) hR' => K hM p la e R s m args below meth c A D cA Q α0 h0 hX hret α H1 locs1 ls hR' ⟨hA.1, by rw [List.length_set]; exact hA.2.1, fun i hi => ((m_set_same g1).2 i hi).trans (hA.2.2 i hi)⟩ hl (by rw [List.length_set]; exact hol) (m_oks_nil _)
  unfold m_cpy at hs
  split at hs
  · next idx nx2 a k pos y w hf =>
    obtain ⟨hd, hnx, hk⟩ := m_eok_spec (hM _ (m_find_mem hf))
    obtain ⟨hy, hs⟩ := m_cond hs
    subst hs
    simp only [m_len] at hd hnx
    subst hnx
    simp only [Bool.and_eq_true, decide_eq_true_eq] at hy
    obtain ⟨hy, hk0⟩ := hy
    have hk0 := Nat.eq_of_beq_eq_true hk0
    subst hy
    subst hk0
    rcases hR.2.2.2.2.2.2.2 i0 _ hi0 with ⟨e1, -⟩ | ⟨-, f2, e2⟩ | ⟨-, f2, e2⟩
    · rcases hR.2.2.2.2.2.2.2 i1 _ hi1 with ⟨e3, -⟩ | ⟨-, f2, e2⟩ | ⟨-, f2, e2⟩
      · subst e1
        subst e3
        exact va_copyi (ty := .int) x1 x2 (x3.trans hl.1.symm) x4 (x5 _ (m_wd_spec hk)) (x5 _ m_cpyW.1) (x5 _ m_cpyW.2.1) (x5 _ m_cpyW.2.2) hR.1 hR.2.1 hR.2.2.1 hR.2.2.2.1 (i0 - 5) (i1 - 5) 0 0 (m_ws_get g0 hi0) (m_ws_get g1 hi1) rfl rfl rfl h1 h2 h3 h4 h5 (fun _ _ => rfl) (by omega) (by show 0 + (7 + 11) ≤ _; omega) hd (fun H1 locs1 q1 q2 q3 => KK H1 locs1 (m_set_R hR g1 (fun f3 e3 => by cases e3) (Or.inl ⟨rfl, _, rfl⟩) q1 q2 q3))
      · cases e2
      · cases e2
    · cases e2
    · cases e2
  · cases hs
theorem mw_cpyl {i0 i1 nx n0 n1 : Nat} {sp dp n : Int32} {ty0 ty1 : FieldType} {f g : Nat → Int64} (hs : m_cpy M pc = some nx) (hd1 : 1 ≤ d) (hi0 : h[i0]? = some (.inl (ty0, n0, .inr (.inl f)))) (hi1 : h[i1]? = some (.inl (ty1, n1, .inr (.inl g)))) (g0 : 5 ≤ i0) (g1 : 5 ≤ i1)
    (h1 : ¬ sp < 0) (h2 : ¬ dp < 0) (h3 : ¬ n < 0) (h4 : sp.toNatClampNeg + n.toNatClampNeg ≤ n0) (h5 : dp.toNatClampNeg + n.toNatClampNeg ≤ n1)
    (K : MW M d mc ms v hT cells slots nx l [] (h.set i1 (.inl (ty1, n1, .inr (.inl (va_cpy f g sp.toNatClampNeg dp.toNatClampNeg n.toNatClampNeg)))))) : MW M d mc ms v hT cells slots pc l [.int n, .int dp, .ref i1, .int sp, .ref i0] h := by
  intro hM p la e R s m args below meth c A D cA Q α0 h0 hX hret α H locs ls hR hA hl hol hos
  obtain ⟨x1, x2, x3, x4, x5, x6, x7, x8, x9, x10, x11, x12⟩ := id hX
  have KK := fun (H1 : Heap) (locs1 : List Loc) hR' => K hM p la e R s m args below meth c A D cA Q α0 h0 hX hret α H1 locs1 ls hR' ⟨hA.1, by rw [List.length_set]; exact hA.2.1, fun i hi => ((m_set_same g1).2 i hi).trans (hA.2.2 i hi)⟩ hl (by rw [List.length_set]; exact hol) (m_oks_nil _)
  unfold m_cpy at hs
  split at hs
  · next idx nx2 a k pos y w hf =>
    obtain ⟨hd, hnx, hk⟩ := m_eok_spec (hM _ (m_find_mem hf))
    obtain ⟨hy, hs⟩ := m_cond hs
    subst hs
    simp only [m_len] at hd hnx
    subst hnx
    simp only [Bool.and_eq_true, decide_eq_true_eq] at hy
    obtain ⟨hy, hk0⟩ := hy
    have hk0 := Nat.eq_of_beq_eq_true hk0
    subst hy
    subst hk0
    rcases hR.2.2.2.2.2.2.2 i0 _ hi0 with ⟨-, f2, e2⟩ | ⟨e1, -⟩ | ⟨-, f2, e2⟩
    · cases e2
    · rcases hR.2.2.2.2.2.2.2 i1 _ hi1 with ⟨-, f2, e2⟩ | ⟨e3, -⟩ | ⟨-, f2, e2⟩
      · cases e2
      · subst e1
        subst e3
        exact va_copyl (ty := .long) x1 x2 (x3.trans hl.1.symm) x4 (x5 _ (m_wd_spec hk)) (x5 _ m_cpyW.1) (x5 _ m_cpyW.2.1) (x5 _ m_cpyW.2.2) hR.1 hR.2.1 hR.2.2.1 hR.2.2.2.1 (i0 - 5) (i1 - 5) 1 1 (m_ws_get g0 hi0) (m_ws_get g1 hi1) rfl rfl rfl h1 h2 h3 h4 h5 (fun _ _ => rfl) (by omega) (by show 0 + (7 + 11) ≤ _; omega) hd (fun H1 locs1 q1 q2 q3 => KK H1 locs1 (m_set_R hR g1 (fun f3 e3 => by cases e3) (Or.inr (Or.inl ⟨rfl, _, rfl⟩)) q1 q2 q3))
      · cases e2
    · cases e2
  · cases hs
end RV
/-! contracts -/
def m_wsM (M : MD) : List Cond := Cond.code M.1 M.2.1 M.2.2.1 M.2.2.2.1 :: m_good
def m_rm (d mc ms : Nat) : Room := { frames := d, cells := mc, slots := ms, locals := 40 * d }
def MOk2 (M : MD) : Prop := Cond.code M.1 M.2.1 M.2.2.1 M.2.2.2.1 ∈ m_good ∧ Cond.initialized M.1.cls ∈ m_good ∧ plainFor M.1 = true ∧ (M.1.cls ≠ "java/lang/invoke/MethodHandle" ∧ M.1.cls ≠ "java/lang/invoke/VarHandle") ∧ (parseMethodDescriptor M.1.desc).map (fun d => d.parameters.length) = some M.2.2.2.2.1.2.1 ∧ M.2.2.1 ≤ 21 ∧
  (M.2.2.2.2.1.1 = 0 → Cond.static M.1 ∈ m_good) ∧ (M.2.2.2.2.1.1 = 1 → Cond.instanceMethod M.1 ∈ m_good ∧ Cond.selects M.1.cls M.1 M.1 ∈ m_good ∧ (m_cls[M.2.2.2.2.1.2.2]?).map (fun q => q.1) = some M.1.cls) ∧ (M.2.2.2.2.1.1 = 2 → Cond.instanceMethod M.1 ∈ m_good ∧ M.1.name = "<init>" ∧ M.2.2.2.1 = none)
def m_tyh (h : MH) : Prop := ∀ (k : Nat) (c : MCell), h[k]? = some c → m_tyc c
def MPre (D : va_G) (cA : FieldType → ClassId) (α : Nat → Nat) (h : MH) (sz : Nat) (U : State) : Prop :=
  U.heap.size = sz ∧ va_K D m_cls (m_tys cA) U ∧ va_P D m_cls (m_ws α cA h) U.heap ∧ va_D (fun _ => True) (m_ws α cA h) ∧ m_cst α (va_A (m_ws α cA h) sz) U U.heap h ∧ m_okh h ∧ m_tyh h ∧ (∀ w ∈ m_nest, va_Nw w U) ∧ va_AO "ChairOld$Piece" U
def MQc (D : va_G) (cA : FieldType → ClassId) (α : Nat → Nat) (h : MH) (v : Option Value) (hT : MH) (sz : Nat) : Array Value → State → Outcome → State → Prop := fun _ st oc t =>
  (∃ α' : Nat → Nat, MA α h α' hT ∧ oc = .returned (v.map (m_tv α')) ∧ va_P D m_cls (m_ws α' cA hT) t.heap ∧ va_D (va_A (m_ws α cA h) sz) (m_ws α' cA hT) ∧ m_okh hT ∧ m_tyh hT ∧ m_oks hT.length v.toList) ∧ va_F (va_A (m_ws α cA h) sz) st t
/-- a method's contract: from the arguments av and the heap h it comes back with v and the heap hT -/
def MC (M : MD) (d mc ms : Nat) (av : List Value) (h : MH) (v : Option Value) (hT : MH) : Prop :=
  MOk2 M ∧ ∀ (la : Launch) (D : va_G) (cA : FieldType → ClassId) (α : Nat → Nat) (sz : Nat), m_oks h.length av → Met la M.1 (m_wsM M) (m_rm d mc ms) (va_Pc (av.map (m_tv α)) (MPre D cA α h sz)) (MQc D cA α h v hT sz) mc ms (va_A (m_ws α cA h) sz)
theorem m_args_tl (α : Nat → Nat) : ∀ (vs : List Value) (i : Nat), lv_args i (vs.map (m_tv α)) = m_tl α (lv_args i vs)
  | [], _ => rfl
  | v :: vs, i => by
    simp only [List.map_cons, lv_args, m_tl, m_tv_cat]
    exact congrArg _ (m_args_tl α vs _)
theorem m_args_ok {n : Nat} : ∀ (vs : List Value) (i : Nat), m_oks n vs → m_okl n (lv_args i vs)
  | [], _, _ => fun _ h => by cases h
  | v :: vs, i, h => fun q hq => by
    rcases List.mem_cons.mp hq with rfl | hq
    · exact h v List.mem_cons_self
    · exact m_args_ok vs _ (m_oks_tail h) q hq
theorem m_sl_len (α : Nat → Nat) : ∀ vs : List Value, (lg_sl (vs.map (m_tv α))).length = (lg_sl vs).length
  | [] => rfl
  | v :: vs => by
    have ih := m_sl_len α vs
    simp only [lg_sl, List.map_cons, List.flatMap_cons, List.length_append, m_tv_cat] at ih ⊢
    rw [ih]
    congr 1
    split <;> rfl
theorem m_cst_moved {α : Nat → Nat} {A : Nat → Prop} {u U : State} {H : Heap} {h : MH} (hvm : u.vm.Alike U.vm) (hc : m_cst α A u H h) : m_cst α A U H h := by
  obtain ⟨a1, a2, a3⟩ := hc
  refine ⟨a1, fun i hi => ?_, fun i q hq => (a3 i q hq).moved hvm⟩
  obtain ⟨n, f, b1, b2⟩ := a2 i hi
  exact ⟨n, f, b1, b2.moved hvm⟩
theorem m_cst_kept {α : Nat → Nat} {A B : Nat → Prop} {U : State} {H H1 : Heap} {h : MH} (hc : m_cst α A U H h) (hq : ∀ a : Nat, a < H.size → ¬ A a → H1[a]? = H[a]?) (hAB : ∀ q, B q → A q) : m_cst α B U H1 h := by
  obtain ⟨a1, a2, a3⟩ := hc
  refine ⟨a1, fun i hi => ?_, fun i q hz => ((a3 i q hz).kept hq).narrow hAB⟩
  obtain ⟨n, f, b1, b2⟩ := a2 i hi
  exact ⟨n, f, b1, (b2.kept hq).narrow hAB⟩
theorem m_nest_warm {s U : State} (hW : s.WarmedH U.vm) (h : ∀ w ∈ m_nest, va_Nw w s) : ∀ w ∈ m_nest, va_Nw w U := by
  intro w hw
  have h1 := h w hw
  have h2 := (List.mem_filter.mp hw).2
  cases w <;> first | (simp [m_isNest] at h2; done) | exact va_Nw.warmM hW h1
theorem m_nest_same {s U : State} (e : s.vm = U.vm) (h : ∀ w ∈ m_nest, va_Nw w s) : ∀ w ∈ m_nest, va_Nw w U := by
  intro w hw
  have h1 := h w hw
  have h2 := (List.mem_filter.mp hw).2
  cases w <;> first | (simp [m_isNest] at h2; done) | exact va_Nw.same rfl e h1
theorem m_blind {D : va_G} {cA : FieldType → ClassId} {α : Nat → Nat} {h : MH} {sz : Nat} {av : List Value} : FrameBlind (va_Pc av (MPre D cA α h sz)) := by
  intro a U g mk hq
  obtain ⟨q0, q1, q2, q3, q4, q5, q6, q7, q8, q9⟩ := hq
  exact ⟨q0, q1, va_K.moved (u := U) (U := U.calling g mk a) (Vm.Alike.refl U.vm) q2, q3, q4, m_cst_moved (u := U) (U := U.calling g mk a) (Vm.Alike.refl U.vm) q5, q6, q7, m_nest_same (s := U) (U := U.calling g mk a) rfl q8, va_AO.moved (u := U) (U := U.calling g mk a) (Vm.Alike.refl U.vm) q9⟩
theorem m_preU {s : State} {A : Nat → Prop} {D : va_G} {cA : FieldType → ClassId} {α : Nat → Nat} {h : MH} {H : Heap} {locs : List Loc} (hR : MR s A D cA α h H locs) (hn : ∀ w ∈ m_nest, va_Nw w s) (ha : va_AO "ChairOld$Piece" s) (hF : ∀ q, va_A (m_ws α cA h) H.size q → A q) :
    ∀ U : State, U.heap = H → s.WarmedH U.vm → MPre D cA α h H.size U := by
  intro U hU hW
  obtain ⟨a1, a2, a3, a4, a5, a6, a7, a8⟩ := hR
  refine ⟨by rw [hU], va_K.moved hW.alike a1, by rw [hU]; exact a2, a3.weaken (fun _ _ _ _ => trivial), ?_, a7, a8, m_nest_warm hW hn, va_AO.moved hW.alike ha⟩
  rw [hU]
  exact m_cst_moved hW.alike (m_cst_kept a6 (fun q h1 h2 => a4.2.1 q h1 h2) hF)
theorem m_freeA {s : State} {A : Nat → Prop} {D : va_G} {cA : FieldType → ClassId} {α : Nat → Nat} {h : MH} {H : Heap} {locs : List Loc} (hR : MR s A D cA α h H locs) : ∀ q, va_A (m_ws α cA h) H.size q → A q := by
  intro q hq
  obtain ⟨a1, a2, a3, a4, a5, a6, a7, a8⟩ := hR
  rcases hq with ⟨k, e, hk⟩ | hq
  · exact a3.2 k (q, e) hk
  · exact a5 q (Nat.le_trans a4.1 hq)
theorem m_after {p : Program} {la : Launch} {e : Env} {R : Room} {s : State} {m : MethodId} {args : Array Value} {below : List Frame} {meth : Method} {c : Code} {H : Heap} {locs : List Loc} {cells slots mc' ms' pc : Nat} {Q : State → Prop} {A : Nat → Prop} {D : va_G} {cA : FieldType → ClassId} {α : Nat → Nat} {ls : Array Slot} {h h' : MH} {v : Option Value} {st0 rest : List Value} {a : Array Value}
    (hr : va_Run p la e R s m args below meth c H locs cells slots mc' ms' (F0 m pc ls st0) rest (MQc D cA α h v h' H.size a) (va_A (m_ws α cA h) H.size)) (hR : MR s A D cA α h H locs)
    (K : ∀ (α' : Nat → Nat) (H' : Heap) (locs' : List Loc), MR s A D cA α' h' H' locs' → MA α h α' h' → m_oks h'.length v.toList → W p la e R s m args below meth c H' locs' (cells + mc') (slots + ms') Q (F0 m (pc + 3) ls ((v.map (m_tv α')).toList ++ rest))) :
    W p la e R s m args below meth c H locs cells slots Q (F0 m pc ls st0) := by
  intro T hT X
  obtain ⟨v1, st₀, t, T', L, h0, X', hL, e1, e2, ⟨⟨α', g1, g2, g3, g4, g5, g6, g7⟩, hz, hk⟩, go⟩ := hr T hT X
  have g2 : v1 = v.map (m_tv α') := by injection g2
  subst g2
  rw [h0] at hz hk
  have hF := m_freeA hR
  obtain ⟨a1, a2, a3, a4, a5, a6, a7, a8⟩ := hR
  have h5 := a6.1
  have hR' : MR s A D cA α' h' T'.heap (locs ++ L) := by
    refine ⟨a1, by rw [e1]; exact g3, g4.weaken (fun _ q _ hq => hF q.1 hq), ⟨Nat.le_trans a4.1 (by rw [e1]; exact hz), fun q h1 h2 => ?_, fun q hq => ?_⟩, a5, ⟨Nat.le_trans h5 g1.2.1, fun i hi => ?_, fun i q hq => ?_⟩, g5, g6⟩
    · rw [e1, hk q (Nat.lt_of_lt_of_le h1 a4.1) (fun z => h2 (hF q z))]
      exact a4.2.1 q h1 h2
    · rcases List.mem_append.mp hq with h | h
      · exact a4.2.2 q h
      · exact hF _ (hL q h)
    · obtain ⟨n, f, b1, b2⟩ := a6.2.1 i hi
      exact ⟨n, f, (g1.2.2 i hi).trans b1, by rw [g1.1 i (by omega)]; exact b2⟩
    · have hi : i < 4 := (List.getElem?_eq_some_iff.mp hq).1
      rw [g1.1 i (by omega)]
      exact a6.2.2 i q hq
  obtain ⟨t2, b1, b2⟩ := K α' T'.heap (locs ++ L) hR' g1 g7 T' rfl X'
  exact ⟨t2, go t2 b1, b2⟩
set_option maxHeartbeats 1000000 in
/-- a contract out of a walk from the entry -/
theorem mc_of {M : MD} {d mc ms : Nat} {av : List Value} {h hT : MH} {v : Option Value} (hM1 : MOk1 M) (hM2 : MOk2 M) (hav : (lg_sl av).length ≤ M.2.2.1) (K : MW M d mc ms v hT 0 0 0 (lv_args 0 av) [] h) : MC M d mc ms av h v hT := by
  refine ⟨hM2, fun la D cA α sz hok => va_MetF (cc := M.2.1) (maxL := M.2.2.1) (ret := M.2.2.2.1) hM2.2.2.1 rfl ?_⟩
  intro p e s m args below meth c s₁ B hml hv
  obtain ⟨rfl, rfl, hK, hP, hD0, hc, ho, ht, hn, hao⟩ := hv
  have hx := B.exec
  have hb := B.bytes
  have hr := B.returns
  have hts := atoms_spec (ws := m_wsM M) B.pre
  have hown : s.vm.findClass M.1.cls = some m.cls := findClass_of_methodNamed B.named
  have hlocks := B.notSynchronized
  have hin : meth.name = M.1.name := (name_of_methodNamed B.named B.method).1
  have hl := lv_entry (av.map (m_tv α)) (n := M.2.2.1) (by rw [m_sl_len]; exact hav)
  rw [lg_entry_eq]
  rw [m_args_tl] at hl
  refine K hM1 p la e (headSpec (m_wsM M) (m_rm d mc ms)).room s m (av.map (m_tv α)).toArray below meth c (va_A (m_ws α cA h) s.heap.size) D cA _ α h ⟨hx, hb, hml, hown, fun w hw => hts w (List.mem_cons_of_mem _ hw), hn, hao, fun z => hin.trans z, Nat.le_refl d, Nat.le_refl (40 * d), Nat.le_refl mc, Nat.le_refl ms⟩ ?_ α s.heap [] _ ⟨hK, hP, hD0.self, va_S.rf, fun q hq => Or.inr hq, hc, ho, ht⟩ ⟨fun _ _ => rfl, Nat.le_refl _, fun _ _ => rfl⟩ hl (m_args_ok av 0 hok) (m_oks_nil _)
  intro α' H' locs' pc' ls' hR' hA' hret hos
  obtain ⟨a1, a2, a3, a4, a5, a6, a7, a8⟩ := hR'
  have hq : ∀ t : State, t.heap = H' → s.WarmedH t.vm → MQc D cA α h v hT s.heap.size (av.map (m_tv α)).toArray s (.returned (v.map (m_tv α'))) t := fun t ht' _ => ⟨⟨α', hA', rfl, by rw [ht']; exact a2, a3, a7, a8, hos⟩, a4.F ht'⟩
  unfold m_isret at hret
  split at hret
  · next e1 => exact W.vret hx hb (hr.trans e1) hq a4.2.2 hret
  · next e1 => exact W.iret hx hb (hr.trans e1) hq a4.2.2 hret
  · next e1 => exact W.zret hx hb (hr.trans e1) hret.2 hq a4.2.2 hret.1
  · next e1 => exact W.lret hx hb (hr.trans e1) hq a4.2.2 hret
  · next e1 => exact W.aret hx hb (hr.trans e1) (Or.inl ⟨_, rfl⟩) (Or.inl rfl) hq a4.2.2 hret
  · next e1 => exact W.aret hx hb (hr.trans e1) (Or.inl ⟨_, rfl⟩) (Or.inr ⟨_, rfl⟩) hq a4.2.2 hret
  · cases hret
/-- a call: what it names, its arguments (receiver first), the rest -/
def m_split : Nat → List Value → List Value → Option (List Value × List Value)
  | 0, acc, st => some (acc, st)
  | n + 1, acc, v :: st => m_split n (v :: acc) st
  | _ + 1, _, [] => none
theorem m_split_spec : ∀ (n : Nat) (acc st av r : List Value), m_split n acc st = some (av, r) → acc.reverse ++ st = av.reverse ++ r
  | 0, acc, st, av, r, h => by cases h; rfl
  | n + 1, acc, v :: st, av, r, h => by
    rw [← m_split_spec n (v :: acc) st av r h]
    simp
  | n + 1, acc, [], av, r, h => by cases h
def m_sum (r : List Value) : Nat := (r.map Value.category).sum
def m_inv (M : MD) (pc : Nat) (st : List Value) : Option (MethodName × List Value × Nat × List Value) := match m_find pc M.2.2.2.2.2 with
  | some (.invokestatic _, nx, a, _, _, y, _) => match m_split a [] st with
    | some (av, r) => bif Nat.ble (m_sum r) 8 then some (y, av, nx, r) else none
    | none => none
  | some (.invokevirtual _, nx, a, _, _, y, _) => match m_split a [] st with
    | some (av, r) => bif Nat.ble (m_sum r) 8 then some (y, av, nx, r) else none
    | none => none
  | some (.invokespecial _, nx, a, _, _, y, _) => match m_split a [] st with
    | some (av, r) => bif Nat.ble (m_sum r) 8 then some (y, av, nx, r) else none
    | none => none
  | _ => none
