theorem m_same (h : MH) : h.length = h.length ∧ ∀ i, i < 5 → h[i]? = h[i]? := ⟨rfl, fun _ _ => rfl⟩
theorem m_set_same {h : MH} {i : Nat} {c : MCell} (h5 : 5 ≤ i) : (h.set i c).length = h.length ∧ ∀ j, j < 5 → (h.set i c)[j]? = h[j]? := ⟨List.length_set .., fun j hj => List.getElem?_set_ne (by omega)⟩
theorem m_fit_spec {ty : FieldType} {w v : Value} (hd : m_kind ty w = true) (hf : m_fit w v = true) (α : Nat → Nat) : narrow ty (m_tv α v) = m_tv α v ∧ fits ty (m_tv α v) = true := by
  cases w <;> cases v <;> cases ty <;> first
    | (simp [m_kind] at hd; done)
    | (simp [m_fit] at hf; done)
    | exact ⟨rfl, rfl⟩
    | (simp only [m_kind, beq_iff_eq] at hd
       subst hd
       simp only [m_fit, beq_self_eq_true, cond_true, Bool.or_eq_true, beq_iff_eq] at hf
       rcases hf with rfl | rfl <;> exact ⟨rfl, rfl⟩)
theorem m_set_cst {α : Nat → Nat} {A : Nat → Prop} {s : State} {H : Heap} {h : MH} (hc : m_cst α A s H h) {i : Nat} (h5 : 5 ≤ i) (d : MCell) : m_cst α A s H (h.set i d) := by
  obtain ⟨a1, a2, a3⟩ := hc
  refine ⟨by rw [List.length_set]; exact a1, fun j hj => ?_, a3⟩
  obtain ⟨n, f, b1, b2⟩ := a2 j hj
  exact ⟨n, f, by rw [List.getElem?_set_ne (by omega)]; exact b1, b2⟩
theorem m_set_tyc {h : MH} (ht : ∀ (k : Nat) (c : MCell), h[k]? = some c → m_tyc c) {i : Nat} {d : MCell} (hd : m_tyc d) : ∀ (k : Nat) (c : MCell), (h.set i d)[k]? = some c → m_tyc c := by
  intro k c hk
  by_cases e : i = k
  · subst e
    by_cases hl : i < h.length
    · rw [List.getElem?_set_self hl] at hk
      cases hk
      exact hd
    · rw [List.set_eq_of_length_le (by omega)] at hk
      exact ht _ _ hk
  · rw [List.getElem?_set_ne e] at hk
    exact ht k c hk
theorem m_set_R {s : State} {A : Nat → Prop} {D : va_G} {cA : FieldType → ClassId} {α : Nat → Nat} {h : MH} {H H1 : Heap} {locs locs1 : List Loc} {i : Nat} {d : MCell} (hR : MR s A D cA α h H locs) (h5 : 5 ≤ i) (hok : m_okc h.length d) (hty : m_tyc d)
    (q1 : va_P D m_cls ((m_ws α cA h).set (i - 5) (α i, m_te α cA d)) H1) (q2 : va_D A ((m_ws α cA h).set (i - 5) (α i, m_te α cA d))) (q3 : va_S A s.heap H1 locs1) : MR s A D cA α (h.set i d) H1 locs1 := by
  obtain ⟨a1, a2, a3, a4, a5, a6, a7, a8⟩ := hR
  rw [← m_ws_set h5] at q1 q2
  exact ⟨a1, q1, q2, q3, a5, m_set_cst a6 h5 d, m_okh_set a7 hok, m_set_tyc a8 hty⟩
theorem m_put_ok {s : State} {A : Nat → Prop} {D : va_G} {cA : FieldType → ClassId} {α : Nat → Nat} {h : MH} {H H1 : Heap} {locs locs1 : List Loc} {i ci k : Nat} {fs : List Value} {v : Value} (hR : MR s A D cA α h H locs) (h5 : 5 ≤ i) (hi : h[i]? = some (.inr (ci, fs))) (hv : m_okv h.length v)
    (q1 : va_P D m_cls ((m_ws α cA h).set (i - 5) (α i, .inr (ci, (fs.map (m_tv α)).set k (m_tv α v)))) H1) (q2 : va_D A ((m_ws α cA h).set (i - 5) (α i, .inr (ci, (fs.map (m_tv α)).set k (m_tv α v))))) (q3 : va_S A s.heap H1 locs1) : MR s A D cA α (h.set i (.inr (ci, fs.set k v))) H1 locs1 := by
  have e : (fs.map (m_tv α)).set k (m_tv α v) = (fs.set k v).map (m_tv α) := by rw [List.map_set]
  rw [e] at q1 q2
  refine m_set_R hR h5 ?_ trivial q1 q2 q3
  intro z hz
  rcases List.mem_or_eq_of_mem_set hz with hz | rfl
  · exact hR.2.2.2.2.2.2.1 i _ hi z hz
  · exact hv
section MI
variable {p : Program} {la : Launch} {e : Env} {R : Room} {s : State} {m : MethodId} {args : Array Value} {below : List Frame} {meth : Method} {c : Code} {H : Heap} {locs : List Loc} {cells slots : Nat} {Q : State → Prop}
variable {A : Nat → Prop} {D : va_G} {cA : FieldType → ClassId} {α : Nat → Nat} {ls : Array Slot}
theorem m_cells {h : MH} {i : Nat} {d : MCell} (hR : MR s A D cA α h H locs) (h5 : 5 ≤ i) (hc : h[i]? = some d) : (m_ws α cA h)[i - 5]? = some (α i, m_te α cA d) := m_ws_get h5 hc
theorem m_cst_ne {h : MH} {i ci : Nat} {fs : List Value} (hR : MR s A D cA α h H locs) (hc : h[i]? = some (.inr (ci, fs))) : 5 ≤ i := by
  refine Nat.le_of_not_lt fun hi => ?_
  obtain ⟨n, f, h1, -⟩ := hR.2.2.2.2.2.1.2.1 i hi
  rw [hc] at h1
  cases h1
set_option maxHeartbeats 4000000 in
/-- what a plain instruction does, the machine does -/
theorem m_ins_ok {y0 : MethodName} {b : ByteArray} {maxL pc nx a k pos : Nat} {ins : Instr} {y : MethodName} {w : Value} {l l' : ML} {st st' : List Value} {h h' : MH} {pc' : Nat}
    (hx : p.tables.exec = Jvm.exec) (hb : c.code = b) (hown : s.vm.findClass y0.cls = some m.cls) (hts : ∀ w ∈ m_good, w.before args s = true) (hin : y0.name = "<init>" → meth.name = "<init>")
    (he : m_eok y0 b maxL (pc, ins, nx, a, k, pos, y, w) = true) (hs : m_ins ins nx a k w l st h = some (pc', l', st', h'))
    (hR : MR s A D cA α h H locs) (hl : lv_has ls maxL (m_tl α l)) (hol : m_okl h.length l) (hos : m_oks h.length st)
    (K : ∀ (H' : Heap) (locs' : List Loc) (ls' : Array Slot), MR s A D cA α h' H' locs' → lv_has ls' maxL (m_tl α l') → m_okl h'.length l' → m_oks h'.length st' → (h'.length = h.length ∧ ∀ i, i < 5 → h'[i]? = h[i]?) → W p la e R s m args below meth c H' locs' cells slots Q (F0 m pc' ls' (st'.map (m_tv α)))) :
    W p la e R s m args below meth c H locs cells slots Q (F0 m pc ls (st.map (m_tv α))) := by
  obtain ⟨hd, hnx, hk⟩ := m_eok_spec he
  cases ins with
  | iconst n =>
    simp only [m_lok, decide_eq_true_eq] at hk
    subst hk
    cases hs
    simp only [m_len] at hd hnx
    subst hnx
    exact lv_iconst hx hb hd rfl (K H locs ls hR hl hol (m_oks_cons (m_ok_int _ _) hos) (m_same h))
  | bipush n =>
    simp only [m_lok, decide_eq_true_eq] at hk
    subst hk
    cases hs
    simp only [m_len] at hd hnx
    subst hnx
    exact lv_bipush hx hb hd rfl (K H locs ls hR hl hol (m_oks_cons (m_ok_int _ _) hos) (m_same h))
  | sipush n =>
    simp only [m_lok, decide_eq_true_eq] at hk
    subst hk
    cases hs
    simp only [m_len] at hd hnx
    subst hnx
    exact lv_sipush hx hb hd rfl (K H locs ls hR hl hol (m_oks_cons (m_ok_int _ _) hos) (m_same h))
  | lconst n =>
    simp only [m_lok, decide_eq_true_eq] at hk
    subst hk
    cases hs
    simp only [m_len] at hd hnx
    subst hnx
    exact lv_lconst hx hb hd rfl (K H locs ls hR hl hol (m_oks_cons (m_ok_long _ _) hos) (m_same h))
  | ldc n =>
    cases w with
    | int x =>
      simp only [m_lok] at hk
      cases hs
      simp only [m_len] at hd hnx
      subst hnx
      exact lv_ldc hx hb hown (hts _ (m_wd_spec hk)) hd (K H locs ls hR hl hol (m_oks_cons (m_ok_int _ _) hos) (m_same h))
    | _ => simp [m_lok] at hk
  | ldc_w n =>
    cases w with
    | int x =>
      simp only [m_lok] at hk
      cases hs
      simp only [m_len] at hd hnx
      subst hnx
      exact lv_ldcw hx hb hown (hts _ (m_wd_spec hk)) hd (K H locs ls hR hl hol (m_oks_cons (m_ok_int _ _) hos) (m_same h))
    | _ => simp [m_lok] at hk
  | ldc2_w n =>
    cases w with
    | long x =>
      simp only [m_lok] at hk
      cases hs
      simp only [m_len] at hd hnx
      subst hnx
      exact lv_ldc2 hx hb hown (hts _ (m_wd_spec hk)) hd (K H locs ls hR hl hol (m_oks_cons (m_ok_long _ _) hos) (m_same h))
    | _ => simp [m_lok] at hk
  | aconst_null =>
    cases hs
    simp only [m_len] at hd hnx
    subst hnx
    exact lv_null hx hb hd (K H locs ls hR hl hol (m_oks_cons (m_ok_null _) hos) (m_same h))
  | iload n =>
    simp only [m_lok, beq_iff_eq] at hk
    simp only [m_ins] at hs
    split at hs
    · next x hg =>
      cases hs
      simp only [m_len] at hd hnx
      subst hnx
      have hq := m_get_at hl hg
      subst hk
      exact lv_iload hx hb hd hq (K H locs ls hR hl hol (m_oks_cons (m_ok_int _ _) hos) (m_same h))
    · cases hs
  | iload_n n =>
    simp only [m_lok, beq_iff_eq] at hk
    simp only [m_ins] at hs
    split at hs
    · next x hg =>
      cases hs
      simp only [m_len] at hd hnx
      subst hnx
      have hq := m_get_at hl hg
      exact lv_iload_n hx hb hd hk.symm hq (K H locs ls hR hl hol (m_oks_cons (m_ok_int _ _) hos) (m_same h))
    · cases hs
  | lload n =>
    simp only [m_lok, beq_iff_eq] at hk
    simp only [m_ins] at hs
    split at hs
    · next x hg =>
      cases hs
      simp only [m_len] at hd hnx
      subst hnx
      have hq := m_get_at hl hg
      subst hk
      exact lv_lload hx hb hd hq (K H locs ls hR hl hol (m_oks_cons (m_ok_long _ _) hos) (m_same h))
    · cases hs
  | lload_n n =>
    simp only [m_lok, beq_iff_eq] at hk
    simp only [m_ins] at hs
    split at hs
    · next x hg =>
      cases hs
      simp only [m_len] at hd hnx
      subst hnx
      have hq := m_get_at hl hg
      exact lv_lload_n hx hb hd hk.symm hq (K H locs ls hR hl hol (m_oks_cons (m_ok_long _ _) hos) (m_same h))
    · cases hs
  | aload n =>
    simp only [m_lok, beq_iff_eq] at hk
    simp only [m_ins] at hs
    split at hs
    · next x hg =>
      cases hs
      simp only [m_len] at hd hnx
      subst hnx
      have hq := m_get_at hl hg
      have ho := m_get_ok hol hg
      subst hk
      exact lv_aload hx hb hd hq (K H locs ls hR hl hol (m_oks_cons ho hos) (m_same h))
    · next hg =>
      cases hs
      simp only [m_len] at hd hnx
      subst hnx
      have hq := m_get_at hl hg
      subst hk
      exact lv_aloadN hx hb hd hq (K H locs ls hR hl hol (m_oks_cons (m_ok_null _) hos) (m_same h))
    · cases hs
  | aload_n n =>
    simp only [m_lok, beq_iff_eq] at hk
    simp only [m_ins] at hs
    split at hs
    · next x hg =>
      cases hs
      simp only [m_len] at hd hnx
      subst hnx
      have hq := m_get_at hl hg
      have ho := m_get_ok hol hg
      exact lv_aload_n hx hb hd hk.symm hq (K H locs ls hR hl hol (m_oks_cons ho hos) (m_same h))
    · next hg =>
      cases hs
      simp only [m_len] at hd hnx
      subst hnx
      have hq := m_get_at hl hg
      exact lv_aload_nN hx hb hd hk.symm hq (K H locs ls hR hl hol (m_oks_cons (m_ok_null _) hos) (m_same h))
    · cases hs
  | istore n =>
    simp only [m_lok, Bool.and_eq_true, beq_iff_eq, decide_eq_true_eq] at hk
    simp only [m_ins, m_fltK_eq, m_fltK2_eq] at hs
    split at hs
    · next x r =>
      cases hs
      simp only [m_len] at hd hnx
      subst hnx
      obtain ⟨hk1, hk2⟩ := hk
      subst hk1
      exact lv_istore hx hb hd hl hk2 (m_tl_set1 α _ (.int x) l) (fun ls' hl' => K H locs ls' hR hl' (m_okl_set1 hol (m_ok_int _ _)) (m_oks_tail hos) (m_same h))
    · cases hs
  | istore_n n =>
    simp only [m_lok, Bool.and_eq_true, beq_iff_eq, decide_eq_true_eq] at hk
    simp only [m_ins, m_fltK_eq, m_fltK2_eq] at hs
    split at hs
    · next x r =>
      cases hs
      simp only [m_len] at hd hnx
      subst hnx
      exact lv_istore_n hx hb hd hk.1.symm hl hk.2 (m_tl_set1 α _ (.int x) l) (fun ls' hl' => K H locs ls' hR hl' (m_okl_set1 hol (m_ok_int _ _)) (m_oks_tail hos) (m_same h))
    · cases hs
  | lstore n =>
    simp only [m_lok, Bool.and_eq_true, beq_iff_eq, decide_eq_true_eq] at hk
    simp only [m_ins, m_fltK_eq, m_fltK2_eq] at hs
    split at hs
    · next x r =>
      cases hs
      simp only [m_len] at hd hnx
      subst hnx
      obtain ⟨hk1, hk2⟩ := hk
      subst hk1
      exact lv_lstore hx hb hd hl hk2 (m_tl_set2 α _ (.long x) l) (fun ls' hl' => K H locs ls' hR hl' (m_okl_set2 hol (m_ok_long _ _)) (m_oks_tail hos) (m_same h))
    · cases hs
  | lstore_n n =>
    simp only [m_lok, Bool.and_eq_true, beq_iff_eq, decide_eq_true_eq] at hk
    simp only [m_ins, m_fltK_eq, m_fltK2_eq] at hs
    split at hs
    · next x r =>
      cases hs
      simp only [m_len] at hd hnx
      subst hnx
      exact lv_lstore_n hx hb hd hk.1.symm hl hk.2 (m_tl_set2 α _ (.long x) l) (fun ls' hl' => K H locs ls' hR hl' (m_okl_set2 hol (m_ok_long _ _)) (m_oks_tail hos) (m_same h))
    · cases hs
  | astore n =>
    simp only [m_lok, Bool.and_eq_true, beq_iff_eq, decide_eq_true_eq] at hk
    simp only [m_ins, m_fltK_eq, m_fltK2_eq] at hs
    split at hs
    · next x r =>
      cases hs
      simp only [m_len] at hd hnx
      subst hnx
      obtain ⟨hk1, hk2⟩ := hk
      subst hk1
      exact lv_astore hx hb hd hl hk2 (m_tl_set1 α _ (.ref x) l) (fun ls' hl' => K H locs ls' hR hl' (m_okl_set1 hol (m_oks_head hos)) (m_oks_tail hos) (m_same h))
    · next r =>
      cases hs
      simp only [m_len] at hd hnx
      subst hnx
      obtain ⟨hk1, hk2⟩ := hk
      subst hk1
      exact lv_astoreN hx hb hd hl hk2 (m_tl_set1 α _ .null l) (fun ls' hl' => K H locs ls' hR hl' (m_okl_set1 hol (m_ok_null _)) (m_oks_tail hos) (m_same h))
    · cases hs
  | astore_n n =>
    simp only [m_lok, Bool.and_eq_true, beq_iff_eq, decide_eq_true_eq] at hk
    simp only [m_ins, m_fltK_eq, m_fltK2_eq] at hs
    split at hs
    · next x r =>
      cases hs
      simp only [m_len] at hd hnx
      subst hnx
      exact lv_astore_n hx hb hd hk.1.symm hl hk.2 (m_tl_set1 α _ (.ref x) l) (fun ls' hl' => K H locs ls' hR hl' (m_okl_set1 hol (m_oks_head hos)) (m_oks_tail hos) (m_same h))
    · next r =>
      cases hs
      simp only [m_len] at hd hnx
      subst hnx
      exact lv_astore_nN hx hb hd hk.1.symm hl hk.2 (m_tl_set1 α _ .null l) (fun ls' hl' => K H locs ls' hR hl' (m_okl_set1 hol (m_ok_null _)) (m_oks_tail hos) (m_same h))
    · cases hs
  | iinc i n =>
    simp only [m_lok, Bool.and_eq_true, beq_iff_eq, decide_eq_true_eq] at hk
    obtain ⟨⟨hk1, hk2⟩, hk3⟩ := hk
    subst hk3
    subst hk1
    simp only [m_ins, m_fltK_eq] at hs
    split at hs
    · next x n2 hg hn2 =>
      cases hn2
      cases hs
      simp only [m_len] at hd hnx
      subst hnx
      obtain ⟨j, hj⟩ := List.getElem?_of_mem (List.mem_map.mpr ⟨(a, Value.int x), m_get_mem hg, rfl⟩ : (a, m_tv α (.int x)) ∈ m_tl α l)
      exact lv_iinc hx hb hd hl hj rfl hk2 (m_tl_set1 α a (.int (x + Int32.ofInt n)) l) (fun ls' hl' => K H locs ls' hR hl' (m_okl_set1 hol (m_ok_int _ _)) hos (m_same h))
    · cases hs
  | iadd =>
    simp only [m_ins] at hs
    split at hs
    · next y2 x2 r =>
      cases hs
      simp only [m_len] at hd hnx
      subst hnx
      exact lv_iadd hx hb hd (K H locs ls hR hl hol (m_oks_cons (m_ok_int _ _) (m_oks_tail (m_oks_tail hos))) (m_same h))
    · cases hs
  | isub =>
    simp only [m_ins] at hs
    split at hs
    · next y2 x2 r =>
      cases hs
      simp only [m_len] at hd hnx
      subst hnx
      exact lv_isub hx hb hd (K H locs ls hR hl hol (m_oks_cons (m_ok_int _ _) (m_oks_tail (m_oks_tail hos))) (m_same h))
    · cases hs
  | imul =>
    simp only [m_ins] at hs
    split at hs
    · next y2 x2 r =>
      cases hs
      simp only [m_len] at hd hnx
      subst hnx
      exact lv_imul hx hb hd (K H locs ls hR hl hol (m_oks_cons (m_ok_int _ _) (m_oks_tail (m_oks_tail hos))) (m_same h))
    · cases hs
  | iand =>
    simp only [m_ins] at hs
    split at hs
    · next y2 x2 r =>
      cases hs
      simp only [m_len] at hd hnx
      subst hnx
      exact lv_iand hx hb hd (K H locs ls hR hl hol (m_oks_cons (m_ok_int _ _) (m_oks_tail (m_oks_tail hos))) (m_same h))
    · cases hs
  | ior =>
    simp only [m_ins] at hs
    split at hs
    · next y2 x2 r =>
      cases hs
      simp only [m_len] at hd hnx
      subst hnx
      exact lv_ior hx hb hd (K H locs ls hR hl hol (m_oks_cons (m_ok_int _ _) (m_oks_tail (m_oks_tail hos))) (m_same h))
    · cases hs
  | ixor =>
    simp only [m_ins] at hs
    split at hs
    · next y2 x2 r =>
      cases hs
      simp only [m_len] at hd hnx
      subst hnx
      exact lv_ixor hx hb hd (K H locs ls hR hl hol (m_oks_cons (m_ok_int _ _) (m_oks_tail (m_oks_tail hos))) (m_same h))
    · cases hs
  | ishl =>
    simp only [m_ins] at hs
    split at hs
    · next y2 x2 r =>
      cases hs
      simp only [m_len] at hd hnx
      subst hnx
      exact lv_ishl hx hb hd (K H locs ls hR hl hol (m_oks_cons (m_ok_int _ _) (m_oks_tail (m_oks_tail hos))) (m_same h))
    · cases hs
  | ishr =>
    simp only [m_ins] at hs
    split at hs
    · next y2 x2 r =>
      cases hs
      simp only [m_len] at hd hnx
      subst hnx
      exact lv_ishr hx hb hd (K H locs ls hR hl hol (m_oks_cons (m_ok_int _ _) (m_oks_tail (m_oks_tail hos))) (m_same h))
    · cases hs
  | iushr =>
    simp only [m_ins] at hs
    split at hs
    · next y2 x2 r =>
      cases hs
      simp only [m_len] at hd hnx
      subst hnx
      exact lv_iushr hx hb hd rfl (K H locs ls hR hl hol (m_oks_cons (m_ok_int _ _) (m_oks_tail (m_oks_tail hos))) (m_same h))
    · cases hs
  | ladd =>
    simp only [m_ins] at hs
    split at hs
    · next y2 x2 r =>
      cases hs
      simp only [m_len] at hd hnx
      subst hnx
      exact lv_ladd hx hb hd (K H locs ls hR hl hol (m_oks_cons (m_ok_long _ _) (m_oks_tail (m_oks_tail hos))) (m_same h))
    · cases hs
  | lsub =>
    simp only [m_ins] at hs
    split at hs
    · next y2 x2 r =>
      cases hs
      simp only [m_len] at hd hnx
      subst hnx
      exact lv_lsub hx hb hd (K H locs ls hR hl hol (m_oks_cons (m_ok_long _ _) (m_oks_tail (m_oks_tail hos))) (m_same h))
    · cases hs
  | lmul =>
    simp only [m_ins] at hs
    split at hs
    · next y2 x2 r =>
      cases hs
      simp only [m_len] at hd hnx
      subst hnx
      exact lv_lmul hx hb hd (K H locs ls hR hl hol (m_oks_cons (m_ok_long _ _) (m_oks_tail (m_oks_tail hos))) (m_same h))
    · cases hs
  | land =>
    simp only [m_ins] at hs
    split at hs
    · next y2 x2 r =>
      cases hs
      simp only [m_len] at hd hnx
      subst hnx
      exact lv_land hx hb hd (K H locs ls hR hl hol (m_oks_cons (m_ok_long _ _) (m_oks_tail (m_oks_tail hos))) (m_same h))
    · cases hs
  | lor =>
    simp only [m_ins] at hs
    split at hs
    · next y2 x2 r =>
      cases hs
      simp only [m_len] at hd hnx
      subst hnx
      exact lv_lor hx hb hd (K H locs ls hR hl hol (m_oks_cons (m_ok_long _ _) (m_oks_tail (m_oks_tail hos))) (m_same h))
    · cases hs
  | lshl =>
    simp only [m_ins] at hs
    split at hs
    · next y2 x2 r =>
      cases hs
      simp only [m_len] at hd hnx
      subst hnx
      exact lv_lshl hx hb hd rfl (K H locs ls hR hl hol (m_oks_cons (m_ok_long _ _) (m_oks_tail (m_oks_tail hos))) (m_same h))
    · cases hs
  | lcmp =>
    simp only [m_ins] at hs
    split at hs
    · next y2 x2 r =>
      cases hs
      simp only [m_len] at hd hnx
      subst hnx
      exact W.lcmp hx hb hd (K H locs ls hR hl hol (m_oks_cons (m_ok_int _ _) (m_oks_tail (m_oks_tail hos))) (m_same h))
    · cases hs
  | ineg =>
    simp only [m_ins] at hs
    split at hs
    · next x2 r =>
      cases hs
      simp only [m_len] at hd hnx
      subst hnx
      exact lv_ineg hx hb hd (K H locs ls hR hl hol (m_oks_cons (m_ok_int _ _) (m_oks_tail hos)) (m_same h))
    · cases hs
  | i2l =>
    simp only [m_ins] at hs
    split at hs
    · next x2 r =>
      cases hs
      simp only [m_len] at hd hnx
      subst hnx
      exact lv_i2l hx hb hd rfl (K H locs ls hR hl hol (m_oks_cons (m_ok_long _ _) (m_oks_tail hos)) (m_same h))
    · cases hs
  | l2i =>
    simp only [m_ins] at hs
    split at hs
    · next x2 r =>
      cases hs
      simp only [m_len] at hd hnx
      subst hnx
      exact lv_l2i hx hb hd rfl (K H locs ls hR hl hol (m_oks_cons (m_ok_int _ _) (m_oks_tail hos)) (m_same h))
    · cases hs
  | i2b =>
    simp only [m_ins] at hs
    split at hs
    · next x2 r =>
      cases hs
      simp only [m_len] at hd hnx
      subst hnx
      exact lv_i2b hx hb hd rfl (K H locs ls hR hl hol (m_oks_cons (m_ok_int _ _) (m_oks_tail hos)) (m_same h))
    · cases hs
  | i2s =>
    simp only [m_ins] at hs
    split at hs
    · next x2 r =>
      cases hs
      simp only [m_len] at hd hnx
      subst hnx
      exact lv_i2s hx hb hd rfl (K H locs ls hR hl hol (m_oks_cons (m_ok_int _ _) (m_oks_tail hos)) (m_same h))
    · cases hs
  | dup =>
    simp only [m_ins] at hs
    split at hs
    · next x2 r =>
      cases hs
      simp only [m_len] at hd hnx
      subst hnx
      exact lv_dup hx hb hd rfl (K H locs ls hR hl hol (m_oks_cons (m_oks_head hos) hos) (m_same h))
    · next x2 r =>
      cases hs
      simp only [m_len] at hd hnx
      subst hnx
      exact lv_dup hx hb hd rfl (K H locs ls hR hl hol (m_oks_cons (m_oks_head hos) hos) (m_same h))
    · cases hs
  | dup2 =>
    simp only [m_ins] at hs
    split at hs
    · next y2 x2 r =>
      cases hs
      simp only [m_len] at hd hnx
      subst hnx
      exact lv_dup2_11 hx hb hd rfl rfl (K H locs ls hR hl hol (m_oks_cons (m_oks_head hos) (m_oks_cons (m_oks_head (m_oks_tail hos)) hos)) (m_same h))
    · cases hs
  | pop2 =>
    simp only [m_ins] at hs
    split at hs
    · next x2 r =>
      cases hs
      simp only [m_len] at hd hnx
      subst hnx
      exact lv_pop2_2 hx hb hd rfl (K H locs ls hR hl hol (m_oks_tail hos) (m_same h))
    · cases hs
  | goto off =>
    simp only [m_lok, decide_eq_true_eq] at hk
    cases hs
    simp only [m_len] at hd hnx
    exact lv_goto hx hb hd hk (K H locs ls hR hl hol hos (m_same h))
  | ifnull off =>
    simp only [m_lok, decide_eq_true_eq] at hk
    simp only [m_ins] at hs
    simp only [m_len] at hd hnx
    split at hs
    · next r =>
      cases hs
      exact lv_ifnullN hx hb hd hk (K H locs ls hR hl hol (m_oks_tail hos) (m_same h))
    · next x2 r =>
      cases hs
      subst hnx
      exact lv_ifnull hx hb hd (K H locs ls hR hl hol (m_oks_tail hos) (m_same h))
    · cases hs
  | ifnonnull off =>
    simp only [m_lok, decide_eq_true_eq] at hk
    simp only [m_ins] at hs
    simp only [m_len] at hd hnx
    split at hs
    · next r =>
      cases hs
      subst hnx
      exact lv_ifnonnullN hx hb hd (K H locs ls hR hl hol (m_oks_tail hos) (m_same h))
    · next x2 r =>
      cases hs
      exact lv_ifnonnull hx hb hd hk (K H locs ls hR hl hol (m_oks_tail hos) (m_same h))
    · cases hs
  | getfield idx =>
    simp only [m_ins] at hs
    split at hs
    · next i r =>
      split at hs
      · next ci fs hi =>
        split at hs
        · next v hv =>
          cases hbb : (Nat.beq ci a && Nat.ble 5 i) with
          | false => rw [hbb] at hs; cases hs
          | true =>
            rw [hbb] at hs
            cases hs
            simp only [Bool.and_eq_true] at hbb
            have e1 := Nat.eq_of_beq_eq_true hbb.1
            have h5 : 5 ≤ i := Nat.le_of_ble_eq_true hbb.2
            subst e1
            simp only [m_lok] at hk
            split at hk
            · next C T N hcl =>
              simp only [Bool.and_eq_true, decide_eq_true_eq] at hk
              obtain ⟨hkN, hkl⟩ := hk
              have hck := m_cok_at _ _ hcl
              simp only [m_len] at hd hnx
              subst hnx
              exact va_get hx hb hts hck.1 hown hR.1 hR.2.1 (i - 5) (m_ws_get h5 hi) hcl k hkN (hts _ (m_wd_spec hkl)) (fun _ z => z) (by simp [hv]) hd (K H locs ls hR hl hol (m_oks_cons (hR.2.2.2.2.2.2.1 i _ hi v (List.mem_of_getElem? hv)) (m_oks_tail hos)) (m_same h))
            · cases hk
        · cases hs
      · cases hs
    · cases hs
  | getstatic idx =>
    cases hs
    simp only [m_len] at hd hnx
    subst hnx
    simp only [m_lok] at hk
    split at hk
    · next C n2 d2 hst =>
      obtain ⟨hc5, hcT, hcZ⟩ := hR.2.2.2.2.2.1
      have hlt : a < 5 := Nat.lt_of_lt_of_le (List.getElem?_eq_some_iff.mp hst).1 (by decide)
      exact va_gets hx hb (hcZ a _ hst) hR.2.2.2.1 hown (hts _ (m_wd_spec hk)) (fun _ z => z) hd (K H locs ls hR hl hol (m_oks_cons (fun i2 e2 => by cases e2; exact Nat.lt_of_lt_of_le hlt hc5) hos) (m_same h))
    · cases hk
  | arraylength =>
    simp only [m_ins] at hs
    simp only [m_len] at hd hnx
    split at hs
    · next i r =>
      split at hs
      · next ty n2 x2 hi =>
        cases hs
        subst hnx
        have kk := K H locs ls hR hl hol (m_oks_cons (m_ok_int _ (Int32.ofNat n2)) (m_oks_tail hos)) (m_same h)
        by_cases h5 : 5 ≤ i
        · rcases hR.2.2.2.2.2.2.2 i _ hi with ⟨e1, -⟩ | ⟨e1, -⟩ | ⟨e1, -⟩
          · subst e1
            exact va_alen hx hb hR.1 hR.2.1 (i - 5) 0 (m_ws_get h5 hi) rfl rfl hd kk
          · subst e1
            exact va_alen hx hb hR.1 hR.2.1 (i - 5) 1 (m_ws_get h5 hi) rfl rfl hd kk
          · subst e1
            exact va_alen hx hb hR.1 hR.2.1 (i - 5) 2 (m_ws_get h5 hi) rfl rfl hd kk
        · obtain ⟨n3, f3, h1, hT⟩ := hR.2.2.2.2.2.1.2.1 i (Nat.lt_of_not_le h5)
          rw [hi] at h1
          cases h1
          exact va_tlen hx hb hT hR.2.2.2.1 rfl hd kk
      · cases hs
    · cases hs
  | putfield idx =>
    simp only [m_ins] at hs
    split at hs
    · next v i r =>
      split at hs
      · next ci fs hi =>
        cases hbb : (Nat.beq ci a && Nat.ble 5 i && Nat.blt k fs.length && m_fit w v) with
        | false => rw [hbb] at hs; cases hs
        | true =>
          rw [hbb] at hs
          cases hs
          simp only [Bool.and_eq_true] at hbb
          obtain ⟨⟨⟨b1, b2⟩, b3⟩, b4⟩ := hbb
          have e1 := Nat.eq_of_beq_eq_true b1
          have h5 : 5 ≤ i := Nat.le_of_ble_eq_true b2
          have hkl : k < fs.length := Nat.le_of_ble_eq_true b3
          subst e1
          simp only [m_lok] at hk
          split at hk
          · next C T N hcl =>
            simp only [Bool.and_eq_true, decide_eq_true_eq] at hk
            obtain ⟨⟨⟨hkN, hkw⟩, hkd⟩, hkf⟩ := hk
            obtain ⟨c1, c2, c3, c4, c5, c6⟩ := m_cok_at _ _ hcl
            obtain ⟨f1, f2⟩ := m_fit_spec hkd b4 α
            simp only [m_len] at hd hnx
            subst hnx
            have hRn := fun (H1 : Heap) (locs1 : List Loc) (q1 : va_P D m_cls ((m_ws α cA h).set (i - 5) (α i, .inr (ci, (fs.map (m_tv α)).set k (m_tv α v)))) H1) (q2 : va_D A ((m_ws α cA h).set (i - 5) (α i, .inr (ci, (fs.map (m_tv α)).set k (m_tv α v))))) (q3 : va_S A s.heap H1 locs1) => m_put_ok hR h5 hi (m_oks_head hos) q1 q2 q3
            cases hfn : (T k).2.2.2 with
            | false =>
              exact va_put hx hb hts c1 (m_ty0 T) c3 c2 hown hR.1 hR.2.1 hR.2.2.1 hR.2.2.2.1 (i - 5) (m_ws_get h5 hi) hcl k hkN (hts _ (m_wd_spec hkw)) (fun _ z => z) hfn (c3 k hkN) f1 f2 (by simpa using hkl) hd (fun H1 locs1 q1 q2 q3 => K H1 locs1 ls (hRn H1 locs1 q1 q2 q3) hl (by rw [List.length_set]; exact hol) (by rw [List.length_set]; exact m_oks_tail (m_oks_tail hos)) (m_set_same h5))
            | true =>
              rw [hfn] at hkf
              simp only [Bool.or_eq_true, Bool.and_eq_true, beq_iff_eq] at hkf
              rcases hkf with z | ⟨z1, z2⟩
              · cases z
              · exact va_putF hx hb hts c1 (m_ty0 T) c3 c2 hown hR.1 hR.2.1 hR.2.2.1 hR.2.2.2.1 (i - 5) (m_ws_get h5 hi) hcl k hkN (hts _ (m_wd_spec hkw)) (fun _ z => z) hfn (hin z1) z2 (c3 k hkN) f1 f2 (by simpa using hkl) hd (fun H1 locs1 q1 q2 q3 => K H1 locs1 ls (hRn H1 locs1 q1 q2 q3) hl (by rw [List.length_set]; exact hol) (by rw [List.length_set]; exact m_oks_tail (m_oks_tail hos)) (m_set_same h5))
          · cases hk
      · cases hs
    · cases hs
  | _ => cases hs
end MI
