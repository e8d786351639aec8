def m_kok (M : MD) (pc : Nat) (M' : MD) (h : MH) (av : List Value) : Bool := match m_find pc M.2.2.2.2.2 with
  | some (.invokestatic _, _) => Nat.beq M'.2.2.2.2.1.1 0 && Nat.beq av.length M'.2.2.2.2.1.2.1
  | some (.invokevirtual _, _) => match av with
    | .ref i :: As => match h[i]? with
      | some (.inr (ci, _)) => Nat.beq M'.2.2.2.2.1.1 1 && Nat.beq As.length M'.2.2.2.2.1.2.1 && Nat.beq ci M'.2.2.2.2.1.2.2 && Nat.ble 5 i
      | _ => false
    | _ => false
  | some (.invokespecial _, _) => match av with
    | .ref _ :: As => Nat.beq M'.2.2.2.2.1.1 2 && Nat.beq As.length M'.2.2.2.2.1.2.1
    | _ => false
  | _ => false
theorem m_sum_tv (α : Nat → Nat) (r : List Value) : ((r.map (m_tv α)).map fun v => v.category).sum = m_sum r := by
  unfold m_sum
  rw [List.map_map]
  congr 1
  exact List.map_congr_left fun v _ => m_tv_cat α v
theorem m_len_of {y : MethodName} {n : Nat} (h : (parseMethodDescriptor y.desc).map (fun d => d.parameters.length) = some n) : ∀ sig, parseMethodDescriptor y.desc = some sig → n = sig.parameters.length := fun sig e => by
  rw [e] at h
  exact (Option.some.inj h).symm
theorem m_good_kept {args : Array Value} {s : State} (hts : ∀ w ∈ m_good, w.before args s = true) : ∀ w ∈ m_good, ∀ (a' : Array Value) (U : State), s.WarmedH U.vm → w.before a' U = true := by
  intro w hw a' U hW
  exact word_at hW (good_of_word (List.mem_filter.mp hw).2) (hts w hw)
theorem m_wsM_kept {M : MD} (hc : Cond.code M.1 M.2.1 M.2.2.1 M.2.2.2.1 ∈ m_good) {args : Array Value} {s : State} (hts : ∀ w ∈ m_good, w.before args s = true) : ∀ w ∈ m_wsM M, ∀ (a' : Array Value) (U : State), s.WarmedH U.vm → w.before a' U = true := by
  intro w hw
  rcases List.mem_cons.mp hw with rfl | hw
  · exact m_good_kept hts _ hc
  · exact m_good_kept hts _ hw
set_option maxHeartbeats 1000000 in
theorem mw_call {M : MD} {d mc ms : Nat} {v : Option Value} {hT : MH} {cells slots pc : Nat} {l : ML} {st : List Value} {h : MH} {M' : MD} {d' mc' ms' nx : Nat} {av r : List Value} {w : Option Value} {h' : MH}
    (hC : MC M' d' mc' ms' av h w h') (hs : m_inv M pc st = some (M'.1, av, nx, r)) (hk : m_kok M pc M' h av = true) (hd : d' + 1 ≤ d) (hc : cells + mc' ≤ mc) (hsl : slots + ms' ≤ ms)
    (K : MW M d mc ms v hT (cells + mc') (slots + ms') nx l (w.toList ++ r) h') : MW M d mc ms v hT cells slots pc l st h := by
  intro hM p la e R s m args below meth c A D cA Q α0 h0 hX hret α H locs ls hR hA hl hol hos
  obtain ⟨x1, x2, x3, x4, x5, x6, x7, x8, x9, x10, x11, x12⟩ := id hX
  obtain ⟨⟨o1, o2, o3, o4, o5, o6, o7, o8, o9⟩, hC⟩ := hC
  have hF := m_freeA hR
  have hpre := m_preU hR x6 x7 hF
  have h5 := hR.2.2.2.2.2.1.1
  have hrm : (m_rm d' mc' ms').frames + 1 ≤ R.frames ∧ 8 + (M'.2.2.1 + 11) + (m_rm d' mc' ms').locals ≤ R.locals := ⟨by show d' + 1 ≤ _; omega, by show 8 + (M'.2.2.1 + 11) + 40 * d' ≤ _; omega⟩
  have hws := m_wsM_kept (M := M') o1 x5
  have fin : ∀ (e1 : st = av.reverse ++ r) (α' : Nat → Nat) (H' : Heap) (locs' : List Loc), MR s A D cA α' h' H' locs' → MA α h α' h' → m_oks h'.length w.toList → W p la e R s m args below meth c H' locs' (cells + mc') (slots + ms') Q (F0 m nx ls ((w.map (m_tv α')).toList ++ r.map (m_tv α))) := by
    intro e1 α' H' locs' hR' hA' hw'
    have hor : m_oks h.length r := fun z hz => hos z (by rw [e1]; exact List.mem_append_right _ hz)
    have KQ := K hM p la e R s m args below meth c A D cA Q α0 h0 hX hret α' H' locs' ls hR' ⟨fun i hi => (hA'.1 i (Nat.lt_of_lt_of_le hi hA.2.1)).trans (hA.1 i hi), Nat.le_trans hA.2.1 hA'.2.1, fun i hi => (hA'.2.2 i hi).trans (hA.2.2 i hi)⟩ (by rw [m_tl_congr hA'.1 hol]; exact hl) (m_okl_mono hA'.2.1 hol) (fun z hz => by
      rcases List.mem_append.mp hz with hz | hz
      · exact hw' z hz
      · exact m_okv_mono hA'.2.1 (hor z hz))
    rw [List.map_append, m_stack_congr hA'.1 hor] at KQ
    have ew : w.toList.map (m_tv α') = (w.map (m_tv α')).toList := by cases w <;> rfl
    rw [ew] at KQ
    exact KQ
  unfold m_inv at hs
  unfold m_kok at hk
  split at hs
  · next idx nx2 a k pos y w2 hf =>
    rw [hf] at hk
    obtain ⟨hde, hnx, hlo⟩ := m_eok_spec (hM _ (m_find_mem hf))
    simp only [m_len] at hde hnx
    split at hs
    · next av2 r2 hsp =>
      obtain ⟨h8, hs⟩ := m_cond hs
      cases hs
      subst hnx
      have e1 := m_split_spec a [] st _ _ hsp
      simp only [List.reverse_nil, List.nil_append] at e1
      have hoa : m_oks h.length av := fun z hz => hos z (by rw [e1]; exact List.mem_append_left _ (List.mem_reverse.mpr hz))
      simp only [Bool.and_eq_true] at hk
      have k1 := Nat.eq_of_beq_eq_true hk.1
      have k2 := Nat.eq_of_beq_eq_true hk.2
      have h8 : m_sum r ≤ 8 := Nat.le_of_ble_eq_true h8
      simp only [m_lok] at hlo
      cases hkz : (k == 0) with
      | true =>
        rw [hkz] at hlo
        exact m_after (pc := pc) (rest := r.map (m_tv α)) (va_runS (As := av.map (m_tv α)) (Ts := m_good) ⟨x1, x2, x3, x4, x5⟩ (hC la D cA α H.size hoa) ⟨⟨rfl, rfl, hrm.1, hrm.2, hws, List.mem_cons_self, x5 _ o1, x5 _ o2, o4, m_len_of o5, x5 _ (m_wd_spec hlo)⟩, x5 _ (o7 k1)⟩ ⟨m_blind, fun U hU hW => ⟨rfl, hpre U hU hW⟩⟩ rfl (by rw [List.length_map]; exact k2) hl.1 (by rw [e1]; simp [List.map_reverse]) (lv_room (by rw [m_sum_tv]; exact h8)) hde ⟨by omega, by omega⟩) hR (fin e1)
      | false =>
        rw [hkz] at hlo
        exact m_after (pc := pc) (rest := r.map (m_tv α)) (va_runSN (As := av.map (m_tv α)) (Ts := m_good) (host := "ChairOld") ⟨x1, x2, x3, x4, x5⟩ (hC la D cA α H.size hoa) ⟨⟨⟨rfl, rfl, hrm.1, hrm.2, hws, List.mem_cons_self⟩, x5 _ o1, x5 _ o2, o4, m_len_of o5, (x6 _ (m_wn_spec hlo)).use rfl⟩, x5 _ (o7 k1), trivial⟩ ⟨m_blind, fun U hU hW => ⟨rfl, hpre U hU hW⟩⟩ rfl (by rw [List.length_map]; exact k2) hl.1 (by rw [e1]; simp [List.map_reverse]) (lv_room (by rw [m_sum_tv]; exact h8)) hde ⟨by omega, by omega⟩) hR (fin e1)
    · cases hs
  · next idx nx2 a k pos y w2 hf =>
    rw [hf] at hk
    obtain ⟨hde, hnx, hlo⟩ := m_eok_spec (hM _ (m_find_mem hf))
    simp only [m_len] at hde hnx
    split at hs
    · next av2 r2 hsp =>
      obtain ⟨h8, hs⟩ := m_cond hs
      cases hs
      subst hnx
      have e1 := m_split_spec a [] st _ _ hsp
      simp only [List.reverse_nil, List.nil_append] at e1
      have hoa : m_oks h.length av := fun z hz => hos z (by rw [e1]; exact List.mem_append_left _ (List.mem_reverse.mpr hz))
      have h8 : m_sum r ≤ 8 := Nat.le_of_ble_eq_true h8
      simp only [m_lok] at hlo
      simp only [] at hk
      split at hk
      · next i As =>
        split at hk
        · next ci fs hi =>
          simp only [Bool.and_eq_true] at hk
          obtain ⟨⟨⟨k1, k2⟩, k3⟩, k4⟩ := hk
          have k1 := Nat.eq_of_beq_eq_true k1
          have k2 := Nat.eq_of_beq_eq_true k2
          have k3 := Nat.eq_of_beq_eq_true k3
          have k4 : 5 ≤ i := Nat.le_of_ble_eq_true k4
          obtain ⟨p1, p2, p3⟩ := o8 k1
          rw [← k3] at p3
          obtain ⟨q, q1, q2⟩ := Option.map_eq_some_iff.mp p3
          have hrec := va_recv hR.1 hR.2.1 q1 (m_ws_get k4 hi)
          rw [q2] at hrec
          exact m_after (pc := pc) (rest := r.map (m_tv α)) (va_runV (C := M'.1.cls) (b := α i) (As := As.map (m_tv α)) (Ts := m_good) ⟨x1, x2, x3, x4, x5⟩ (hC la D cA α H.size hoa) ⟨⟨rfl, rfl, hrm.1, hrm.2, hws, List.mem_cons_self, x5 _ o1, x5 _ o2, o4, m_len_of o5, x5 _ (m_wd_spec hlo)⟩, x5 _ p1, x5 _ p2⟩ ⟨m_blind, hrec, fun U hU hW => ⟨rfl, hpre U hU hW⟩⟩ rfl (by rw [List.length_map]; exact k2) hl.1 (by rw [e1]; simp [List.map_reverse, m_tv]) (lv_room (by rw [m_sum_tv]; exact h8)) hde ⟨by omega, by omega⟩) hR (fin e1)
        · cases hk
      · cases hk
    · cases hs
  · next idx nx2 a k pos y w2 hf =>
    rw [hf] at hk
    obtain ⟨hde, hnx, hlo⟩ := m_eok_spec (hM _ (m_find_mem hf))
    simp only [m_len] at hde hnx
    split at hs
    · next av2 r2 hsp =>
      obtain ⟨h8, hs⟩ := m_cond hs
      cases hs
      subst hnx
      have e1 := m_split_spec a [] st _ _ hsp
      simp only [List.reverse_nil, List.nil_append] at e1
      have hoa : m_oks h.length av := fun z hz => hos z (by rw [e1]; exact List.mem_append_left _ (List.mem_reverse.mpr hz))
      have h8 : m_sum r ≤ 8 := Nat.le_of_ble_eq_true h8
      simp only [m_lok] at hlo
      simp only [] at hk
      split at hk
      · next i As =>
        simp only [Bool.and_eq_true] at hk
        have k1 := Nat.eq_of_beq_eq_true hk.1
        have k2 := Nat.eq_of_beq_eq_true hk.2
        obtain ⟨p1, p2, p3⟩ := o9 k1
        rw [p3] at o1
        have hcm : Cond.code M'.1 M'.2.1 M'.2.2.1 none ∈ m_wsM M' := List.mem_cons_of_mem _ o1
        cases hkz : (k == 0) with
        | true =>
          rw [hkz] at hlo
          exact m_after (pc := pc) (rest := r.map (m_tv α)) (va_runI (b := α i) (As := As.map (m_tv α)) (Ts := m_good) ⟨x1, x2, x3, x4, x5⟩ (hC la D cA α H.size hoa) ⟨⟨rfl, rfl, hrm.1, hrm.2, hws, hcm, x5 _ o1, x5 _ o2, o4, m_len_of o5, x5 _ (m_wd_spec hlo)⟩, p2, x5 _ p1⟩ ⟨m_blind, fun U hU hW => ⟨rfl, hpre U hU hW⟩⟩ rfl (by rw [List.length_map]; exact k2) hl.1 (by rw [e1]; simp [List.map_reverse, m_tv]) (lv_room (by rw [m_sum_tv]; exact h8)) hde ⟨by omega, by omega⟩) hR (fin e1)
        | false =>
          rw [hkz] at hlo
          exact m_after (pc := pc) (rest := r.map (m_tv α)) (va_runIN (b := α i) (As := As.map (m_tv α)) (Ts := m_good) (host := "ChairOld") ⟨x1, x2, x3, x4, x5⟩ (hC la D cA α H.size hoa) ⟨⟨⟨rfl, rfl, hrm.1, hrm.2, hws, hcm⟩, x5 _ o1, x5 _ o2, o4, m_len_of o5, (x6 _ (m_wn_spec hlo)).use rfl⟩, p2, x5 _ p1⟩ ⟨m_blind, fun U hU hW => ⟨rfl, hpre U hU hW⟩⟩ rfl (by rw [List.length_map]; exact k2) hl.1 (by rw [e1]; simp [List.map_reverse, m_tv]) (lv_room (by rw [m_sum_tv]; exact h8)) hde ⟨by omega, by omega⟩) hR (fin e1)
      · cases hk
    · cases hs
  · cases hs
