/-! calls on both sides: told, found, tape, laws -/
section O2A
variable {sc : Nat × (Nat → Int32)} {x x' : XS} {m m' : OS} {P P' : List PieceS} {T : Nat → Option Tx}
theorem tz_zt (t : xTS) : tz (zt t) = t := rfl
theorem sp_drop_in (f : Nat → Int32) (i : Nat) (h : i < 39) : sp_drop f i = f (1 + i) := pk_cpy_in (f := f) (g := f) (sp := 1) (dp := 0) (n := 39) (j := i) (by omega) (by omega)
theorem TI_bec {t : xTS} (h : TI t) {dn : Nat} (hd : t.2.2.2.2.1 = nI dn) (h40 : dn ≤ 40) (c : Nat) (hc : c < 24) (v : Int32) (hv : rOK c v) : TI (sp_bec t dn c v) := by
  obtain ⟨dn', kn, h1, h2, h3, h4, h5, h6⟩ := id h
  have e : dn' = dn := by
    rw [h1] at hd
    exact (nI_eq (by omega) (by omega)).mp hd
  subst e
  unfold sp_bec
  by_cases hw : t.1 c = v
  · rw [if_pos hw]
    exact h
  · rw [if_neg hw]
    have q1 : ∀ c', c' < 24 → rOK c' (upd t.1 c v c') := by
      intro c' hc'
      by_cases e : c' = c
      · rw [e, upd_at]
        exact hv
      · rw [upd_ne e]
        exact h5 c' hc'
    unfold sp_rem
    by_cases hd40 : dn' = 40
    · rw [if_pos hd40]
      refine ⟨40, 40, rfl, rfl, Nat.le_refl _, Nat.le_refl _, q1, fun i hi => ?_⟩
      show ∃ c', c' < 24 ∧ upd (sp_drop t.2.1) 39 (nI c) i = nI c' ∧ rOK c' (upd (sp_drop t.2.2.1) 39 (t.1 c) i) ∧ rOK c' (upd (sp_drop t.2.2.2.1) 39 v i)
      by_cases e : i = 39
      · rw [e, upd_at, upd_at, upd_at]
        exact ⟨c, hc, rfl, h5 c hc, hv⟩
      · rw [upd_ne e, upd_ne e, upd_ne e, sp_drop_in _ _ (by omega), sp_drop_in _ _ (by omega), sp_drop_in _ _ (by omega)]
        exact h6 (1 + i) (by omega)
    · rw [if_neg hd40]
      refine ⟨dn' + 1, dn' + 1, rfl, rfl, Nat.le_refl _, by omega, q1, fun i hi => ?_⟩
      show ∃ c', c' < 24 ∧ upd t.2.1 dn' (nI c) i = nI c' ∧ rOK c' (upd t.2.2.1 dn' (t.1 c) i) ∧ rOK c' (upd t.2.2.2.1 dn' v i)
      by_cases e : i = dn'
      · rw [e, upd_at, upd_at, upd_at]
        exact ⟨c, hc, rfl, h5 c hc, hv⟩
      · rw [upd_ne e, upd_ne e, upd_ne e]
        exact h6 i (by omega)
theorem done_eq (h : IvT x m) : za_done m = xT_done x := (congrArg (fun t : xTS => t.2.2.2.2.1) h.1).symm
theorem kept_eq (h : IvT x m) : za_keptMany m = xT_kept x := (congrArg (fun t : xTS => t.2.2.2.2.2) h.1).symm
theorem cells_eq (h : IvT x m) : za_chAt m = xT_cells x := (congrArg (fun t : xTS => t.2.1) h.1).symm
theorem op_mend (h : Inv x m P) (n w v : Int32) : OPi sc x m P M_C_mend M_O_mend 4 2 0 0 [.int n, .int w, .int v] := by
  obtain ⟨a1, a2, a3, a4, a5, a6, a7, a8⟩ := id h
  by_cases hb : sp_mendOk n w v
  · obtain ⟨h1, h2, h3⟩ := hb
    obtain ⟨a, ha, rfl⟩ := rng (by decide) h1
    obtain ⟨b, hbb, rfl⟩ := rng (by decide) h2
    rw [nI_clamp (by omega)] at h3
    obtain ⟨dn, kn, g1, g2, g3, g4, g5, g6⟩ := a1.2
    have C := c_C_mend (N := P.length) (sc := sc) (x := x) (m := m) (tl := pcells 67 P) (dn := dn) g1 (by omega) a b v ha hbb h3
    have D := c_O_mend (N := P.length) (sc := sc) (x := xT_s x (sp_bec (gT x) dn (a * 6 + b) v)) (m := m) (tl := pcells 67 P) (dn := dn) ((done_eq a1).trans g1) (by omega) a b v ha hbb h3
    rw [may_eq a1] at D
    refine ⟨_, _, _, P, C, D, ⟨?_, ?_⟩, a2, a3, a4, a5, a6, a7, a8⟩
    · show sp_bec x.1 dn (a * 6 + b) v = tz (zt (sp_bec (tz m.1) dn (a * 6 + b) v))
      rw [tz_zt, ← a1.1]
    · exact TI_bec a1.2 g1 (by omega) (a * 6 + b) (by omega) v (by
        show k_least ((a * 6 + b) / 6) ≤ v ∧ v ≤ k_most ((a * 6 + b) / 6)
        rw [show (a * 6 + b) / 6 = a by omega]
        exact h3)
  · exact OPi_bad h (c_C_mend_bad n w v hb) (c_O_mend_bad n w v hb)
theorem op_undo (h : Inv x m P) : OPi sc x m P M_C_undo M_O_undo 2 0 0 0 [] := by
  obtain ⟨a1, a2, a3, a4, a5, a6, a7, a8⟩ := id h
  obtain ⟨dn, kn, g1, g2, g3, g4, g5, g6⟩ := a1.2
  cases dn with
  | zero => exact OPi_bad h (c_C_undo (c_T_back0 g1) rfl) (c_O_undo0 ((done_eq a1).trans g1))
  | succ dn =>
    obtain ⟨c, hc, e1, e2, e3⟩ := g6 dn (by omega)
    have C := c_C_undo (N := P.length) (sc := sc) (x := x) (m := m) (tl := pcells 67 P) (c_T_back (dn := dn) g1 (by omega) c hc e1) rfl
    have D := c_O_undo (N := P.length) (sc := sc) (x := xT_s x (sp_undo (gT x) (dn + 1) c)) (m := m) (tl := pcells 67 P) (dn := dn) ((done_eq a1).trans g1) (by omega) c hc (by rw [cells_eq a1]; exact e1)
    refine ⟨_, _, _, P, C, D, ⟨?_, ?_⟩, a2, a3, a4, a5, a6, a7, a8⟩
    · show sp_undo x.1 (dn + 1) c = tz (zt (sp_undo (tz m.1) (dn + 1) c))
      rw [tz_zt, ← a1.1]
    · refine ⟨dn, kn, rfl, g2, by omega, g4, fun c' hc' => ?_, g6⟩
      show rOK c' (upd x.1.1 c (x.1.2.2.1 dn) c')
      by_cases e : c' = c
      · rw [e, upd_at]
        exact e2
      · rw [upd_ne e]
        exact g5 c' hc'
theorem op_redo (h : Inv x m P) : OPi sc x m P M_C_redo M_O_redo 2 0 0 0 [] := by
  obtain ⟨a1, a2, a3, a4, a5, a6, a7, a8⟩ := id h
  obtain ⟨dn, kn, g1, g2, g3, g4, g5, g6⟩ := a1.2
  by_cases hk : dn = kn
  · subst hk
    exact OPi_bad h (c_C_redo (c_T_again0 g1 g2 g4) rfl) (c_O_redo0 ((done_eq a1).trans g1) ((kept_eq a1).trans g2))
  · obtain ⟨c, hc, e1, e2, e3⟩ := g6 dn (by omega)
    have C := c_C_redo (N := P.length) (sc := sc) (x := x) (m := m) (tl := pcells 67 P) (c_T_again (dn := dn) (kn := kn) g1 g2 (by omega) g4 c hc e1) rfl
    have D := c_O_redo (N := P.length) (sc := sc) (x := xT_s x (sp_redo (gT x) dn c)) (m := m) (tl := pcells 67 P) (dn := dn) (kn := kn) ((done_eq a1).trans g1) ((kept_eq a1).trans g2) (by omega) g4 c hc (by rw [cells_eq a1]; exact e1)
    refine ⟨_, _, _, P, C, D, ⟨?_, ?_⟩, a2, a3, a4, a5, a6, a7, a8⟩
    · show sp_redo x.1 dn c = tz (zt (sp_redo (tz m.1) dn c))
      rw [tz_zt, ← a1.1]
    · refine ⟨dn + 1, kn, rfl, g2, by omega, g4, fun c' hc' => ?_, g6⟩
      show rOK c' (upd x.1.1 c (x.1.2.2.2.1 dn) c')
      by_cases e : c' = c
      · rw [e, upd_at]
        exact e3
      · rw [upd_ne e]
        exact g5 c' hc'
theorem op_feed (h : Inv x m P) (c : Int32) : OPi sc x m P M_C_feed M_O_feed 1 1 0 0 [.int c] := by
  obtain ⟨a1, a2, a3, a4, a5, a6, a7, a8⟩ := id h
  obtain ⟨t1, t2, n, t3, t4, t5⟩ := a4
  by_cases hb : 0 ≤ c ∧ c ≤ nI 255
  · by_cases hn : n < 120
    · have C := c_C_feed (N := P.length) (sc := sc) (x := x) (m := m) (tl := pcells 67 P) c hb t4 hn
      have D := c_O_feed (N := P.length) (sc := sc) (x := xR_s x (upd (xR_tape x) n c, nI (n + 1), xR_code x, xR_size x, xR_at x, xR_fault x)) (m := m) (tl := pcells 67 P) c hb (t2.symm.trans t4) hn
      refine ⟨_, _, _, P, C, D, a1, a2, a3, ⟨?_, rfl, n + 1, by omega, rfl, fun j hj => ?_⟩, a5, a6, a7, a8⟩
      · show upd (xR_tape x) n c = upd (zt_tape m) n c
        rw [t1]
      · show ¬ upd (xR_tape x) n c j = -1
        by_cases e : j = n
        · rw [e, upd_at]
          intro z
          rw [z] at hb
          exact absurd hb.1 (by decide)
        · rw [upd_ne e]
          exact t5 j (by omega)
    · have e : n = 120 := by omega
      subst e
      exact OPi_bad h (c_C_feed_full c hb t4) (c_O_feed_full c hb (t2.symm.trans t4))
  · exact OPi_bad h (c_C_feed_bad c hb) (c_O_feed_bad c hb)
theorem x_at_congr {cd cd2 : Nat → Int32} : ∀ (L : List Int32) (a b : Nat), (∀ j, j < L.length → cd2 (b + j) = cd (a + j)) → x_at cd a L → x_at cd2 b L
  | [], _, _, _, _ => trivial
  | c :: L, a, b, h, hx => by
    refine ⟨?_, x_at_congr L (a + 1) (b + 1) (fun j hj => ?_) hx.2⟩
    · have := h 0 (by rw [List.length_cons]; omega)
      rw [Nat.add_zero, Nat.add_zero] at this
      rw [this]
      exact hx.1
    · have := h (j + 1) (by rw [List.length_cons]; omega)
      rw [show b + 1 + j = b + (j + 1) by omega, show a + 1 + j = a + (j + 1) by omega]
      exact this
theorem op_law (h : Inv x m P) (a : Int32) : OPi sc x m P M_C_law M_O_law 59 45 0 0 [.int a] := by
  obtain ⟨a1, a2, ⟨T, l1, l2, l3⟩, a4, a5, a6, a7, a8⟩ := id h
  obtain ⟨t1, t2, n, t3, t4, t5⟩ := a4
  by_cases hb : 0 ≤ a ∧ a ≤ nI 5
  · obtain ⟨a, ha, rfl⟩ := rng (by decide) hb
    cases hp : p_text (txR n (xR_tape x)) n with
    | inl f =>
      obtain ⟨b', s', cd', C⟩ := c_C_law_f (N := P.length) (sc := sc) (m := m) (tl := pcells 67 P) a (by omega) t4 t3 t5 hp
      rw [t1] at hp
      obtain ⟨b2, op', D⟩ := c_O_law_f (N := P.length) (sc := sc) (x := xR_s x (xR_tape x, 0, cd', s', b', nI f)) (tl := pcells 67 P) a (by omega) t3 (t2.symm.trans t4) hp
      exact ⟨_, _, _, P, C, D, a1, a2, ⟨T, LOK_congr rfl rfl l1, l2, l3⟩, ⟨t1, rfl, 0, by omega, rfl, fun j hj => absurd hj (by omega)⟩, a5, a6, a7, a8⟩
    | inr tx =>
      have hX := txR_ok n t3 (xR_tape x)
      obtain ⟨k1, k2, k3⟩ := p_text_ok hX hp
      obtain ⟨b', C⟩ := c_C_law (sc := sc) (m := m) (P := P) a2.2.1 a (by omega) t4 t3 t5 hp
      have hp' := hp
      rw [t1] at hp'
      obtain ⟨b2, D⟩ := c_O_law (N := (sp_map (sp_fg (nI a)) P P.length).length) (sc := sc) (x := xW_s (xR_s x (xR_tape x, 0, x_wr (xR_code x) 0 (T_code tx), nI (T_code tx).length, b', -1)) (va_cpy (x_wr (xR_code x) 0 (T_code tx)) (xW_code x) 0 (a * 120) (T_code tx).length, upd (xW_sizes x) a (nI (T_code tx).length), xW_stack x)) (m := m) (tl := pcells 67 (sp_map (sp_fg (nI a)) P P.length)) a (by omega) t3 (t2.symm.trans t4) hp'
      have hpc : ∀ (i : Nat) (q : PieceS), (sp_map (sp_fg (nI a)) P P.length)[i]? = some q → ∃ p, P[i]? = some p ∧ q = sp_fg (nI a) p := by
        intro i q hq
        have hi : i < P.length := by
          have := (List.getElem?_eq_some_iff.mp hq).1
          rw [sp_map_len] at this
          exact this
        refine ⟨P[i], at_some hi, ?_⟩
        rw [sp_map_lt (sp_fg (nI a)) P P.length i P[i] (Nat.le_refl _) hi (at_some hi)] at hq
        cases hq
        rfl
      refine ⟨_, _, _, _, C, D, a1, ?_, ⟨fun b => if b = a then some tx else T b, fun b hb6 => ?_, fun b hb6 => ?_, fun i q hq => ?_⟩, ⟨t1, rfl, 0, by omega, rfl, fun j hj => absurd hj (by omega)⟩, a5, a6, a7, a8⟩
      · refine ⟨by rw [sp_map_len]; exact a2.1, by rw [sp_map_len]; exact a2.2.1, fun i q hq => ?_⟩
        obtain ⟨p, hpp, rfl⟩ := hpc i q hq
        exact a2.2.2 i p hpp
      · dsimp only
        by_cases e : b = a
        · rw [if_pos e, e]
          show T_ok tx ∧ upd (xW_sizes x) a (nI (T_code tx).length) a = nI (T_code tx).length ∧ 1 ≤ (T_code tx).length ∧ (T_code tx).length ≤ 120 ∧ x_at (va_cpy (x_wr (xR_code x) 0 (T_code tx)) (xW_code x) 0 (a * 120) (T_code tx).length) (a * 120) (T_code tx)
          refine ⟨k1, upd_at _ _ _, k2, by omega, x_at_congr _ 0 (a * 120) (fun j hj => ?_) (x_at_wr (T_code tx) (xR_code x) 0)⟩
          rw [pk_cpy_in (by omega) (by omega), show a * 120 + j - a * 120 = j by omega]
        · rw [if_neg e]
          have hl := l1 b hb6
          cases hT : T b with
          | none =>
            rw [hT] at hl
            show upd (xW_sizes x) a (nI (T_code tx).length) b = 0
            rw [upd_ne e]
            exact hl
          | some t =>
            rw [hT] at hl
            obtain ⟨q1, q2, q3, q4, q5⟩ := hl
            show T_ok t ∧ upd (xW_sizes x) a (nI (T_code tx).length) b = nI (T_code t).length ∧ 1 ≤ (T_code t).length ∧ (T_code t).length ≤ 120 ∧ x_at (va_cpy (x_wr (xR_code x) 0 (T_code tx)) (xW_code x) 0 (a * 120) (T_code tx).length) (b * 120) (T_code t)
            refine ⟨q1, by rw [upd_ne e]; exact q2, q3, q4, x_at_congr _ (b * 120) (b * 120) (fun j hj => ?_) q5⟩
            rw [pk_cpy_out (by omega)]
      · by_cases e : b = a
        · right
          refine ⟨n, tx, t3, if_pos e, ?_, ?_⟩
          · show upd (zt_textMany m) a (nI n) b = nI n
            rw [e, upd_at]
          · show p_text (txR n (fun j => sp_tcp (zt_tape m) (zt_text m) a n (120 * b + j))) n = _
            rw [e, sp_tcp_tx]
            exact hp'
        · rcases l2 b hb6 with ⟨q1, q2⟩ | ⟨n2, t, q1, q2, q3, q4⟩
          · left
            refine ⟨by dsimp only; rw [if_neg e]; exact q1, ?_⟩
            show upd (zt_textMany m) a (nI n) b = -1
            rw [upd_ne e]
            exact q2
          · right
            refine ⟨n2, t, q1, by dsimp only; rw [if_neg e]; exact q2, ?_, ?_⟩
            · show upd (zt_textMany m) a (nI n) b = nI n2
              rw [upd_ne e]
              exact q3
            · show p_text (txR n2 (fun j => sp_tcp (zt_tape m) (zt_text m) a n (120 * b + j))) n2 = _
              rw [sp_tcp_ne _ _ _ _ _ _ t3 q1 e]
              exact q4
      · obtain ⟨p, hpp, rfl⟩ := hpc i q hq
        obtain ⟨kn, g1, g2, g3⟩ := l3 i p hpp
        refine ⟨kn &&& (2 ^ a ^^^ 63), b_and_lt g1, ?_, fun j kt hj hkt hbit => ?_⟩
        · show i_known p &&& ((1 <<< (nI a &&& 31)) ^^^ (-1)) = _
          rw [g2, b_sh a (by omega), b_andn kn g1 _ (p2_lt (by omega))]
        · rw [b_tb_andn hj, Bool.and_eq_true, Nat.testBit_two_pow] at hbit
          have hne : ¬ j = a := by
            intro z
            rw [z, decide_eq_true rfl] at hbit
            exact absurd hbit.2 (by decide)
          show i_num p (180 * j + kt) = nI (nbW (fun b => if b = a then some tx else T b) (i_wood p) (i_place p) j kt)
          rw [g3 j kt hj hkt hbit.1]
          unfold nbW
          dsimp only
          rw [if_neg hne]
  · exact OPi_bad h (c_C_law_bad a hb) (c_O_law_bad a hb)
theorem sp_found_w {lk th j : Nat} (hlk : lk < 64) (hth : th < 64) (hj : j < 6) : sp_found (nI lk) (nI th) (nI j) = nI (wayB lk th j) := by
  unfold sp_found wayB
  by_cases h1 : lk.testBit j = true
  · rw [if_pos ((b_has _ hlk _ hj).mpr h1), if_pos h1]
    by_cases h2 : th.testBit j = true
    · rw [if_pos ((b_has _ hth _ hj).mpr h2), if_pos h2]
      rfl
    · rw [if_neg (fun z => h2 ((b_has _ hth _ hj).mp z)), if_neg h2]
      rfl
  · rw [if_neg (fun z => h1 ((b_has _ hlk _ hj).mp z)), if_neg h1]
    rfl
theorem op_find (h : Inv x m P) (pm u : Int32) : OPi sc x m P M_C_find M_O_find 2 3 0 0 [.int pm, .int u] := by
  obtain ⟨a1, a2, a3, a4, a5, a6, a7, a8⟩ := id h
  by_cases hb : sp_pm P.length pm ∧ (0 ≤ u ∧ u ≤ nI 2)
  · obtain ⟨⟨⟨k, hk, e1⟩, h2⟩, hu⟩ := hb
    obtain ⟨j, hj, e2⟩ := rng (by decide) h2
    obtain ⟨c1, c2, lk, th, hlk, hth, el, et, hf⟩ := a2.2.2 k P[k] (at_some hk)
    have C := c_C_find (sc := sc) (x := x) (m := m) a2.2.1 pm u k j P[k] (at_some hk) e1 e2 hj hu
    have D := c_O_find (N := (P.set k (i_wood P[k], i_place P[k], sp_lk (i_looked P[k]) (nI j) u, sp_th (i_there P[k]) (nI j) u, i_known P[k], i_num P[k])).length) (sc := sc) (x := x) (m := m) (tl := pcells 67 (P.set k (i_wood P[k], i_place P[k], sp_lk (i_looked P[k]) (nI j) u, sp_th (i_there P[k]) (nI j) u, i_known P[k], i_num P[k]))) a2.1 a2.2.1 pm u k j hk e1 e2 hj hu
    have h64 := p2_lt (j := j) (by omega)
    obtain ⟨lk', hlk', el'⟩ : ∃ lk', lk' < 64 ∧ sp_lk (nI lk) (nI j) u = nI lk' := by
      unfold sp_lk
      split
      · exact ⟨lk &&& (2 ^ j ^^^ 63), b_and_lt hlk, by rw [b_sh j (by omega), b_andn lk hlk _ h64]⟩
      · exact ⟨lk ||| 2 ^ j, b_or_lt hlk h64, by rw [b_sh j (by omega), b_or lk hlk _ h64]⟩
    obtain ⟨th', hth', et'⟩ : ∃ th', th' < 64 ∧ sp_th (nI th) (nI j) u = nI th' := by
      unfold sp_th
      split
      · exact ⟨th ||| 2 ^ j, b_or_lt hth h64, by rw [b_sh j (by omega), b_or th hth _ h64]⟩
      · exact ⟨th &&& (2 ^ j ^^^ 63), b_and_lt hth, by rw [b_sh j (by omega), b_andn th hth _ h64]⟩
    have hway : ∀ i, i < 6 → nI (wayB lk' th' i) = if i = j then u else nI (wayB lk th i) := by
      intro i hi
      rcases (n_012 u).mp hu with rfl | rfl | rfl
      · have q1 : lk' = lk &&& (2 ^ j ^^^ 63) := by
          have : sp_lk (nI lk) (nI j) 0 = nI (lk &&& (2 ^ j ^^^ 63)) := by unfold sp_lk; rw [if_pos rfl, b_sh j (by omega), b_andn lk hlk _ h64]
          rw [this] at el'
          exact ((nI_eq (by have := b_and_lt (b := 2 ^ j ^^^ 63) hlk; omega) (by omega)).mp el').symm
        have q2 : th' = th &&& (2 ^ j ^^^ 63) := by
          have : sp_th (nI th) (nI j) 0 = nI (th &&& (2 ^ j ^^^ 63)) := by unfold sp_th; rw [if_neg (by decide), b_sh j (by omega), b_andn th hth _ h64]
          rw [this] at et'
          exact ((nI_eq (by have := b_and_lt (b := 2 ^ j ^^^ 63) hth; omega) (by omega)).mp et').symm
        rw [q1, q2]
        unfold wayB
        rw [b_tb_andn hi, b_tb_andn hi, Nat.testBit_two_pow]
        by_cases e : i = j
        · rw [if_pos e, e, decide_eq_true rfl, Bool.not_true, Bool.and_false, if_neg (by decide)]
          rfl
        · rw [if_neg e, decide_eq_false (fun z => e z.symm), Bool.not_false, Bool.and_true, Bool.and_true]
      · have q1 : lk' = lk ||| 2 ^ j := by
          have : sp_lk (nI lk) (nI j) 1 = nI (lk ||| 2 ^ j) := by unfold sp_lk; rw [if_neg (by decide), b_sh j (by omega), b_or lk hlk _ h64]
          rw [this] at el'
          exact ((nI_eq (by have := b_or_lt hlk h64; omega) (by omega)).mp el').symm
        have q2 : th' = th ||| 2 ^ j := by
          have : sp_th (nI th) (nI j) 1 = nI (th ||| 2 ^ j) := by unfold sp_th; rw [if_pos rfl, b_sh j (by omega), b_or th hth _ h64]
          rw [this] at et'
          exact ((nI_eq (by have := b_or_lt hth h64; omega) (by omega)).mp et').symm
        rw [q1, q2, wayB_up1]
        unfold up
        by_cases e : i = j
        · rw [if_pos e, if_pos e]
          rfl
        · rw [if_neg e, if_neg e]
      · have q1 : lk' = lk ||| 2 ^ j := by
          have : sp_lk (nI lk) (nI j) 2 = nI (lk ||| 2 ^ j) := by unfold sp_lk; rw [if_neg (by decide), b_sh j (by omega), b_or lk hlk _ h64]
          rw [this] at el'
          exact ((nI_eq (by have := b_or_lt hlk h64; omega) (by omega)).mp el').symm
        have q2 : th' = th &&& (2 ^ j ^^^ 63) := by
          have : sp_th (nI th) (nI j) 2 = nI (th &&& (2 ^ j ^^^ 63)) := by unfold sp_th; rw [if_neg (by decide), b_sh j (by omega), b_andn th hth _ h64]
          rw [this] at et'
          exact ((nI_eq (by have := b_and_lt (b := 2 ^ j ^^^ 63) hth; omega) (by omega)).mp et').symm
        rw [q1, q2, wayB_up2 hi]
        unfold up
        by_cases e : i = j
        · rw [if_pos e, if_pos e]
          rfl
        · rw [if_neg e, if_neg e]
    have hle : ∀ a b i, wayB a b i ≤ 2 := by
      intro a b i
      unfold wayB
      split
      · split <;> omega
      · omega
    have eans : zp_found m (6 * k + j) = sp_found (i_looked P[k]) (i_there P[k]) (nI j) := by
      rw [el, et, sp_found_w hlk hth (by omega)]
      exact (hf j (by omega)).1
    rw [eans] at D
    refine ⟨_, _, _, _, C, D, a1, ⟨?_, ?_, ?_⟩, ?_, a4, a5, a6, a7, a8⟩
    · rw [List.length_set]; exact a2.1
    · rw [List.length_set]; exact a2.2.1
    · intro i q hq
      by_cases e : k = i
      · subst e
        rw [List.getElem?_set_self hk] at hq
        cases hq
        refine ⟨c1, c2, lk', th', hlk', hth', ?_, ?_, fun i hi => ⟨?_, hle _ _ _⟩⟩
        · show sp_lk (i_looked P[k]) (nI j) u = nI lk'
          rw [el]; exact el'
        · show sp_th (i_there P[k]) (nI j) u = nI th'
          rw [et]; exact et'
        · show upd (zp_found m) (6 * k + j) u (6 * k + i) = _
          rw [hway i hi]
          by_cases e : i = j
          · rw [if_pos e, e, upd_at]
          · rw [if_neg e, upd_ne (by omega)]
            exact (hf i hi).1
      · rw [List.getElem?_set_ne e] at hq
        obtain ⟨d1, d2, lk2, th2, d3, d4, d5, d6, d7⟩ := a2.2.2 i q hq
        refine ⟨d1, d2, lk2, th2, d3, d4, d5, d6, fun i2 hi2 => ⟨?_, (d7 i2 hi2).2⟩⟩
        show upd (zp_found m) (6 * k + j) u (6 * i + i2) = _
        rw [upd_ne (by omega)]
        exact (d7 i2 hi2).1
    · obtain ⟨T, l1, l2, l3⟩ := a3
      refine ⟨T, l1, l2, fun i q hq => ?_⟩
      by_cases e : k = i
      · subst e
        rw [List.getElem?_set_self hk] at hq
        cases hq
        exact l3 k P[k] (at_some hk)
      · rw [List.getElem?_set_ne e] at hq
        exact l3 i q hq
  · exact OPi_bad h (c_C_find_bad a2.2.1 pm u hb) (c_O_find_bad a2.1 a2.2.1 pm u hb)
theorem op_of (h : Inv x m P) (n w : Int32) : OPi sc x m P M_C_of M_O_of 2 2 0 0 [.int n, .int w] := by
  obtain ⟨a1, a2, a3, a4, a5, a6, a7, a8⟩ := id h
  by_cases hw : w < 20
  · by_cases hn : ∃ j, j < P.length ∧ n = nI j
    · obtain ⟨k, hk, rfl⟩ := hn
      obtain ⟨c1, c2, lk, th, hlk, hth, el, et, hf⟩ := a2.2.2 k P[k] (at_some hk)
      have C := c_C_of_pc (sc := sc) (x := x) (m := m) a2.2.1 k P[k] (at_some hk) w hw
      have D := c_O_of_pc (N := P.length) (sc := sc) (x := x) (m := m) (tl := pcells 67 P) k (by have := a2.2.1; omega) (by rw [a2.1]; exact n_predI hk (by have := a2.2.1; omega)) w hw
      have e : sp_pcO (zp_wood m) (zp_place m) (zp_found m) k w = sp_pcv P[k] w := by
        unfold sp_pcO sp_pcv
        rw [c1, c2]
        by_cases h10 : 10 ≤ w ∧ w ≤ 15
        · obtain ⟨q, hq, rfl⟩ := nI_of (Int32.not_lt.mpr (Int32.le_trans (show (0 : Int32) ≤ 10 by decide) h10.1))
          have hq1 := (nI_leI (a := 10) (by omega) hq).mp h10.1
          have hq2 := (nI_leI (b := 15) hq (by omega)).mp h10.2
          rw [if_pos h10, if_pos h10, nI_clamp hq, show nI q - 10 = nI (q - 10) from pk_sub (b := 10) hq1, el, et, sp_found_w hlk hth (by omega), (hf (q - 10) (by omega)).1]
        · rw [if_neg h10, if_neg h10]
      rw [e] at D
      exact OPi_bad h C D
    · exact OPi_bad h (c_C_of_null n w hw a2.2.1 hn) (c_O_of_null n w hw (fun z => hn (n_predN (by have := a2.2.1; omega) (by rw [a2.1] at z; exact z))))
  · have D := c_O_of_told (N := P.length) (sc := sc) (x := x) (m := m) (tl := pcells 67 P) n w hw
    rw [may_eq a1] at D
    exact OPi_bad h (c_C_of_told n w hw) D
end O2A
