/-! calls on both sides: parts, papers, image, bodies -/
section O3A
variable {sc : Nat × (Nat → Int32)} {x x' : XS} {m m' : OS} {P P' : List PieceS} {T : Nat → Option Tx}
theorem IvP_add (h : IvP m P) (h8 : P.length < 8) (w pl : Int32) : IvP (zp_s m (sp_adds (gP m) P.length w pl)) (P ++ [p0 w pl]) := by
  obtain ⟨h1, h2, h3⟩ := h
  have hl : (P ++ [p0 w pl]).length = P.length + 1 := by rw [List.length_append]; rfl
  refine ⟨?_, by omega, fun i p hp => ?_⟩
  · show nI (P.length + 1) = _
    rw [hl]
  show upd (zp_wood m) P.length w i = i_wood p ∧ upd (zp_place m) P.length pl i = i_place p ∧ ∃ lk th, lk < 64 ∧ th < 64 ∧ i_looked p = nI lk ∧ i_there p = nI th ∧ FW (fun q => if 6 * P.length ≤ q ∧ q < 6 * P.length + 6 then 0 else zp_found m q) i (wayB lk th)
  by_cases e : i = P.length
  · rw [e, List.getElem?_append_right (Nat.le_refl _), Nat.sub_self] at hp
    cases hp
    rw [e, upd_at, upd_at]
    refine ⟨rfl, rfl, 0, 0, by omega, by omega, rfl, rfl, fun j hj => ?_⟩
    dsimp only
    rw [if_pos (by omega)]
    have : wayB 0 0 j = 0 := by
      unfold wayB
      rw [Nat.zero_testBit, if_neg (by decide)]
    rw [this]
    exact ⟨rfl, by omega⟩
  · have hi : i < P.length := by
      have := (List.getElem?_eq_some_iff.mp hp).1
      omega
    rw [List.getElem?_append_left hi] at hp
    obtain ⟨c1, c2, lk, th, c3, c4, c5, c6, c7⟩ := h3 i p hp
    rw [upd_ne e, upd_ne e]
    refine ⟨c1, c2, lk, th, c3, c4, c5, c6, fun j hj => ?_⟩
    dsimp only
    rw [if_neg (by omega)]
    exact c7 j hj
theorem KN_add (h : ∀ (i : Nat) (p : PieceS), P[i]? = some p → KN T p) (w pl : Int32) (i : Nat) (p : PieceS) (hp : (P ++ [p0 w pl])[i]? = some p) : KN T p := by
  by_cases hi : i < P.length
  · rw [List.getElem?_append_left hi] at hp
    exact h i p hp
  · rw [List.getElem?_append_right (by omega)] at hp
    have e : i - P.length = 0 := by
      have := (List.getElem?_eq_some_iff.mp hp).1
      rw [List.length_singleton] at this
      omega
    rw [e] at hp
    cases hp
    refine ⟨0, by omega, rfl, fun j kt hj hkt hb => ?_⟩
    rw [Nat.zero_testBit] at hb
    exact absurd hb (by decide)
theorem op_part (h : Inv x m P) (wp : Int32) : OPi sc x m P M_C_part M_O_part 3 1 2 1086 [.int wp] := by
  obtain ⟨a1, a2, ⟨T, l1, l2, l3⟩, a4, a5, a6, a7, a8⟩ := id h
  by_cases hb : 0 ≤ wp ∧ wp ≤ nI 99
  · by_cases h8 : P.length < 8
    · exact ⟨_, x, _, _, c_C_part wp hb h8, c_O_part wp hb P.length h8 a2.1, a1, IvP_add a2 h8 _ _, ⟨T, l1, l2, KN_add l3 _ _⟩, a4, a5, a6, a7, a8⟩
    · have e : P.length = 8 := by have := a2.2.1; omega
      exact OPi_bad h (c_C_part_full wp hb e) (c_O_part_full wp hb (by rw [a2.1, e]))
  · exact OPi_bad h (c_C_part_bad wp hb) (c_O_part_bad wp hb)
theorem pts_eq (f : Nat → Int64) (len i : Nat) : ∀ r c (P : List PieceS) (m : OS), IvP m P → (∀ (i : Nat) (p : PieceS), P[i]? = some p → KN T p) → (sp_ptsO f len i r c P.length (gP m)).1 = (sp_pts f len i r c P).1 ∧ IvP (zp_s m (sp_ptsO f len i r c P.length (gP m)).2.2) (sp_pts f len i r c P).2 ∧ ∀ (j : Nat) (p : PieceS), (sp_pts f len i r c P).2[j]? = some p → KN T p := by
  intro r
  induction r with
  | zero =>
    intro c P m h1 h2
    exact ⟨rfl, h1, h2⟩
  | succ r ih =>
    intro c P m h1 h2
    by_cases h : sp_afr f len P.length (i + 2 * c)
    · rw [sp_pts_yes h, sp_ptsO_yes h]
      have g := ih (c + 1) (P ++ [p0 (f (i + 2 * c)).toInt32 (f (i + 2 * c + 1)).toInt32]) (zp_s m (sp_adds (gP m) P.length (f (i + 2 * c)).toInt32 (f (i + 2 * c + 1)).toInt32)) (IvP_add h1 h.2.1 _ _) (KN_add h2 _ _)
      rw [show (P ++ [p0 (f (i + 2 * c)).toInt32 (f (i + 2 * c + 1)).toInt32]).length = P.length + 1 by rw [List.length_append]; rfl] at g
      exact g
    · rw [sp_pts_no h, sp_ptsO_no h]
      exact ⟨rfl, h1, h2⟩
theorem op_parts (h : Inv x m P) (d i n : Int32) : OPi sc x m P M_C_parts M_O_parts 4 2 16 8688 [.int d, .int i, .int n] := by
  obtain ⟨a1, a2, ⟨T, l1, l2, l3⟩, a4, a5, a6, a7, a8⟩ := id h
  by_cases hb : sp_ptsOk d n
  · obtain ⟨hd, hn⟩ := hb
    obtain ⟨a, ha, rfl⟩ := rng (by decide) hd
    obtain ⟨nb, e0, e1, e2⟩ := a7.2.2
    obtain ⟨s, len, hl, el⟩ := e2 a ha
    rcases s with ⟨s1, s2⟩ | ⟨b, b1, b2, b3, b4, b5⟩ | ⟨q, q1, q2, q3⟩
    · exact OPi_bad h (c_C_parts_0 a i n ha hn s1) (c_O_parts_0 a i n ha hn (by rw [s2]; decide))
    · refine OPi_bad h (c_C_parts_o a i n ha hn (by rw [b3]; decide) (by rw [b3]; decide)) (c_O_parts_o a i n ha hn (by rw [b5]; exact nI_pos (by omega)) ?_)
      rw [b5]
      intro z
      have : b = 50 := (nI_eq (by omega) (by omega)).mp z
      omega
    · by_cases hq : q = 0
      · subst hq
        obtain ⟨k, hk, rfl⟩ := rng (n := 8) (by decide) ⟨Int32.le_trans (by decide) hn.1, hn.2⟩
        have hk1 : 1 ≤ k := (nI_leI (a := 1) (by omega) (by omega)).mp hn.1
        by_cases hi : i < 0
        · exact OPi_bad h (c_C_parts_neg a len k i ha hn hk1 hk q2 el hl a2.2.1 hi) (c_O_parts_neg a i (nI k) ha hn q3 hi)
        · obtain ⟨i, hi2, rfl⟩ := nI_of hi
          have C := c_C_parts (sc := sc) (m := m) (P := P) a len i k ha hn hk q2 el hl a2.2.1 hi2
          have D := c_O_parts (sc := sc) (x := x) (N := (sp_pts (fun q => xH_cells x (a * 60 + q)) len i k 0 P).2.length) (tl := pcells 67 (sp_pts (fun q => xH_cells x (a * 60 + q)) len i k 0 P).2) a len i k P.length ha hn hk q3 (by rw [← a7.1]; exact el) hl a2.1 a2.2.1 hi2
          have e : (fun q => zs_items m (60 * a + q)) = (fun q => xH_cells x (a * 60 + q)) := by
            funext q
            rw [a7.2.1, Nat.mul_comm]
          rw [e] at D
          obtain ⟨g1, g2, g3⟩ := pts_eq (fun q => xH_cells x (a * 60 + q)) len i k 0 P m a2 l3
          rw [g1] at D
          exact ⟨_, x, _, _, C, D, a1, g2, ⟨T, l1, l2, g3⟩, a4, a5, a6, a7, a8⟩
      · refine OPi_bad h (c_C_parts_o a i n ha hn ?_ ?_) (c_O_parts_o a i n ha hn ?_ ?_)
        · rw [q2]
          intro z
          have := congrArg Int32.toInt z
          rw [nI_toInt (by omega), show (-2 : Int32).toInt = -2 from rfl] at this
          omega
        · rw [q2]
          intro z
          have : q = 0 := (nI_eq (by omega) (by omega)).mp z
          omega
        · rw [q3]
          exact nI_pos (by omega)
        · rw [q3]
          intro z
          have : 50 + q = 50 := (nI_eq (by omega) (by omega)).mp z
          omega
  · exact OPi_bad h (c_C_parts_bad d i n hb) (c_O_parts_bad d i n hb)
theorem op_paper (h : Inv x m P) (ft hs : Int32) : OPi sc x m P M_C_paper M_O_paper 2 1 0 0 [.int ft, .int hs] := by
  obtain ⟨a1, a2, a3, a4, ⟨p1, p2, p3, p4, n, hn, en, hp⟩, a6, a7, a8⟩ := id h
  by_cases hb : sp_ft ft hs
  · by_cases h10 : n < 10
    · have C := c_C_paper (N := P.length) (sc := sc) (m := m) (tl := pcells 67 P) ft hs hb (c_P_add (ft / 100) (ft - ft / 100 * 100) hs en h10)
      have D := c_O_paper (N := P.length) (sc := sc) (x := xP_s x (upd (xP_from x) n (ft / 100), upd (xP_to x) n (ft - ft / 100 * 100), upd (xP_houses x) n hs, nI (n + 1))) (m := m) (tl := pcells 67 P) ft hs hb (p4.symm.trans en) h10
      refine ⟨_, _, _, P, C, D, a1, a2, a3, a4, ⟨?_, ?_, ?_, rfl, n + 1, by omega, rfl, fun i hi => ?_⟩, a6, a7, a8⟩
      · show upd (xP_from x) n _ = upd (zq_from m) n _
        rw [p1]
      · show upd (xP_to x) n _ = upd (zq_to m) n _
        rw [p2]
      · show upd (xP_houses x) n _ = upd (zq_house m) n _
        rw [p3]
      · show ∃ a b h, a ≤ b ∧ b ≤ 29 ∧ h ≤ 9 ∧ upd (xP_from x) n (ft / 100) i = nI a ∧ upd (xP_to x) n (ft - ft / 100 * 100) i = nI b ∧ upd (xP_houses x) n hs i = nI h
        by_cases e : i = n
        · rw [e, upd_at, upd_at, upd_at]
          obtain ⟨b1, b2, b3, b4⟩ := hb
          obtain ⟨a, ha, ea⟩ := rng (by decide) b1
          obtain ⟨b, hb, eb⟩ := rng (by decide) b2
          obtain ⟨c, hc, ec⟩ := rng (by decide) b4
          rw [eb, ea] at b3
          refine ⟨a, b, c, ?_, hb, hc, ea, eb, ec⟩
          rcases Nat.lt_or_ge b a with z | z
          · exact absurd (n_lt z (by omega)) b3
          · exact z
        · rw [upd_ne e, upd_ne e, upd_ne e]
          exact hp i (by omega)
    · have e : n = 10 := by omega
      subst e
      exact OPi_bad h (c_C_paper ft hs hb (c_P_add10 _ _ _ en)) (c_O_paper_full ft hs hb (p4.symm.trans en))
  · exact OPi_bad h (c_C_paper_bad ft hs hb) (c_O_paper_bad ft hs hb)
theorem op_house (h : Inv x m P) (y : Int32) : OPi sc x m P M_C_house M_O_house 2 2 0 0 [.int y] := by
  obtain ⟨a1, a2, a3, a4, ⟨p1, p2, p3, p4, n, hn, en, hp⟩, a6, a7, a8⟩ := id h
  by_cases hb : 0 ≤ y ∧ y ≤ nI 29
  · refine OPi_bad h (c_C_house y hb en hn) ?_
    rw [p1, p2, p3]
    exact c_O_house y hb (p4.symm.trans en) hn
  · exact OPi_bad h (c_C_house_bad y hb) (c_O_house_bad y hb)
theorem op_image (h : Inv x m P) : OPi sc x m P M_C_image M_O_image 2 0 0 0 [] := by
  obtain ⟨a1, a2, ⟨T, l1, l2, l3⟩, a4, a5, a6, a7, a8⟩ := id h
  have C := c_C_image (sc := sc) (x := x) (m := m) a2.2.1
  have D := c_O_image (N := P.length) (sc := sc) (x := xC_s x (xC_whens x, sp_kl P (xC_kl x) i_looked P.length, sp_kl P (xC_kt x) i_there P.length, nI P.length, 1)) (m := m) (tl := pcells 67 P)
  rw [a2.1] at D
  refine ⟨_, _, _, P, C, D, a1, a2, ⟨T, LOK_congr rfl rfl l1, l2, l3⟩, a4, a5, a6, a7, rfl, Or.inr ⟨rfl, P.length, a2.2.1, rfl, rfl, fun i hi => ?_⟩⟩
  obtain ⟨c1, c2, lk, th, c3, c4, c5, c6, c7⟩ := a2.2.2 i P[i] (at_some hi)
  have eg : P.getD i pz = P[i] := by rw [List.getD_eq_getElem?_getD, at_some hi]; rfl
  refine ⟨lk, th, c3, c4, ?_, ?_, fun j hj => ?_⟩
  · show (if i < P.length then i_looked (P.getD i pz) else _) = _
    rw [if_pos hi, eg, c5]
  · show (if i < P.length then i_there (P.getD i pz) else _) = _
    rw [if_pos hi, eg, c6]
  · show (if 6 * i + j < 48 then zp_found m (6 * i + j) else _) = _ ∧ _
    have := a2.2.1
    rw [if_pos (by omega)]
    exact c7 j hj
theorem sp_bk_lt (kc : Nat) (kl kt : Nat → Int32) (P : List PieceS) : ∀ t j, j < t → t ≤ P.length → (sp_bk kc kl kt P t)[j]? = some (sp_bk1 kc kl kt j (P.getD j pz))
  | 0, _, h, _ => absurd h (by omega)
  | t + 1, j, h, hl => by
    rw [sp_bk]
    by_cases e : j = t
    · rw [e, List.getElem?_set_self (by rw [sp_bk_len]; omega)]
    · rw [List.getElem?_set_ne (by omega), sp_bk_lt kc kl kt P t j (by omega) (by omega)]
theorem op_back (h : Inv x m P) : OPi sc x m P M_C_back M_O_back 2 0 0 0 [] := by
  obtain ⟨a1, a2, ⟨T, l1, l2, l3⟩, a4, a5, a6, a7, i1, i2⟩ := id h
  rcases i2 with z | ⟨z, kc, hk, e1, e2, hi⟩
  · exact OPi_bad h (c_C_back0 z) (c_O_back0 (i1.symm.trans z))
  · have C := c_C_back (sc := sc) (x := x) (m := m) a2.2.1 z kc hk e1
    have D := c_O_back (N := (sp_bk kc (xC_kl x) (xC_kt x) P P.length).length) (sc := sc) (x := x) (tl := pcells 67 (sp_bk kc (xC_kl x) (xC_kt x) P P.length)) (i1.symm.trans z) kc hk e2
    rw [a2.1] at D
    have hpc : ∀ (i : Nat) (q : PieceS), (sp_bk kc (xC_kl x) (xC_kt x) P P.length)[i]? = some q → ∃ p, P[i]? = some p ∧ q = sp_bk1 kc (xC_kl x) (xC_kt x) i p := by
      intro i q hq
      have hi : i < P.length := by
        have := (List.getElem?_eq_some_iff.mp hq).1
        rw [sp_bk_len] at this
        exact this
      refine ⟨P[i], at_some hi, ?_⟩
      rw [sp_bk_lt _ _ _ _ _ _ hi (Nat.le_refl _), List.getD_eq_getElem?_getD, at_some hi] at hq
      cases hq
      rfl
    refine ⟨_, x, _, _, C, D, a1, ⟨?_, by rw [sp_bk_len]; exact a2.2.1, fun i q hq => ?_⟩, ⟨T, l1, l2, fun i q hq => ?_⟩, a4, a5, a6, a7, i1, Or.inr ⟨z, kc, hk, e1, e2, hi⟩⟩
    · rw [sp_bk_len]
      exact a2.1
    · obtain ⟨p, hp, rfl⟩ := hpc i q hq
      obtain ⟨c1, c2, lk, th, c3, c4, c5, c6, c7⟩ := a2.2.2 i p hp
      have hi8 : i < 8 := by
        have := (List.getElem?_eq_some_iff.mp hp).1
        have := a2.2.1
        omega
      refine ⟨c1, c2, ?_⟩
      show ∃ lk th, lk < 64 ∧ th < 64 ∧ (if i < kc then xC_kl x i else 0) = nI lk ∧ (if i < kc then xC_kt x i else 0) = nI th ∧ FW (sp_cp (zp_found m) (fun j => if j < 6 * kc then zi_image m j else 0) 48) i (wayB lk th)
      by_cases e : i < kc
      · rw [if_pos e, if_pos e]
        obtain ⟨lk, th, d1, d2, d3, d4, d5⟩ := hi i e
        refine ⟨lk, th, d1, d2, d3, d4, fun j hj => ?_⟩
        unfold sp_cp
        rw [if_pos (by omega)]
        dsimp only
        rw [if_pos (by omega)]
        exact d5 j hj
      · rw [if_neg e, if_neg e]
        refine ⟨0, 0, by omega, by omega, rfl, rfl, fun j hj => ?_⟩
        unfold sp_cp
        rw [if_pos (by omega)]
        dsimp only
        rw [if_neg (by omega)]
        have : wayB 0 0 j = 0 := by
          unfold wayB
          rw [Nat.zero_testBit, if_neg (by decide)]
        rw [this]
        exact ⟨rfl, by omega⟩
    · obtain ⟨p, hp, rfl⟩ := hpc i q hq
      exact l3 i p hp
theorem shR_mono {n n' : Nat} {s h z : Int32} (hn : n ≤ n') (r : shR n s h z) : shR n' s h z := by
  rcases r with r | ⟨b, b1, b2⟩ | r
  · exact Or.inl r
  · exact Or.inr (Or.inl ⟨b, by omega, b2⟩)
  · exact Or.inr (Or.inr r)
theorem op_body (h : Inv x m P) (k : Int32) : OPi sc x m P M_C_body M_O_body 2 1 0 0 [.int k] := by
  obtain ⟨a1, a2, a3, a4, a5, ⟨b1, b2, b3, b4, n, r, hn, en, hr, er, hk⟩, ⟨s1, s2, ns, es, hs, s3⟩, a8⟩ := id h
  by_cases hb : 0 ≤ k ∧ k ≤ nI 7
  · by_cases h50 : n < 50
    · have C := c_C_body (N := P.length) (sc := sc) (m := m) (tl := pcells 67 P) k hb (c_B_add k en h50)
      have D := c_O_body (N := P.length) (sc := sc) (x := xB_s x (upd (xB_kinds x) n k, nI (n + 1), xB_ran x, xB_runs x)) (m := m) (tl := pcells 67 P) k hb (b2.symm.trans en) h50
      have e : ns = n := (nI_eq (by omega) (by omega)).mp (es.symm.trans en)
      refine ⟨_, _, _, P, C, D, a1, a2, a3, a4, a5, ⟨?_, rfl, b3, b4, n + 1, r, by omega, rfl, hr, er, fun b hbb => ?_⟩, ⟨s1, s2, n + 1, rfl, by omega, fun a ha => ⟨shR_mono (by omega) (s3 a ha).1, (s3 a ha).2⟩⟩, a8⟩
      · show upd (xB_kinds x) n k = upd (zb_kind m) n k
        rw [b1]
      · show ∃ o, o ≤ 7 ∧ upd (xB_kinds x) n k b = nI o
        by_cases e : b = n
        · rw [e, upd_at]
          exact rng (by decide) hb
        · rw [upd_ne e]
          exact hk b (by omega)
    · have e : n = 50 := by omega
      subst e
      exact OPi_bad h (c_C_body k hb (c_B_add50 k en)) (c_O_body_full k hb (b2.symm.trans en))
  · exact OPi_bad h (c_C_body_bad k hb) (c_O_body_bad k hb)
theorem b_note (b : Int32) (t : TR) : (sp_note b t).2 = t.2 + 1 := rfl
theorem b_rA (k : Nat) (nb xx : Int32) (t : TR) : (rA k nb xx t).2.2 ≤ t.2 + 2 := by
  unfold rA rA0
  split
  · dsimp only; rw [b_note, b_note]; omega
  · split
    · dsimp only; rw [b_note, b_note]; omega
    · dsimp only; rw [b_note]; omega
theorem b_rJ0 (o : Nat) (nb xx : Int32) (t : TR) : (rJ0 o nb xx t).2.2 ≤ t.2 + 3 := by
  unfold rJ0
  have := b_rA o nb xx (sp_note 10 t)
  rw [b_note] at this
  dsimp only
  omega
theorem b_rS (k o : Nat) (nb xx : Int32) (t : TR) : (rS k o nb xx t).2.2 ≤ t.2 + 4 := by
  unfold rS rS0
  split
  · dsimp only; rw [b_note, b_note]; omega
  · split
    · dsimp only
      have := b_rA o nb 2 (sp_note 11 (sp_note 50 t))
      rw [b_note, b_note] at this
      omega
    · dsimp only; rw [b_note]; omega
theorem b_rJ2 (o : Nat) (nb xx : Int32) (t : TR) : (rJ2 o nb xx t).2.2 ≤ t.2 + 4 := by
  unfold rJ2
  have := b_rJ0 o nb xx (sp_note 30 t)
  rw [b_note] at this
  dsimp only
  omega
theorem b_rJ (k o : Nat) (nb xx : Int32) (t : TR) : (rJ k o nb xx t).2.2 ≤ t.2 + 8 := by
  unfold rJ
  split
  · have := b_rJ2 o nb (xx + 1) (sp_note 41 t)
    rw [b_note] at this
    omega
  · split
    · have := b_rJ2 o nb xx t
      omega
    · split
      · dsimp only
        have h1 := b_rJ0 o nb xx (sp_note 80 t)
        rw [b_note] at h1
        have h2 := b_rS o o nb 2 (rJ0 o nb xx (sp_note 80 t)).2
        omega
      · have := b_rJ0 o nb xx t
        omega
theorem b_rT0 (o : Nat) (nb xx : Int32) (t : TR) : (rT0 o nb xx t).2.2 ≤ t.2 + 13 := by
  unfold rT0
  dsimp only
  have h1 := b_rJ o o nb xx (sp_note 2 t)
  rw [b_note] at h1
  have h2 := b_rS o o nb 1 (rJ o o nb xx (sp_note 2 t)).2
  omega
theorem b_rT (k o : Nat) (nb xx : Int32) (t : TR) : (rT k o nb xx t).2.2 ≤ t.2 + 14 := by
  unfold rT
  split
  · dsimp only
    have := b_rT0 o nb xx (sp_note 60 t)
    rw [b_note] at this
    omega
  · split
    · dsimp only
      have := b_rT0 o nb xx (sp_note 81 t)
      rw [b_note] at this
      omega
    · have := b_rT0 o nb xx t
      omega
theorem b_act (a o : Nat) (nb xx : Int32) (t : TR) : (sp_act a o nb xx t).2.2 ≤ t.2 + 14 := by
  unfold sp_act
  split
  · have := b_rA o nb xx t; omega
  · split
    · have := b_rJ o o nb xx t; omega
    · split
      · have := b_rS o o nb xx t; omega
      · exact b_rT o o nb xx t
theorem op_act (h : Inv x m P) (b a xx : Int32) : OPi sc x m P M_C_act M_O_act 11 8 0 0 [.int b, .int a, .int xx] := by
  obtain ⟨a1, a2, a3, a4, a5, ⟨b1, b2, b3, b4, n, r, hn, en, hr, er, hk⟩, a7, a8⟩ := id h
  by_cases hb : ∃ j, j < n ∧ b = nI j
  · obtain ⟨b, hbn, rfl⟩ := hb
    by_cases ha : 0 ≤ a ∧ a ≤ nI 3
    · obtain ⟨a, ha3, rfl⟩ := rng (by decide) ha
      obtain ⟨o, ho, eo⟩ := hk b hbn
      have C := c_C_act (N := P.length) (sc := sc) (m := m) (tl := pcells 67 P) en hn hbn eo ho a ha3 xx
      have D := c_O_act (N := P.length) (sc := sc) (x := wB x (sp_act a o (nI b) xx (xB_ran x, 0)).2) (tl := pcells 67 P) (b2.symm.trans en) hn hbn ((congrFun b1 b).symm.trans eo) ho a ha3 xx
      rw [← b3] at D
      have hq := b_act a o (nI b) xx (xB_ran x, 0)
      exact ⟨_, _, _, P, C, D, a1, a2, a3, a4, a5, ⟨b1, b2, rfl, rfl, n, (sp_act a o (nI b) xx (xB_ran x, 0)).2.2, hn, en, by dsimp only at hq; omega, rfl, hk⟩, a7, a8⟩
    · exact ⟨_, _, _, P, c_C_act_bad en hn (nI b) a xx (fun z => ha z.2), c_O_act_noa (b2.symm.trans en) hn b hbn a xx ha, a1, a2, a3, a4, a5, ⟨b1, b2, b3, rfl, n, 0, hn, en, by omega, rfl, hk⟩, a7, a8⟩
  · exact ⟨_, _, _, P, c_C_act_bad en hn b a xx (fun z => hb z.1), c_O_act_nob (b2.symm.trans en) hn b a xx hb, a1, a2, a3, a4, a5, ⟨b1, b2, b3, rfl, n, 0, hn, en, by omega, rfl, hk⟩, a7, a8⟩
theorem op_trace (h : Inv x m P) (i : Int32) : OPi sc x m P M_C_trace M_O_trace 2 0 0 0 [.int i] := by
  obtain ⟨a1, a2, a3, a4, a5, ⟨b1, b2, b3, b4, n, r, hn, en, hr, er, hk⟩, a7, a8⟩ := id h
  by_cases hb : ∃ j, j < r ∧ j < 24 ∧ i = nI j
  · obtain ⟨j, h1, h2, rfl⟩ := hb
    refine OPi_bad h (c_C_trace j er hr h1 h2) ?_
    rw [b3]
    exact c_O_trace j (b4.symm.trans er) hr h1 h2
  · exact OPi_bad h (c_C_trace_bad i er hr hb) (c_O_trace_bad i (b4.symm.trans er) hr hb)
end O3A
