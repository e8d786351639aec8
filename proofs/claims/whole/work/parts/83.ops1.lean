/-! calls on both sides: weights -/
section O1
variable {sc : Nat × (Nat → Int32)} {x x' : XS} {m m' : OS} {P P' : List PieceS} {T : Nat → Option Tx}
theorem OPi_bad {M1 M2 : MD} {d1 d2 c1 s1 : Nat} {av : List Value} {r : Int32} (h : Inv x m P) (C : MC M1 d1 c1 s1 (.ref 5 :: av) (heap sc x m P) (some (.int r)) (heap sc x m P)) (D : MC M2 d2 0 0 (.ref 39 :: av) (heap sc x m P) (some (.int r)) (heap sc x m P)) : OPi sc x m P M1 M2 d1 d2 c1 s1 av := ⟨r, x, m, P, C, D, h⟩
theorem OPi_of {M1 M2 : MD} {d1 d2 : Nat} {av : List Value} {r : Int32} (h : Inv x m P) (hL : LOK x T) (hO : OLK m T) (hc : CR T x x' P P') (C : MC M1 d1 0 0 (.ref 5 :: av) (heap sc x m P) (some (.int r)) (heap sc x' m P')) (D : ∃ m', OR m m' ∧ MC M2 d2 0 0 (.ref 39 :: av) (heap sc x' m P') (some (.int r)) (heap sc x' m' P')) : OPi sc x m P M1 M2 d1 d2 0 0 av := by
  obtain ⟨m', hr, D⟩ := D
  exact ⟨r, x', m', P', C, D, Inv_OR (Inv_CR h hL hO hc) hr⟩
theorem OPl_of {M1 M2 : MD} {d1 d2 : Nat} {av : List Value} {r : Int64} (h : Inv x m P) (hL : LOK x T) (hO : OLK m T) (hc : CR T x x' P P') (C : MC M1 d1 0 0 (.ref 5 :: av) (heap sc x m P) (some (.long r)) (heap sc x' m P')) (D : ∃ m', OR m m' ∧ MC M2 d2 0 0 (.ref 39 :: av) (heap sc x' m P') (some (.long r)) (heap sc x' m' P')) : OPl sc x m P M1 M2 d1 d2 0 0 av := by
  obtain ⟨m', hr, D⟩ := D
  exact ⟨r, x', m', P', C, D, Inv_OR (Inv_CR h hL hO hc) hr⟩
theorem at_some {k : Nat} (hk : k < P.length) : P[k]? = some P[k] := List.getElem?_eq_getElem hk
theorem op_percent (h : Inv x m P) (pk : Int32) : OPi sc x m P M_C_percent M_O_percent 7 48 0 0 [.int pk] := by
  obtain ⟨T, t1, t2, hI, hO, v1, v2, m1, m2, c1, c2, hp⟩ := Inv_CI h
  by_cases hb : sp_pk P.length pk
  · obtain ⟨⟨k, hk, e1⟩, h2⟩ := hb
    obtain ⟨kd, hkd, e2⟩ := rng (by decide) h2
    obtain ⟨en, lk, th, hlk, hth, el, et, hf⟩ := hp k P[k] (at_some hk)
    obtain ⟨x', P', hc, C⟩ := c_C_percent (sc := sc) (m := m) hI (at_some hk) hlk hth el et pk kd e1 e2 (by omega)
    refine OPi_of h t1 t2 hc C ?_
    rw [← en]
    exact c_O_percent hO hk hf pk kd e1 e2 (by omega)
  · exact OPi_bad h (c_C_percent_bad h.2.1.2.1 pk hb) (c_O_percent_bad hO pk hb)
theorem op_likely (h : Inv x m P) (pk w : Int32) : OPl sc x m P M_C_likely M_O_likely 6 48 0 0 [.int pk, .int w] := by
  obtain ⟨T, t1, t2, hI, hO, v1, v2, m1, m2, c1, c2, hp⟩ := Inv_CI h
  by_cases hb : sp_pk P.length pk ∧ (0 ≤ w ∧ w ≤ nI 1)
  · obtain ⟨⟨⟨k, hk, e1⟩, h2⟩, hw⟩ := hb
    obtain ⟨kd, hkd, e2⟩ := rng (by decide) h2
    obtain ⟨en, lk, th, hlk, hth, el, et, hf⟩ := hp k P[k] (at_some hk)
    obtain ⟨x', P', hc, C⟩ := c_C_likely (sc := sc) (m := m) hI (at_some hk) hlk hth el et pk w kd e1 e2 (by omega) hw
    refine OPl_of h t1 t2 hc C ?_
    rw [← en]
    exact c_O_likely hO hk hf pk w kd e1 e2 (by omega) hw
  · exact ⟨_, x, m, P, c_C_likely_bad h.2.1.2.1 pk w hb, c_O_likely_bad hO pk w hb, h⟩
theorem op_when (h : Inv x m P) (pk w : Int32) : OPi sc x m P M_C_when M_O_when 6 48 0 0 [.int pk, .int w] := by
  obtain ⟨T, t1, t2, hI, hO, v1, v2, m1, m2, c1, c2, hp⟩ := Inv_CI h
  by_cases hb : sp_pk P.length pk ∧ (0 ≤ w ∧ w ≤ nI 2)
  · obtain ⟨⟨⟨k, hk, e1⟩, h2⟩, hw⟩ := hb
    obtain ⟨kd, hkd, e2⟩ := rng (by decide) h2
    obtain ⟨en, lk, th, hlk, hth, el, et, hf⟩ := hp k P[k] (at_some hk)
    obtain ⟨x', P', hc, C⟩ := c_C_when (sc := sc) (m := m) hI (at_some hk) hlk hth el et pk w kd e1 e2 (by omega) hw
    refine OPi_of h t1 t2 hc C ?_
    rw [← en]
    exact c_O_when hO hk hf pk w kd e1 e2 (by omega) hw
  · exact OPi_bad h (c_C_when_bad h.2.1.2.1 pk w hb) (c_O_when_bad hO pk w hb)
theorem op_likeliest (h : Inv x m P) (k : Int32) : OPi sc x m P M_C_likeliest M_O_likeliest 6 48 0 0 [.int k] := by
  obtain ⟨T, t1, t2, hI, hO, v1, v2, m1, m2, c1, c2, hp⟩ := Inv_CI h
  by_cases hb : ∃ j, j < P.length ∧ k = nI j
  · obtain ⟨k, hk, rfl⟩ := hb
    obtain ⟨en, lk, th, hlk, hth, el, et, hf⟩ := hp k P[k] (at_some hk)
    obtain ⟨x', P', hc, C⟩ := c_C_likeliest (sc := sc) (m := m) hI (at_some hk) hlk hth el et
    refine OPi_of h t1 t2 hc C ?_
    rw [← en]
    exact c_O_likeliest hO hk hf
  · exact OPi_bad h (c_C_likeliest_bad h.2.1.2.1 k hb) (c_O_likeliest_bad hO k hb)
theorem op_next (h : Inv x m P) (k : Int32) : OPi sc x m P M_C_next M_O_next 6 48 0 0 [.int k] := by
  obtain ⟨T, t1, t2, hI, hO, v1, v2, m1, m2, c1, c2, hp⟩ := Inv_CI h
  by_cases hb : ∃ j, j < P.length ∧ k = nI j
  · obtain ⟨k, hk, rfl⟩ := hb
    obtain ⟨en, lk, th, hlk, hth, el, et, hf⟩ := hp k P[k] (at_some hk)
    obtain ⟨x', P', hc, C⟩ := c_C_next (sc := sc) (m := m) hI m1 (fun k => tN_9 h.1 2 k (Or.inr rfl)) (at_some hk) hlk hth el et
    refine OPi_of h t1 t2 hc C ?_
    rw [← en]
    exact c_O_next hO (fun k => tN_9 h.1 2 k (Or.inr rfl)) m2 hk hf
  · exact OPi_bad h (c_C_next_bad h.2.1.2.1 k hb) (c_O_next_bad hO k hb)
theorem op_named (h : Inv x m P) (k mk : Int32) : OPi sc x m P M_C_named M_O_named 5 48 0 0 [.int k, .int mk] := by
  obtain ⟨T, t1, t2, hI, hO, v1, v2, m1, m2, c1, c2, hp⟩ := Inv_CI h
  by_cases hb : (∃ j, j < P.length ∧ k = nI j) ∧ (0 ≤ mk ∧ mk ≤ nI 63)
  · obtain ⟨⟨k, hk, rfl⟩, h2⟩ := hb
    obtain ⟨mk, hmk, rfl⟩ := rng (by decide) h2
    obtain ⟨en, lk, th, hlk, hth, el, et, hf⟩ := hp k P[k] (at_some hk)
    obtain ⟨x', P', hc, C⟩ := c_C_named (sc := sc) (m := m) hI (at_some hk) hlk hth el et mk (by omega)
    refine OPi_of h t1 t2 hc C ?_
    rw [← en]
    exact c_O_named hO hk hlk hf mk (by omega)
  · exact OPi_bad h (c_C_named_bad h.2.1.2.1 k mk hb) (c_O_named_bad hO k mk hb)
theorem op_plan (h : Inv x m P) (k mk : Int32) : OPi sc x m P M_C_plan M_O_plan 5 48 0 0 [.int k, .int mk] := by
  obtain ⟨T, t1, t2, hI, hO, v1, v2, m1, m2, c1, c2, hp⟩ := Inv_CI h
  by_cases hb : (∃ j, j < P.length ∧ k = nI j) ∧ (0 ≤ mk ∧ mk ≤ nI 54)
  · obtain ⟨⟨k, hk, rfl⟩, h2⟩ := hb
    obtain ⟨mk, hmk, rfl⟩ := rng (by decide) h2
    obtain ⟨en, lk, th, hlk, hth, el, et, hf⟩ := hp k P[k] (at_some hk)
    obtain ⟨x', P', hc, C⟩ := c_C_plan (sc := sc) (m := m) hI m1 (fun k => tN_9 h.1 2 k (Or.inr rfl)) (at_some hk) hlk hth el et mk hmk
    refine OPi_of h t1 t2 hc C ?_
    rw [← en]
    exact c_O_plan hO m2 (fun k => tN_9 h.1 2 k (Or.inr rfl)) hk hlk hf mk hmk
  · exact OPi_bad h (c_C_plan_bad h.2.1.2.1 k mk hb) (c_O_plan_bad hO k mk hb)
theorem op_believed (h : Inv x m P) (k mk : Int32) : OPi sc x m P M_C_believed M_O_believed 6 47 0 0 [.int k, .int mk] := by
  obtain ⟨T, t1, t2, hI, hO, v1, v2, m1, m2, c1, c2, hp⟩ := Inv_CI h
  by_cases hb : (∃ j, j < P.length ∧ k = nI j) ∧ (0 ≤ mk ∧ mk ≤ nI 63)
  · obtain ⟨⟨k, hk, rfl⟩, h2⟩ := hb
    obtain ⟨mk, hmk, rfl⟩ := rng (by decide) h2
    obtain ⟨en, lk, th, hlk, hth, el, et, hf⟩ := hp k P[k] (at_some hk)
    obtain ⟨x', P', hc, C⟩ := c_C_believed (sc := sc) (m := m) hI (at_some hk) mk (by omega)
    refine OPi_of h t1 t2 hc C ?_
    rw [← en]
    exact c_O_believed hO hk mk (by omega)
  · exact OPi_bad h (c_C_believed_bad h.2.1.2.1 k mk hb) (c_O_believed_bad hO k mk hb)
theorem op_spoils (h : Inv x m P) (k mk : Int32) : OPi sc x m P M_C_spoils M_O_spoils 6 47 0 0 [.int k, .int mk] := by
  obtain ⟨T, t1, t2, hI, hO, v1, v2, m1, m2, c1, c2, hp⟩ := Inv_CI h
  by_cases hb : (∃ j, j < P.length ∧ k = nI j) ∧ (0 ≤ mk ∧ mk ≤ nI 63)
  · obtain ⟨⟨k, hk, rfl⟩, h2⟩ := hb
    obtain ⟨mk, hmk, rfl⟩ := rng (by decide) h2
    obtain ⟨en, lk, th, hlk, hth, el, et, hf⟩ := hp k P[k] (at_some hk)
    obtain ⟨x', P', hc, C⟩ := c_C_spoils (sc := sc) (m := m) hI (at_some hk) mk (by omega)
    refine OPi_of h t1 t2 hc C ?_
    rw [← en]
    exact c_O_spoils hO hk mk (by omega)
  · exact OPi_bad h (c_C_spoils_bad h.2.1.2.1 k mk hb) (c_O_spoils_bad hO k mk hb)
theorem op_cheapest (h : Inv x m P) (k b w : Int32) : OPi sc x m P M_C_cheapest M_O_cheapest 5 47 0 0 [.int k, .int b, .int w] := by
  obtain ⟨T, t1, t2, hI, hO, v1, v2, m1, m2, c1, c2, hp⟩ := Inv_CI h
  by_cases hb : (∃ j, j < P.length ∧ k = nI j) ∧ (0 ≤ b ∧ b ≤ nI 100) ∧ (0 ≤ w ∧ w ≤ nI 1)
  · obtain ⟨⟨k, hk, rfl⟩, h2, hw⟩ := hb
    obtain ⟨b, hbb, rfl⟩ := rng (by decide) h2
    obtain ⟨en, lk, th, hlk, hth, el, et, hf⟩ := hp k P[k] (at_some hk)
    obtain ⟨x', P', hc, C⟩ := c_C_cheap (sc := sc) (m := m) hI c1 (fun k => tN_lt h.1 3 k (by omega)) (at_some hk) b hbb w hw
    refine OPi_of h t1 t2 hc C ?_
    rw [← en]
    exact c_O_cheap hO c2 (fun k => tN_lt h.1 3 k (by omega)) hk b hbb w hw
  · exact OPi_bad h (c_C_cheap_bad h.2.1.2.1 k b w hb) (c_O_cheap_bad hO k b w hb)
theorem op_drawn (h : Inv x m P) (sd nn pkt : Int32) : OPi sc x m P M_C_drawn M_O_drawn 5 47 0 0 [.int sd, .int nn, .int pkt] := by
  obtain ⟨T, t1, t2, hI, hO, v1, v2, m1, m2, c1, c2, hp⟩ := Inv_CI h
  by_cases hb : sp_dr P.length nn pkt
  · obtain ⟨⟨k, hk, e1⟩, h2, h3, h4⟩ := hb
    obtain ⟨kd, hkd, e2⟩ := rng (by decide) h2
    obtain ⟨y, hy, e3⟩ := rng (by decide) h3
    obtain ⟨nn, hnn, rfl⟩ := rng (n := 30) (by decide) ⟨Int32.le_trans (by decide) h4.1, h4.2⟩
    have hn1 : 1 ≤ nn := (nI_leI (a := 1) (by omega) (by omega)).mp h4.1
    obtain ⟨en, lk, th, hlk, hth, el, et, hf⟩ := hp k P[k] (at_some hk)
    obtain ⟨x', P', hc, C⟩ := c_C_drawn (sc := sc) (m := m) hI (at_some hk) sd pkt nn kd y e1 e2 e3 (by omega) (by omega) hn1 hnn
    refine OPi_of h t1 t2 hc C ?_
    rw [← en]
    exact c_O_drawn hO hk sd pkt nn kd y e1 e2 e3 (by omega) (by omega) hn1 hnn
  · exact OPi_bad h (c_C_drawn_bad h.2.1.2.1 sd nn pkt hb) (c_O_drawn_bad hO sd nn pkt hb)
theorem op_number (h : Inv x m P) (pm kt : Int32) : OPi sc x m P M_C_number M_O_number 4 46 0 0 [.int pm, .int kt] := by
  obtain ⟨T, t1, t2, hI, hO, v1, v2, m1, m2, c1, c2, hp⟩ := Inv_CI h
  by_cases hb : sp_pm P.length pm ∧ sp_kt kt
  · obtain ⟨⟨⟨k, hk, e1⟩, h2⟩, h3, h4⟩ := hb
    obtain ⟨j, hj, e2⟩ := rng (by decide) h2
    obtain ⟨kd, hkd, e3⟩ := rng (by decide) h3
    obtain ⟨y, hy, e4⟩ := rng (by decide) h4
    obtain ⟨en, lk, th, hlk, hth, el, et, hf⟩ := hp k P[k] (at_some hk)
    obtain ⟨stk, q, s1, s2, C⟩ := c_C_number (sc := sc) (m := m) h.2.1.2.1 t1 pm kt k j kd y (at_some hk) (hI.2.2.2.2 k _ (at_some hk)).1 e1 e2 (by omega) e3 (by omega) e4 (by omega)
    refine OPi_of h t1 t2 (CR_set hI (at_some hk) s1 s2 stk (xS_sums x, xS_ways x, xS_merged x, xS_prod x)) C ?_
    rw [show nbW T (i_wood P[k]) (i_place P[k]) = nbW T (zp_wood m k) (zp_place m k) from en.symm]
    obtain ⟨s, D⟩ := c_O_number (N := (P.set k q).length) (sc := sc) (x := xW_stack_s x stk) (tl := pcells 67 (P.set k q)) hO.2.2.2.1 hO.2.2.2.2 t2 pm kt k j kd y hk e1 e2 (by omega) e3 (by omega) e4 (by omega)
    exact ⟨_, ⟨s, (zw_numbers m, zw_way m, zw_weight m, zw_kindSum m, zw_allSum m), (zo_trueWhen m, zo_sorted m), rfl⟩, D⟩
  · exact OPi_bad h (c_C_number_bad h.2.1.2.1 pm kt hb) (c_O_number_bad hO.2.2.2.1 hO.2.2.2.2 pm kt hb)
/-- every piece at once -/
noncomputable def wyL (P : List PieceS) (i : Nat) : Nat → Nat := wayB (i_looked (P.getD i pz)).toNatClampNeg (i_there (P.getD i pz)).toNatClampNeg
theorem PF_Inv (hp : ∀ (i : Nat) (p : PieceS), P[i]? = some p → nbO T m i = nbP T p ∧ ∃ lk th, lk < 64 ∧ th < 64 ∧ i_looked p = nI lk ∧ i_there p = nI th ∧ FW (zp_found m) i (wayB lk th)) : PF T P (fun i => nbO T m i) (wyL P) ∧ OF2 T P.length m (fun i => nbO T m i) (wyL P) := by
  have e : ∀ (i : Nat) (p : PieceS), P[i]? = some p → ∀ lk th, lk < 64 → th < 64 → i_looked p = nI lk → i_there p = nI th → wyL P i = wayB lk th := by
    intro i p hp lk th a1 a2 a3 a4
    unfold wyL
    rw [show P.getD i pz = p by rw [List.getD_eq_getElem?_getD, hp]; rfl, a3, a4, nI_clamp (by omega), nI_clamp (by omega)]
  constructor
  · intro i p hpi
    obtain ⟨en, lk, th, hlk, hth, el, et, hf⟩ := hp i p hpi
    exact ⟨en, lk, th, hlk, hth, el, et, e i p hpi lk th hlk hth el et⟩
  · intro i hi
    obtain ⟨en, lk, th, hlk, hth, el, et, hf⟩ := hp i P[i] (at_some hi)
    exact ⟨rfl, by rw [e i _ (at_some hi) lk th hlk hth el et]; exact hf⟩
theorem op_whole (h : Inv x m P) (w : Int32) : OPi sc x m P M_C_whole M_O_whole 8 48 0 0 [.int w] := by
  obtain ⟨T, t1, t2, hI, hO, v1, v2, m1, m2, c1, c2, hp⟩ := Inv_CI h
  obtain ⟨f1, f2⟩ := PF_Inv hp
  by_cases hb : 0 ≤ w ∧ w ≤ nI 1
  · obtain ⟨x', P', hc, C⟩ := c_C_whole (sc := sc) (m := m) _ rfl hI f1 w hb
    exact OPi_of h t1 t2 hc C (c_O_whole _ rfl hO f2 w hb)
  · exact OPi_bad h (c_C_whole_bad w hb) (c_O_whole_bad w hb)
theorem op_odd (h : Inv x m P) : OPi sc x m P M_C_odd M_O_odd 7 48 0 0 [] := by
  obtain ⟨T, t1, t2, hI, hO, v1, v2, m1, m2, c1, c2, hp⟩ := Inv_CI h
  obtain ⟨f1, f2⟩ := PF_Inv hp
  obtain ⟨x', P', hc, C⟩ := c_C_odd (sc := sc) (m := m) hI f1
  exact OPi_of h t1 t2 hc C (c_O_odd hO f2)
theorem op_price (h : Inv x m P) (k : Int32) : OPi sc x m P M_C_price M_O_price 7 49 0 0 [.int k] := by
  obtain ⟨T, t1, t2, hI, hO, v1, v2, m1, m2, c1, c2, hp⟩ := Inv_CI h
  obtain ⟨f1, f2⟩ := PF_Inv hp
  have hV : ∀ k, tN x 1 k ≤ 99 := fun k => tN_lt h.1 1 k (by omega)
  by_cases h1 : k = -1
  · subst h1
    obtain ⟨x', P', hc, C⟩ := c_C_price_all (sc := sc) (m := m) hI f1 hV v1
    exact OPi_of h t1 t2 hc C (c_O_price_all hO f2 hV v2)
  · by_cases hb : ∃ j, j < P.length ∧ k = nI j
    · obtain ⟨k, hk, rfl⟩ := hb
      obtain ⟨x', P', hc, C⟩ := c_C_price (sc := sc) (m := m) hI f1 hV v1 k hk
      exact OPi_of h t1 t2 hc C (c_O_price hO f2 hV v2 k hk)
    · exact OPi_bad h (c_C_price_bad h.2.1.2.1 k h1 hb) (c_O_price_bad hO k h1 hb)
end O1
