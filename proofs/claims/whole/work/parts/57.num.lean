/-! numbers of marks -/
theorem lawAt_congr {x y : XS} (h1 : xW_code y = xW_code x) (h2 : xW_sizes y = xW_sizes x) {a : Nat} {T : Option Tx} (h : lawAt x a T) : lawAt y a T := by
  cases T with
  | none =>
    show xW_sizes y a = 0
    rw [h2]
    exact h
  | some t =>
    show T_ok t ∧ xW_sizes y a = nI (T_code t).length ∧ 1 ≤ (T_code t).length ∧ (T_code t).length ≤ 120 ∧ x_at (xW_code y) (a * 120) (T_code t)
    rw [h1, h2]
    exact h
def LOK (x : XS) (T : Nat → Option Tx) : Prop := ∀ a, a < 6 → lawAt x a (T a)
theorem LOK_congr {x y : XS} (h1 : xW_code y = xW_code x) (h2 : xW_sizes y = xW_sizes x) {T : Nat → Option Tx} (h : LOK x T) : LOK y T := fun a ha => lawAt_congr h1 h2 (h a ha)
def cl (v : Int32) : Nat := if v < 0 then 0 else if 100 < v then 100 else v.toNatClampNeg
theorem cl_le (v : Int32) : cl v ≤ 100 := by
  unfold cl
  by_cases h : v < 0
  · rw [if_pos h]; omega
  · rw [if_neg h]
    by_cases h2 : 100 < v
    · rw [if_pos h2]; omega
    · rw [if_neg h2]
      obtain ⟨j, hj, rfl⟩ := nI_of h
      rw [nI_clamp hj]
      exact (nI_leI hj (by omega)).mp (Int32.not_lt.mp h2)
theorem cl_C (v : Int32) : (if (0 : Int32) < (if v < 100 then v else 100) then (if v < 100 then v else 100) else 0) = nI (cl v) := by
  unfold cl
  by_cases h : v < 0
  · have h1 : v < 100 := by rw [Int32.lt_iff_toInt_lt] at h ⊢; rw [Int32.toInt_zero] at h; rw [show (100 : Int32).toInt = 100 from rfl]; omega
    rw [if_pos h, if_pos h1, if_neg (fun z => m_nlt (Int32.le_of_lt h) z)]
    rfl
  · obtain ⟨j, hj, rfl⟩ := nI_of h
    rw [if_neg h, nI_clamp hj]
    by_cases h2 : (100 : Int32) < nI j
    · have h3 : ¬ nI j < 100 := m_nlt (Int32.le_of_lt h2)
      rw [if_pos h2, if_neg h3, if_pos (by decide)]
      rfl
    · rw [if_neg h2]
      by_cases h3 : nI j < 100
      · rw [if_pos h3]
        by_cases h4 : (0 : Int32) < nI j
        · rw [if_pos h4]
        · rw [if_neg h4]
          have : ¬ 0 < j := fun z => h4 (n_lt (a := 0) z hj)
          rw [show j = 0 by omega]
          rfl
      · rw [if_neg h3, if_pos (by decide)]
        have a1 : ¬ j < 100 := fun z => h3 (n_lt (b := 100) z (by omega))
        have a2 : ¬ 100 < j := fun z => h2 (n_lt (a := 100) z hj)
        rw [show j = 100 by omega]
        rfl
/-- a mark's number of a piece of wood w and place p, for kind and time kt -/
def nbW (T : Nat → Option Tx) (w p : Int32) (j kt : Nat) : Nat := cl (lawV (T j) (nI (kt / 30)) (nI (kt % 30)) w p)
theorem nbW_le (T : Nat → Option Tx) (w p : Int32) (j kt : Nat) : nbW T w p j kt ≤ 100 := cl_le _
/-- what a piece knows is so -/
def KN (T : Nat → Option Tx) (p : PieceS) : Prop := ∃ kn, kn < 64 ∧ i_known p = nI kn ∧ ∀ j kt, j < 6 → kt < 180 → kn.testBit j = true → i_num p (180 * j + kt) = nI (nbW T (i_wood p) (i_place p) j kt)
theorem b_has : ∀ a, a < 64 → ∀ j, j < 6 → (((nI a >>> (nI j &&& 31)) &&& 1 = 1) ↔ a.testBit j = true) := by decide +kernel
theorem b_or : ∀ a, a < 64 → ∀ b, b < 64 → nI a ||| nI b = nI (a ||| b) := by decide +kernel
theorem b_andn : ∀ a, a < 64 → ∀ b, b < 64 → nI a &&& (nI b ^^^ (-1)) = nI (a &&& (b ^^^ 63)) := by decide +kernel
theorem b_and : ∀ a, a < 64 → ∀ b, b < 64 → nI a &&& nI b = nI (a &&& b) := by decide +kernel
theorem b_sh : ∀ j, j < 6 → (1 : Int32) <<< (nI j &&& 31) = nI (2 ^ j) := by decide +kernel
theorem b_or_lt {a b : Nat} (ha : a < 64) (hb : b < 64) : a ||| b < 64 := Nat.or_lt_two_pow (n := 6) ha hb
theorem b_and_lt {a b : Nat} (ha : a < 64) : a &&& b < 64 := Nat.lt_of_le_of_lt Nat.and_le_left ha
theorem b_tb_andn {a b j : Nat} (hj : j < 6) : (a &&& (b ^^^ 63)).testBit j = (a.testBit j && !b.testBit j) := by
  rw [Nat.testBit_and, Nat.testBit_xor, show (63 : Nat) = 2 ^ 6 - 1 from rfl, Nat.testBit_two_pow_sub_one, decide_eq_true hj, Bool.xor_true]
theorem b_tb_z : ∀ a, a < 64 → (a = 0 ∨ ∃ j, j < 6 ∧ a.testBit j = true) := by decide +kernel
section NU
variable {sc : Nat × (Nat → Int32)} {x : XS} {m : OS} {P : List PieceS} {N : Nat}
theorem set_get {k : Nat} (hk : k < P.length) (q : PieceS) : (P.set k q)[k]? = some q := List.getElem?_set_self hk
theorem heapN_gp {k : Nat} {p : PieceS} (hp : P[k]? = some p) : (heapN N sc x m (pcells 67 P))[2 * k + 67]? = some (pcell (i_wood p) (i_place p) (i_looked p) (i_there p) (i_known p) (2 * k + 67 + 1)) ∧ (heapN N sc x m (pcells 67 P))[2 * k + 67 + 1]? = some (.inl (.int, 1080, .inl (i_num p))) := by
  obtain ⟨h1, h2⟩ := pcells_get P 67 k p hp
  refine ⟨h1, ?_⟩
  rw [show 2 * k + 67 + 1 = 2 * k + 1 + 67 by omega]
  exact h2
theorem piece_putn {k : Nat} {p : PieceS} (hp : P[k]? = some p) (f : Nat → Int32) : (heapN N sc x m (pcells 67 P)).set (2 * k + 67 + 1) (.inl (.int, 1080, .inl f)) = heapN N sc x m (pcells 67 (P.set k (i_wood p, i_place p, i_looked p, i_there p, i_known p, f))) := by
  have hk : k < P.length := (List.getElem?_eq_some_iff.mp hp).1
  rw [show 2 * k + 67 + 1 = 2 * k + 1 + 67 by omega, heapN_set, pcells_set P 67 k _ hk]
  congr 1
  have h1 := (pcells_get P 67 k p hp).1
  have e : (pcells 67 P).set (2 * k) (.inr (3, [.int (i_wood p), .int (i_place p), .int (i_looked p), .int (i_there p), .int (i_known p), .ref (2 * k + 67 + 1)])) = pcells 67 P := by
    apply List.ext_getElem?
    intro j
    by_cases h2 : 2 * k = j
    · subst h2
      rw [List.getElem?_set_self (by rw [pcells_len]; omega), h1]
    · rw [List.getElem?_set_ne h2]
  rw [e]
/-- learning -/
theorem l_I_learn {T : Nat → Option Tx} (hL : LOK x T) {k : Nat} (hk : k < P.length) (w pl lk th : Int32) (kn mk : Nat) (hkn : kn < 64) (hmk : mk < 64) : ∀ r at_ stk f, at_ + r = 1080 → (∀ j kt, j < 6 → kt < 180 → (kn.testBit j = true ∨ (mk.testBit j = true ∧ 180 * j + kt < at_)) → f (180 * j + kt) = nI (nbW T w pl j kt)) →
    ∃ stk' f', (∀ j kt, j < 6 → kt < 180 → (kn ||| mk).testBit j = true → f' (180 * j + kt) = nI (nbW T w pl j kt)) ∧ MW M_I_learn 3 0 0 none (heapN N sc (xW_stack_s x stk') m (pcells 67 (P.set k (w, pl, lk, th, nI (kn ||| mk), f')))) 0 0 12 [(0, .ref (2 * k + 67)), (1, .ref 11), (2, .int (nI mk)), (3, .int (nI (mk &&& (kn ^^^ 63)))), (4, .int (nI at_))] [] (heapN N sc (xW_stack_s x stk) m (pcells 67 (P.set k (w, pl, lk, th, nI kn, f)))) := by
  intro r
  have hor : nI kn ||| nI mk = nI (kn ||| mk) := b_or kn hkn mk hmk
  have E : ∀ (stk f : Nat → Int32) (at_ : Nat), MW M_I_learn 3 0 0 none (heapN N sc (xW_stack_s x stk) m (pcells 67 (P.set k (w, pl, lk, th, nI (kn ||| mk), f)))) 0 0 96 [(0, .ref (2 * k + 67)), (1, .ref 11), (2, .int (nI mk)), (3, .int (nI (mk &&& (kn ^^^ 63)))), (4, .int (nI at_))] [] (heapN N sc (xW_stack_s x stk) m (pcells 67 (P.set k (w, pl, lk, th, nI kn, f)))) := by
    intro stk f at_
    have hp := set_get hk (w, pl, lk, th, nI kn, f)
    have hi := (heapN_gp (N := N) (sc := sc) (x := xW_stack_s x stk) (m := m) hp).1
    repeat (refine mw_step rfl ?_)
    refine mw_getf rfl hi (by omega) rfl ?_
    repeat (refine mw_step rfl ?_)
    refine mw_putf rfl hi (by omega) (Nat.le_of_ble_eq_true rfl) rfl ?_
    exact mw_r0 rfl (Nat.le_refl _) (Nat.le_refl _) rfl (by rw [hor, piece_put4 hp, List.set_set])
  induction r with
  | zero =>
    intro at_ stk f ha hf
    refine ⟨stk, f, fun j kt hj hkt hb => hf j kt hj hkt ?_, ?_⟩
    · rw [Nat.testBit_or, Bool.or_eq_true] at hb
      rcases hb with hb | hb
      · exact Or.inl hb
      · exact Or.inr ⟨hb, by omega⟩
    · have hp := set_get hk (w, pl, lk, th, nI kn, f)
      have hi := (heapN_gp (N := N) (sc := sc) (x := xW_stack_s x stk) (m := m) hp).1
      have hn := (heapN_gp (N := N) (sc := sc) (x := xW_stack_s x stk) (m := m) hp).2
      rw [show at_ = 1080 by omega]
      repeat (refine mw_step rfl ?_)
      refine mw_getf rfl hi (by omega) rfl ?_
      refine mw_alenP rfl hn ?_
      refine mw_brF rfl (by decide) ?_
      exact E stk f 1080
  | succ r ih =>
    intro at_ stk f ha hf
    have hp := set_get hk (w, pl, lk, th, nI kn, f)
    have hi := (heapN_gp (N := N) (sc := sc) (x := xW_stack_s x stk) (m := m) hp).1
    have hn := (heapN_gp (N := N) (sc := sc) (x := xW_stack_s x stk) (m := m) hp).2
    by_cases h0 : mk &&& (kn ^^^ 63) = 0
    · refine ⟨stk, f, fun j kt hj hkt hb => hf j kt hj hkt ?_, ?_⟩
      · rw [Nat.testBit_or, Bool.or_eq_true] at hb
        rcases hb with hb | hb
        · exact Or.inl hb
        · have := b_tb_andn (a := mk) (b := kn) hj
          rw [h0, Nat.zero_testBit, hb, Bool.true_and] at this
          left
          cases hz : kn.testBit j with
          | true => rfl
          | false => rw [hz] at this; cases this
      · repeat (refine mw_step rfl ?_)
        refine mw_getf rfl hi (by omega) rfl ?_
        refine mw_alenP rfl hn ?_
        refine mw_brT rfl (n_lt (by omega) (by omega)) ?_
        repeat (refine mw_step rfl ?_)
        refine mw_brT rfl (by rw [h0]; rfl) ?_
        exact E stk f at_
    · have hms : mk &&& (kn ^^^ 63) < 64 := b_and_lt hmk
      have ha6 : at_ / 180 < 6 := by omega
      have e1 : nI at_ / 180 = nI (at_ / 180) := pk_div (d := 180) (by omega) (by omega) (by omega)
      by_cases hb : (mk &&& (kn ^^^ 63)).testBit (at_ / 180) = true
      · have hb2 := hb
        rw [b_tb_andn ha6, Bool.and_eq_true] at hb2
        have e2 : nI at_ / 30 = nI (at_ / 30) := pk_div (d := 30) (by omega) (by omega) (by omega)
        have e3 : nI (at_ / 30) - nI (at_ / 30) / 6 * 6 = nI (at_ / 30 % 6) := pk_rem (d := 6) (by omega) (by omega) (by omega)
        have e4 : nI at_ - nI at_ / 30 * 30 = nI (at_ % 30) := pk_rem (d := 30) (by omega) (by omega) (by omega)
        obtain ⟨stk1, C⟩ := c_L_law (N := N) (sc := sc) (x := xW_stack_s x stk) (m := m) (tl := pcells 67 (P.set k (w, pl, lk, th, nI kn, f))) (at_ / 180) ha6 (T (at_ / 180)) (lawAt_congr (x := x) rfl rfl (hL _ ha6)) (nI (at_ / 30 % 6)) (nI (at_ % 30)) w pl
        have hp1 := hp
        have hi1 := (heapN_gp (N := N) (sc := sc) (x := xW_stack_s x stk1) (m := m) hp).1
        have hn1 := (heapN_gp (N := N) (sc := sc) (x := xW_stack_s x stk1) (m := m) hp).2
        have en : cl (lawV (T (at_ / 180)) (nI (at_ / 30 % 6)) (nI (at_ % 30)) w pl) = nbW T w pl (at_ / 180) (at_ % 180) := by
          unfold nbW
          rw [show at_ % 180 / 30 = at_ / 30 % 6 by omega, show at_ % 180 % 30 = at_ % 30 by omega]
        obtain ⟨stk', f', hf', K⟩ := ih (at_ + 1) stk1 (upd f at_ (nI (nbW T w pl (at_ / 180) (at_ % 180)))) (by omega) (by
          intro j kt hj hkt hh
          by_cases e : 180 * j + kt = at_
          · have ej : j = at_ / 180 := by omega
            have ek : kt = at_ % 180 := by omega
            rw [e, upd_at, ej, ek]
          · rw [upd_ne e]
            refine hf j kt hj hkt ?_
            rcases hh with z | ⟨z, y⟩
            · exact Or.inl z
            · exact Or.inr ⟨z, by omega⟩)
        refine ⟨stk', f', hf', ?_⟩
        repeat (refine mw_step rfl ?_)
        refine mw_getf rfl hi (by omega) rfl ?_
        refine mw_alenP rfl hn ?_
        refine mw_brT rfl (n_lt (by omega) (by omega)) ?_
        repeat (refine mw_step rfl ?_)
        refine mw_brF rfl (nI_ne0 (by omega) (by omega)) ?_
        repeat (refine mw_step rfl ?_)
        refine mw_div rfl (by decide) ?_
        rw [e1]
        repeat (refine mw_step rfl ?_)
        refine mw_call (c_hasBit _ _ _) rfl rfl (Nat.le_of_ble_eq_true rfl) (Nat.le_refl _) (Nat.le_refl _) ?_
        refine mw_brF rfl (bI_ne ((b_has _ hms _ ha6).mpr hb)) ?_
        repeat (refine mw_step rfl ?_)
        refine mw_div rfl (by decide) ?_
        rw [e2]
        repeat (refine mw_step rfl ?_)
        refine mw_div rfl (by decide) ?_
        rw [e3]
        repeat (refine mw_step rfl ?_)
        refine mw_div rfl (by decide) ?_
        rw [e4]
        repeat (refine mw_step rfl ?_)
        refine mw_getf rfl hi (by omega) rfl ?_
        repeat (refine mw_step rfl ?_)
        refine mw_getf rfl hi (by omega) rfl ?_
        refine mw_call (C) rfl rfl (Nat.le_of_ble_eq_true rfl) (Nat.le_refl _) (Nat.le_refl _) ?_
        repeat (refine mw_step rfl ?_)
        refine mw_getf rfl hi1 (by omega) rfl ?_
        repeat (refine mw_step rfl ?_)
        refine mw_call (c_J_min _ _ _) rfl rfl (Nat.le_of_ble_eq_true rfl) (Nat.le_refl _) (Nat.le_refl _) ?_
        refine mw_call (c_J_max _ _ _) rfl rfl (Nat.le_of_ble_eq_true rfl) (Nat.le_refl _) (Nat.le_refl _) ?_
        rw [cl_C, en]
        refine mw_istP rfl hn1 (by omega) rfl (by omega) (by decide) ?_
        rw [piece_putn hp, List.set_set]
        repeat (refine mw_to 12 rfl rfl ?_)
        rw [nI_1]
        refine mw_pick [0, 1, 2, 3, 4] rfl ?_
        exact K
      · obtain ⟨stk', f', hf', K⟩ := ih (at_ + 1) stk f (by omega) (by
          intro j kt hj hkt hh
          refine hf j kt hj hkt ?_
          rcases hh with z | ⟨z, y⟩
          · exact Or.inl z
          · by_cases e : 180 * j + kt < at_
            · exact Or.inr ⟨z, e⟩
            · have ej : j = at_ / 180 := by omega
              subst ej
              rw [b_tb_andn ha6, z, Bool.true_and] at hb
              left
              cases hz : kn.testBit (at_ / 180) with
              | true => rfl
              | false => rw [hz] at hb; exact absurd rfl hb)
        refine ⟨stk', f', hf', ?_⟩
        repeat (refine mw_step rfl ?_)
        refine mw_getf rfl hi (by omega) rfl ?_
        refine mw_alenP rfl hn ?_
        refine mw_brT rfl (n_lt (by omega) (by omega)) ?_
        repeat (refine mw_step rfl ?_)
        refine mw_brF rfl (nI_ne0 (by omega) (by omega)) ?_
        repeat (refine mw_step rfl ?_)
        refine mw_div rfl (by decide) ?_
        rw [e1]
        repeat (refine mw_step rfl ?_)
        refine mw_call (c_hasBit _ _ _) rfl rfl (Nat.le_of_ble_eq_true rfl) (Nat.le_refl _) (Nat.le_refl _) ?_
        refine mw_brT rfl (bI_f (fun z => hb ((b_has _ hms _ ha6).mp z))) ?_
        repeat (refine mw_to 12 rfl rfl ?_)
        rw [nI_1]
        refine mw_pick [0, 1, 2, 3, 4] rfl ?_
        exact K
/-- the same piece, with other things learned -/
def PSame (p q : PieceS) : Prop := i_wood q = i_wood p ∧ i_place q = i_place p ∧ i_looked q = i_looked p ∧ i_there q = i_there p
/-- a piece knows these marks -/
def KNs (T : Nat → Option Tx) (p : PieceS) (mk : Nat) : Prop := ∀ j kt, j < 6 → kt < 180 → mk.testBit j = true → i_num p (180 * j + kt) = nI (nbW T (i_wood p) (i_place p) j kt)
theorem c_I_learn {T : Nat → Option Tx} (hL : LOK x T) {k : Nat} {p : PieceS} (hp : P[k]? = some p) (hK : KN T p) (mk : Nat) (hmk : mk < 64) : ∃ stk q, PSame p q ∧ KN T q ∧ KNs T q mk ∧ MC M_I_learn 3 0 0 [.ref (2 * k + 67), .ref 11, .int (nI mk)] (heapN N sc x m (pcells 67 P)) none (heapN N sc (xW_stack_s x stk) m (pcells 67 (P.set k q))) := by
  have hk : k < P.length := (List.getElem?_eq_some_iff.mp hp).1
  obtain ⟨kn, hkn, ek, hv⟩ := hK
  obtain ⟨stk, f, hf, K⟩ := l_I_learn (N := N) (sc := sc) (m := m) (P := P) hL hk (i_wood p) (i_place p) (i_looked p) (i_there p) kn mk hkn hmk 1080 0 (xW_stack x) (i_num p) (by omega) (by
    intro j kt hj hkt hh
    rcases hh with z | ⟨-, z⟩
    · exact hv j kt hj hkt z
    · exact absurd z (by omega))
  refine ⟨stk, (i_wood p, i_place p, i_looked p, i_there p, nI (kn ||| mk), f), ⟨rfl, rfl, rfl, rfl⟩, ⟨kn ||| mk, b_or_lt hkn hmk, rfl, hf⟩, fun j kt hj hkt hb => hf j kt hj hkt (by rw [Nat.testBit_or, hb, Bool.or_true]), ?_⟩
  have hi := (heapN_gp (N := N) (sc := sc) (x := x) (m := m) hp).1
  have eP : P.set k (i_wood p, i_place p, i_looked p, i_there p, nI kn, i_num p) = P := by
    rw [← ek]
    apply List.ext_getElem?
    intro j
    by_cases h2 : k = j
    · subst h2
      rw [List.getElem?_set_self hk, hp]
    · rw [List.getElem?_set_ne h2]
  rw [eP] at K
  refine mc_of k1_I_learn k2_I_learn (Nat.le_of_ble_eq_true rfl) ?_
  repeat (refine mw_step rfl ?_)
  refine mw_getf rfl hi (by omega) rfl ?_
  rw [ek]
  repeat (refine mw_to 12 rfl rfl ?_)
  rw [b_andn mk hmk kn hkn]
  refine mw_pick [0, 1, 2, 3, 4] rfl ?_
  exact K
end NU
