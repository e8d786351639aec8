/-! named, plan, cheapest, drawn: the class -/
abbrev sOv (Co : Nat → Nat) (set : Nat) : Nat := sN (fun j => if set.testBit j = true then Co j else 0) 6
theorem sOv_le {Co : Nat → Nat} {c : Nat} (h : ∀ k, Co k ≤ c) (set : Nat) : sOv Co set ≤ 6 * c := sN_le (n := 6) (fun k _ => by
  show (if set.testBit k = true then Co k else 0) ≤ c
  split
  · exact h k
  · exact Nat.zero_le _)
def CLx (x : XS) (Co : Nat → Nat) : Prop := ∀ k, k < 6 → xT_now x (18 + k) = nI (Co k)
/-- plan -/
abbrev plC (free : Nat) (Mi : Nat → Nat) (mm : Nat) : Nat → Prop := fun set => set &&& (free ^^^ 63) = 0 ∧ sOv Mi set ≤ mm
def plB (c : Nat → Prop) [DecidablePred c] (g mi : Nat → Nat) : Nat → Nat × Int32 × Nat
  | 0 => (0, -1, 0)
  | t + 1 => if c t then (if (plB c g mi t).2.1 < nI (g t) ∨ (nI (g t) = (plB c g mi t).2.1 ∧ mi t < (plB c g mi t).2.2) then (t, nI (g t), mi t) else plB c g mi t) else plB c g mi t
theorem plB_s (c : Nat → Prop) [DecidablePred c] (g mi : Nat → Nat) (t : Nat) : plB c g mi (t + 1) = if c t then (if (plB c g mi t).2.1 < nI (g t) ∨ (nI (g t) = (plB c g mi t).2.1 ∧ mi t < (plB c g mi t).2.2) then (t, nI (g t), mi t) else plB c g mi t) else plB c g mi t := rfl
theorem plB_c (c : Nat → Prop) [DecidablePred c] (g mi : Nat → Nat) : ∀ t, plB c g mi t = (0, -1, 0) ∨ ∃ j, j < t ∧ plB c g mi t = (j, nI (g j), mi j)
  | 0 => Or.inl rfl
  | t + 1 => by
    rw [plB_s]
    have ih := plB_c c g mi t
    split
    · split
      · exact Or.inr ⟨t, by omega, rfl⟩
      · rcases ih with z | ⟨j, hj, z⟩
        · exact Or.inl z
        · exact Or.inr ⟨j, by omega, z⟩
    · rcases ih with z | ⟨j, hj, z⟩
      · exact Or.inl z
      · exact Or.inr ⟨j, by omega, z⟩
section PL
variable {sc : Nat × (Nat → Int32)} {x : XS} {m : OS} {P : List PieceS} {N : Nat} {tl : MH} {B Mi Co : Nat → Nat} {nb : Nat → Nat → Nat} {way : Nat → Nat} {free : Nat} {T : Nat → Option Tx} {k : Nat} {p : PieceS} {lk th : Nat}
theorem SOK_lk {lk th set : Nat} (hlk : lk < 64) (hs : set < 64) : SOK (wayB lk th) (set &&& (lk ^^^ 63)) (set &&& (lk ^^^ 63)) := ⟨b_and_lt hs, b_and_lt hs, fun _ _ h => h, fun j hj h => by
  rw [b_tb_andn hj, Bool.and_eq_true] at h
  unfold wayB
  rw [if_neg]
  intro z
  rw [z] at h
  exact absurd h.2 (by decide)⟩
theorem c_C_named_bad (h8 : P.length ≤ 8) (k mk : Int32) (h : ¬ ((∃ j, j < P.length ∧ k = nI j) ∧ (0 ≤ mk ∧ mk ≤ nI 63))) : MC M_C_named 5 0 0 [.ref 5, .int k, .int mk] (heap sc x m P) (some (.int (-1))) (heap sc x m P) := by
  refine mc_of k1_C_named k2_C_named (Nat.le_of_ble_eq_true rfl) ?_
  unfold heap
  repeat (refine mw_step rfl ?_)
  by_cases hk : ∃ j, j < P.length ∧ k = nI j
  · have hk' := hk
    obtain ⟨k, hk, rfl⟩ := hk
    refine mw_call (c_pieceAt k h8 hk) rfl rfl (Nat.le_of_ble_eq_true rfl) (Nat.le_refl _) (Nat.le_refl _) ?_
    repeat (refine mw_step rfl ?_)
    refine mw_call (c_isSet _ _) rfl rfl (Nat.le_of_ble_eq_true rfl) (Nat.le_refl _) (Nat.le_refl _) ?_
    refine mw_br rfl (fun h1 => ?_) (fun h1 => ?_)
    · repeat (refine mw_step rfl ?_)
      exact mw_r1 rfl trivial (Nat.le_refl _) (Nat.le_refl _) rfl rfl
    · exact absurd ⟨hk', bI_of h1⟩ h
  · refine mw_call (c_pieceAt_bad _ h8 hk) rfl rfl (Nat.le_of_ble_eq_true rfl) (Nat.le_refl _) (Nat.le_refl _) ?_
    repeat (refine mw_step rfl ?_)
    exact mw_r1 rfl trivial (Nat.le_refl _) (Nat.le_refl _) rfl rfl
theorem CR_mg (h : CI T B x P) (mg : Nat → Int64) : CR T x (xS_merged_s x mg) P P := ⟨⟨xW_stack x, (xS_sums x, xS_ways x, mg, xS_prod x), xC_whens x, rfl⟩, rfl, fun j p hp => ⟨p, hp, PSame_refl p, (h.2.2.2.2 j p hp).1⟩⟩
theorem CR_sm (h : CI T B x P) (sm : Nat → Int64) : CR T x (xS_sums_s x sm) P P := ⟨⟨xW_stack x, (sm, xS_ways x, xS_merged x, xS_prod x), xC_whens x, rfl⟩, rfl, fun j p hp => ⟨p, hp, PSame_refl p, (h.2.2.2.2 j p hp).1⟩⟩
theorem c_C_named (hI : CI T B x P) (hp : P[k]? = some p) (hlk : lk < 64) (hth : th < 64) (el : i_looked p = nI lk) (et : i_there p = nI th) (mk : Nat) (hmk : mk < 64) : ∃ x' P', CR T x x' P P' ∧ MC M_C_named 5 0 0 [.ref 5, .int (nI k), .int (nI mk)] (heap sc x m P) (some (.int (sp_nmA B (nbP T p) (wayB lk th) (mk &&& (lk ^^^ 63))))) (heap sc x' m P') := by
  have hk : k < P.length := (List.getElem?_eq_some_iff.mp hp).1
  have hset : mk &&& (lk ^^^ 63) < 64 := b_and_lt hmk
  obtain ⟨x1, P1, q, h1, h2, h3, h4, h5, C⟩ := c_S_fillWays (sc := sc) (m := m) hI hp lk th (mk &&& (lk ^^^ 63)) hlk hth hset
  obtain ⟨mg, D⟩ := c_S_namedBy (N := P1.length) (sc := sc) (m := m) (tl := pcells 67 P1) (WOK_of hI.2.2.1 _ _) (SOK_lk hlk hmk) h5
  refine ⟨_, P1, CR_trans h1 (CR_mg (CI_of hI h1) mg), ?_⟩
  have hi0 := (heapN_gp (N := P.length) (sc := sc) (x := x) (m := m) hp).1
  refine mc_of k1_C_named k2_C_named (Nat.le_of_ble_eq_true rfl) ?_
  unfold heap at C ⊢
  repeat (refine mw_step rfl ?_)
  refine mw_call (c_pieceAt k hI.2.2.2.1 hk) rfl rfl (Nat.le_of_ble_eq_true rfl) (Nat.le_refl _) (Nat.le_refl _) ?_
  repeat (refine mw_step rfl ?_)
  refine mw_call (c_isSet _ _) rfl rfl (Nat.le_of_ble_eq_true rfl) (Nat.le_refl _) (Nat.le_refl _) ?_
  refine mw_brF rfl (bI_ne (rng_in (by omega) (by decide))) ?_
  repeat (refine mw_step rfl ?_)
  refine mw_getf rfl hi0 (by omega) rfl ?_
  rw [el]
  repeat (refine mw_step rfl ?_)
  rw [b_andn mk hmk lk hlk]
  repeat (refine mw_step rfl ?_)
  refine mw_getf rfl hi0 (by omega) rfl ?_
  repeat (refine mw_step rfl ?_)
  refine mw_getf rfl hi0 (by omega) rfl ?_
  rw [el, et]
  repeat (refine mw_step rfl ?_)
  refine mw_call (C) rfl rfl (Nat.le_of_ble_eq_true rfl) (Nat.le_refl _) (Nat.le_refl _) ?_
  repeat (refine mw_step rfl ?_)
  refine mw_call (D) rfl rfl (Nat.le_of_ble_eq_true rfl) (Nat.le_refl _) (Nat.le_refl _) ?_
  exact mw_r1 rfl trivial (Nat.le_refl _) (Nat.le_refl _) rfl rfl
theorem SOK_sub {way : Nat → Nat} {free set : Nat} (hf : free < 64) (hs : set < 64) (hw : ∀ j, j < 6 → free.testBit j = true → way j = 0) (hsub : set &&& (free ^^^ 63) = 0) : SOK way free set := by
  refine ⟨hf, hs, fun j hj h => ?_, hw⟩
  have := b_tb_andn (a := set) (b := free) hj
  rw [hsub, Nat.zero_testBit, h, Bool.true_and] at this
  cases hz : free.testBit j with
  | true => rfl
  | false => rw [hz] at this; cases this
abbrev plG (B : Nat → Nat) (nb : Nat → Nat → Nat) (way : Nat → Nat) : Nat → Nat := fun s => sp_nm B nb way s
theorem l_C_plan (hW : WOK B nb) (hf : free < 64) (hw : ∀ j, j < 6 → free.testBit j = true → way j = 0) (h0 : ¬ al B nb way = 0) (hM : ∀ k, Mi k ≤ 9) (mm : Nat) (hmm : mm ≤ 54) : ∀ r t x, WYS x B nb way free → MLx x Mi → t + r = 64 → ∃ mg : Nat → Int64, MW M_C_bestPlan 2 0 0 (some (.int (nI (plB (plC free Mi mm) (plG B nb way) (sOv Mi) 64).1))) (heapN N sc (xS_merged_s x mg) m tl) 0 0 12 [(0, .ref 5), (1, .int (nI free)), (2, .int (nI mm)), (3, .long (lN (alC B nb way free))), (5, .int (nI (plB (plC free Mi mm) (plG B nb way) (sOv Mi) t).1)), (6, .int (plB (plC free Mi mm) (plG B nb way) (sOv Mi) t).2.1), (7, .int (nI (plB (plC free Mi mm) (plG B nb way) (sOv Mi) t).2.2)), (8, .int (nI t))] [] (heapN N sc x m tl) := by
  intro r
  induction r with
  | zero =>
    intro t x hY hMx ht
    refine ⟨xS_merged x, ?_⟩
    rw [show t = 64 by omega]
    repeat (refine mw_step rfl ?_)
    refine mw_brF rfl (by decide) ?_
    repeat (refine mw_step rfl ?_)
    exact mw_r1 rfl trivial (Nat.le_refl _) (Nat.le_refl _) rfl rfl
  | succ r ih =>
    intro t x hY hMx ht
    have S := c_T_sumOver (N := N) (sc := sc) (x := x) (m := m) (tl := tl) 2 (by omega) Mi hMx t (by omega)
    have bm := sOv_le hM t
    have E : ∀ {v : Option Value} {hT : MH}, MW M_C_bestPlan 2 0 0 v hT 0 0 31 [(0, .ref 5), (1, .int (nI free)), (2, .int (nI mm)), (3, .long (lN (alC B nb way free))), (5, .int (nI (plB (plC free Mi mm) (plG B nb way) (sOv Mi) t).1)), (6, .int (plB (plC free Mi mm) (plG B nb way) (sOv Mi) t).2.1), (7, .int (nI (plB (plC free Mi mm) (plG B nb way) (sOv Mi) t).2.2)), (8, .int (nI t)), (9, .int (nI (sOv Mi t)))] [] (heapN N sc x m tl) → MW M_C_bestPlan 2 0 0 v hT 0 0 12 [(0, .ref 5), (1, .int (nI free)), (2, .int (nI mm)), (3, .long (lN (alC B nb way free))), (5, .int (nI (plB (plC free Mi mm) (plG B nb way) (sOv Mi) t).1)), (6, .int (plB (plC free Mi mm) (plG B nb way) (sOv Mi) t).2.1), (7, .int (nI (plB (plC free Mi mm) (plG B nb way) (sOv Mi) t).2.2)), (8, .int (nI t))] [] (heapN N sc x m tl) := by
      intro v hT K
      repeat (refine mw_step rfl ?_)
      refine mw_brT rfl (n_lt (b := 64) (by omega) (by omega)) ?_
      repeat (refine mw_step rfl ?_)
      refine mw_call (S) rfl rfl (Nat.le_of_ble_eq_true rfl) (Nat.le_refl _) (Nat.le_refl _) ?_
      repeat (refine mw_to 31 rfl rfl ?_)
      refine mw_pick [0, 1, 2, 3, 5, 6, 7, 8, 9] rfl ?_
      exact K
    by_cases hc : plC free Mi mm t
    · have hS := SOK_sub (way := way) hf (show t < 64 by omega) hw hc.1
      obtain ⟨mg1, D⟩ := c_S_namedBy (N := N) (sc := sc) (m := m) (tl := tl) hW hS hY
      obtain ⟨mg, K⟩ := ih (t + 1) (xS_merged_s x mg1) hY hMx (by omega)
      refine ⟨mg, E ?_⟩
      have bn := sp_nm_le (B := B) hW.2 hS
      have ea : sp_nmA B nb way t = nI (sp_nm B nb way t) := if_neg h0
      rw [ea] at D
      rw [plB_s (plC free Mi mm) (plG B nb way) (sOv Mi) t, if_pos (show plC free Mi mm t from hc)] at K
      have hmi : (plB (plC free Mi mm) (plG B nb way) (sOv Mi) t).2.2 ≤ 54 := by
        rcases plB_c (plC free Mi mm) (plG B nb way) (sOv Mi) t with z | ⟨j, hj, z⟩
        · rw [z]; exact Nat.zero_le _
        · rw [z]; exact sOv_le hM j
      repeat (refine mw_step rfl ?_)
      refine mw_brT rfl (by rw [b_andn t (by omega) free hf, hc.1]; rfl) ?_
      repeat (refine mw_step rfl ?_)
      refine mw_brF rfl (n_nlt hc.2 (by omega)) ?_
      repeat (refine mw_step rfl ?_)
      refine mw_call (D) rfl rfl (Nat.le_of_ble_eq_true rfl) (Nat.le_refl _) (Nat.le_refl _) ?_
      repeat (refine mw_step rfl ?_)
      by_cases g1 : (plB (plC free Mi mm) (plG B nb way) (sOv Mi) t).2.1 < nI (plG B nb way t)
      · rw [if_pos (Or.inl g1)] at K
        refine mw_brT rfl (g1) ?_
        repeat (refine mw_to 12 rfl rfl ?_)
        rw [nI_1]
        refine mw_pick [0, 1, 2, 3, 5, 6, 7, 8] rfl ?_
        exact K
      · refine mw_brF rfl (g1) ?_
        repeat (refine mw_step rfl ?_)
        by_cases g2 : nI (plG B nb way t) = (plB (plC free Mi mm) (plG B nb way) (sOv Mi) t).2.1
        · refine mw_brT rfl (g2) ?_
          repeat (refine mw_step rfl ?_)
          by_cases g3 : sOv Mi t < (plB (plC free Mi mm) (plG B nb way) (sOv Mi) t).2.2
          · rw [if_pos (Or.inr ⟨g2, g3⟩)] at K
            refine mw_brT rfl (n_lt g3 (by omega)) ?_
            repeat (refine mw_to 12 rfl rfl ?_)
            rw [nI_1]
            refine mw_pick [0, 1, 2, 3, 5, 6, 7, 8] rfl ?_
            exact K
          · rw [if_neg (fun z => z.elim g1 (fun y => g3 y.2))] at K
            refine mw_brF rfl (n_nlt (a := sOv Mi t) (by omega) (by omega)) ?_
            repeat (refine mw_to 12 rfl rfl ?_)
            rw [nI_1]
            refine mw_pick [0, 1, 2, 3, 5, 6, 7, 8] rfl ?_
            exact K
        · rw [if_neg (fun z => z.elim g1 (fun y => g2 y.1))] at K
          refine mw_brF rfl (g2) ?_
          repeat (refine mw_to 12 rfl rfl ?_)
          rw [nI_1]
          refine mw_pick [0, 1, 2, 3, 5, 6, 7, 8] rfl ?_
          exact K
    · obtain ⟨mg, K⟩ := ih (t + 1) x hY hMx (by omega)
      refine ⟨mg, E ?_⟩
      rw [plB_s (plC free Mi mm) (plG B nb way) (sOv Mi) t, if_neg (show ¬ plC free Mi mm t from hc)] at K
      repeat (refine mw_step rfl ?_)
      by_cases g1 : t &&& (free ^^^ 63) = 0
      · refine mw_brT rfl (by rw [b_andn t (by omega) free hf, g1]; rfl) ?_
        repeat (refine mw_step rfl ?_)
        refine mw_brT rfl (n_lt (a := mm) (b := sOv Mi t) (by have : ¬ sOv Mi t ≤ mm := fun z => hc ⟨g1, z⟩; omega) (by omega)) ?_
        repeat (refine mw_to 12 rfl rfl ?_)
        rw [nI_1]
        refine mw_pick [0, 1, 2, 3, 5, 6, 7, 8] rfl ?_
        exact K
      · have hlt : t &&& (free ^^^ 63) < 64 := b_and_lt (by omega)
        refine mw_brF rfl (by rw [b_andn t (by omega) free hf]; exact nI_ne0 (by omega) (by omega)) ?_
        repeat (refine mw_to 12 rfl rfl ?_)
        rw [nI_1]
        refine mw_pick [0, 1, 2, 3, 5, 6, 7, 8] rfl ?_
        exact K
theorem c_C_plan_bad (h8 : P.length ≤ 8) (k mk : Int32) (h : ¬ ((∃ j, j < P.length ∧ k = nI j) ∧ (0 ≤ mk ∧ mk ≤ nI 54))) : MC M_C_plan 5 0 0 [.ref 5, .int k, .int mk] (heap sc x m P) (some (.int (-1))) (heap sc x m P) := by
  refine mc_of k1_C_plan k2_C_plan (Nat.le_of_ble_eq_true rfl) ?_
  unfold heap
  repeat (refine mw_step rfl ?_)
  by_cases hk : ∃ j, j < P.length ∧ k = nI j
  · have hk' := hk
    obtain ⟨k, hk, rfl⟩ := hk
    refine mw_call (c_pieceAt k h8 hk) rfl rfl (Nat.le_of_ble_eq_true rfl) (Nat.le_refl _) (Nat.le_refl _) ?_
    repeat (refine mw_step rfl ?_)
    refine mw_call (c_within _ _ _ _) rfl rfl (Nat.le_of_ble_eq_true rfl) (Nat.le_refl _) (Nat.le_refl _) ?_
    refine mw_br rfl (fun h1 => ?_) (fun h1 => ?_)
    · repeat (refine mw_step rfl ?_)
      exact mw_r1 rfl trivial (Nat.le_refl _) (Nat.le_refl _) rfl rfl
    · exact absurd ⟨hk', bI_of h1⟩ h
  · refine mw_call (c_pieceAt_bad _ h8 hk) rfl rfl (Nat.le_of_ble_eq_true rfl) (Nat.le_refl _) (Nat.le_refl _) ?_
    repeat (refine mw_step rfl ?_)
    exact mw_r1 rfl trivial (Nat.le_refl _) (Nat.le_refl _) rfl rfl
def sp_plan (B Mi : Nat → Nat) (nb : Nat → Nat → Nat) (way : Nat → Nat) (free mm : Nat) : Int32 := if al B nb way = 0 then -2 else nI (plB (plC free Mi mm) (plG B nb way) (sOv Mi) 64).1
theorem c_C_plan (hI : CI T B x P) (hMx : MLx x Mi) (hM : ∀ k, Mi k ≤ 9) (hp : P[k]? = some p) (hlk : lk < 64) (hth : th < 64) (el : i_looked p = nI lk) (et : i_there p = nI th) (mm : Nat) (hmm : mm ≤ 54) : ∃ x' P', CR T x x' P P' ∧ MC M_C_plan 5 0 0 [.ref 5, .int (nI k), .int (nI mm)] (heap sc x m P) (some (.int (sp_plan B Mi (nbP T p) (wayB lk th) (63 &&& (lk ^^^ 63)) mm))) (heap sc x' m P') := by
  have hk : k < P.length := (List.getElem?_eq_some_iff.mp hp).1
  have hW : WOK B (nbP T p) := WOK_of hI.2.2.1 _ _
  have hset : 63 &&& (lk ^^^ 63) < 64 := b_and_lt (by omega)
  have hS := SOK_lk (lk := lk) (th := th) (set := 63) hlk (by omega)
  have b1 := alC_le hW hS
  obtain ⟨x1, P1, q, h1, h2, h3, h4, h5, C⟩ := c_S_fillWays (sc := sc) (m := m) hI hp lk th (63 &&& (lk ^^^ 63)) hlk hth hset
  have hi0 := (heapN_gp (N := P.length) (sc := sc) (x := x) (m := m) hp).1
  have hal : alC B (nbP T p) (wayB lk th) (63 &&& (lk ^^^ 63)) = 0 ↔ al B (nbP T p) (wayB lk th) = 0 := by
    rw [alC_eq hW.2 hS]
    constructor
    · intro h
      rcases Nat.mul_eq_zero.mp h with z | z
      · exact absurd z (Nat.ne_of_gt (Nat.pow_pos (by omega)))
      · exact z
    · intro h
      rw [h, Nat.mul_zero]
  have E : ∀ {v : Option Value} {hT : MH}, MW M_C_plan 5 0 0 v hT 0 0 53 [(0, .ref 5), (2, .int (nI mm)), (4, .int (nI (63 &&& (lk ^^^ 63)))), (5, .long (lN (alC B (nbP T p) (wayB lk th) (63 &&& (lk ^^^ 63)))))] [] (heapN P1.length sc x1 m (pcells 67 P1)) → MC M_C_plan 5 0 0 [.ref 5, .int (nI k), .int (nI mm)] (heapN P.length sc x m (pcells 67 P)) v hT := by
    intro v hT K
    refine mc_of k1_C_plan k2_C_plan (Nat.le_of_ble_eq_true rfl) ?_
    unfold heap at C
    repeat (refine mw_step rfl ?_)
    refine mw_call (c_pieceAt k hI.2.2.2.1 hk) rfl rfl (Nat.le_of_ble_eq_true rfl) (Nat.le_refl _) (Nat.le_refl _) ?_
    repeat (refine mw_step rfl ?_)
    refine mw_call (c_within _ _ _ _) rfl rfl (Nat.le_of_ble_eq_true rfl) (Nat.le_refl _) (Nat.le_refl _) ?_
    refine mw_brF rfl (bI_ne (rng_in hmm (by decide))) ?_
    repeat (refine mw_step rfl ?_)
    refine mw_getf rfl hi0 (by omega) rfl ?_
    rw [el]
    repeat (refine mw_step rfl ?_)
    rw [show (63 : Int32) &&& (nI lk ^^^ (-1)) = nI (63 &&& (lk ^^^ 63)) from b_andn 63 (by omega) lk hlk]
    repeat (refine mw_step rfl ?_)
    refine mw_getf rfl hi0 (by omega) rfl ?_
    repeat (refine mw_step rfl ?_)
    refine mw_getf rfl hi0 (by omega) rfl ?_
    rw [el, et]
    repeat (refine mw_step rfl ?_)
    refine mw_call (C) rfl rfl (Nat.le_of_ble_eq_true rfl) (Nat.le_refl _) (Nat.le_refl _) ?_
    repeat (refine mw_to 53 rfl rfl ?_)
    refine mw_pick [0, 2, 4, 5] rfl ?_
    exact K
  by_cases h0 : al B (nbP T p) (wayB lk th) = 0
  · refine ⟨x1, P1, h1, ?_⟩
    unfold heap
    refine E ?_
    repeat (refine mw_step rfl ?_)
    refine mw_brT rfl (by rw [lg_eq0, hal.mpr h0]; rfl) ?_
    repeat (refine mw_step rfl ?_)
    exact mw_r1 rfl trivial (Nat.le_refl _) (Nat.le_refl _) (by rw [sp_plan, if_pos h0]) rfl
  · obtain ⟨mg, K⟩ := l_C_plan (N := P1.length) (sc := sc) (m := m) (tl := pcells 67 P1) hW hset hS.2.2.2 h0 hM mm hmm 64 0 x1 h5 (MLx_of hMx h1) (by omega)
    refine ⟨_, P1, CR_trans h1 (CR_mg (CI_of hI h1) mg), ?_⟩
    have D : MC M_C_bestPlan 2 0 0 [.ref 5, .int (nI (63 &&& (lk ^^^ 63))), .int (nI mm), .long (lN (alC B (nbP T p) (wayB lk th) (63 &&& (lk ^^^ 63))))] (heapN P1.length sc x1 m (pcells 67 P1)) (some (.int (nI (plB (plC (63 &&& (lk ^^^ 63)) Mi mm) (plG B (nbP T p) (wayB lk th)) (sOv Mi) 64).1))) (heapN P1.length sc (xS_merged_s x1 mg) m (pcells 67 P1)) := by
      refine mc_of k1_C_bestPlan k2_C_bestPlan (Nat.le_of_ble_eq_true rfl) ?_
      repeat (refine mw_to 12 rfl rfl ?_)
      refine mw_pick [0, 1, 2, 3, 5, 6, 7, 8] rfl ?_
      exact K
    have h0' : ¬ alC B (nbP T p) (wayB lk th) (63 &&& (lk ^^^ 63)) = 0 := fun z => h0 (hal.mp z)
    unfold heap
    refine E ?_
    repeat (refine mw_step rfl ?_)
    refine mw_brF rfl (by rw [lg_eq0]; exact fun e => h0' ((pk_lEQ (b := 0) (by omega) (by omega)).mp e)) ?_
    repeat (refine mw_step rfl ?_)
    refine mw_call (D) rfl rfl (Nat.le_of_ble_eq_true rfl) (Nat.le_refl _) (Nat.le_refl _) ?_
    exact mw_r1 rfl trivial (Nat.le_refl _) (Nat.le_refl _) (by rw [sp_plan, if_neg h0]) rfl
end PL
