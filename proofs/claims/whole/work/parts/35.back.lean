/-! back, count, parts -/
def sp_bk1 (kc : Nat) (kl kt : Nat → Int32) (t : Nat) (p : PieceS) : PieceS := (i_wood p, i_place p, if t < kc then kl t else 0, if t < kc then kt t else 0, i_known p, i_num p)
def sp_bk (kc : Nat) (kl kt : Nat → Int32) (P : List PieceS) : Nat → List PieceS
  | 0 => P
  | t + 1 => (sp_bk kc kl kt P t).set t (sp_bk1 kc kl kt t (P.getD t pz))
theorem sp_bk_len (kc : Nat) (kl kt : Nat → Int32) (P : List PieceS) : ∀ t, (sp_bk kc kl kt P t).length = P.length
  | 0 => rfl
  | t + 1 => by rw [sp_bk, List.length_set, sp_bk_len kc kl kt P t]
theorem sp_bk_ge (kc : Nat) (kl kt : Nat → Int32) (P : List PieceS) : ∀ t j, t ≤ j → (sp_bk kc kl kt P t)[j]? = P[j]?
  | 0, _, _ => rfl
  | t + 1, j, h => by rw [sp_bk, List.getElem?_set_ne (by omega), sp_bk_ge kc kl kt P t j (by omega)]
section BK
variable {sc : Nat × (Nat → Int32)} {x : XS} {m : OS} {P : List PieceS} {N : Nat} {tl : MH}
theorem piece_put2 {P : List PieceS} {k : Nat} {p : PieceS} (hp : P[k]? = some p) (a : Int32) : (heapN N sc x m (pcells 67 P)).set (2 * k + 67) (.inr (3, [.int (i_wood p), .int (i_place p), .int (i_looked p), .int (i_there p), .int (i_known p), .ref (2 * k + 67 + 1)].set 2 (.int a))) = heapN N sc x m (pcells 67 (P.set k (i_wood p, i_place p, a, i_there p, i_known p, i_num p))) := by
  rw [heapN_set, ← piece_set1 (q := (i_wood p, i_place p, a, i_there p, i_known p, i_num p)) hp rfl]
  rfl
theorem piece_put3 {P : List PieceS} {k : Nat} {p : PieceS} (hp : P[k]? = some p) (a : Int32) : (heapN N sc x m (pcells 67 P)).set (2 * k + 67) (.inr (3, [.int (i_wood p), .int (i_place p), .int (i_looked p), .int (i_there p), .int (i_known p), .ref (2 * k + 67 + 1)].set 3 (.int a))) = heapN N sc x m (pcells 67 (P.set k (i_wood p, i_place p, i_looked p, a, i_known p, i_num p))) := by
  rw [heapN_set, ← piece_set1 (q := (i_wood p, i_place p, i_looked p, a, i_known p, i_num p)) hp rfl]
  rfl
theorem l_C_back (h8 : P.length ≤ 8) (kc : Nat) (hkc : kc ≤ 8) (hc : xC_kc x = nI kc) {hT : MH} {v : Option Value} (K : MW M_C_back 2 0 0 v hT 0 0 86 [(0, .ref 5)] [] (heapN P.length sc x m (pcells 67 (sp_bk kc (xC_kl x) (xC_kt x) P P.length)))) : ∀ r t, t + r = P.length → MW M_C_back 2 0 0 v hT 0 0 12 [(0, .ref 5), (1, .int (nI t))] [] (heapN P.length sc x m (pcells 67 (sp_bk kc (xC_kl x) (xC_kt x) P t))) := by
  intro r
  induction r with
  | zero =>
    intro t ht
    rw [show t = P.length by omega]
    repeat (refine mw_step rfl ?_)
    refine mw_brF rfl (n_nlt (by omega) (by omega)) ?_
    refine mw_pick [0] rfl ?_
    exact K
  | succ r ih =>
    intro t ht
    obtain ⟨p, hp0⟩ : ∃ p, P[t]? = some p := ⟨P[t]'(by omega), List.getElem?_eq_getElem (by omega)⟩
    have hp : (sp_bk kc (xC_kl x) (xC_kt x) P t)[t]? = some p := by rw [sp_bk_ge _ _ _ _ _ _ (Nat.le_refl _)]; exact hp0
    have hg : P.getD t pz = p := by rw [List.getD_eq_getElem?_getD, hp0]; rfl
    have L := ih (t + 1) (by omega)
    rw [sp_bk, hg] at L
    generalize sp_bk kc (xC_kl x) (xC_kt x) P t = B at hp L ⊢
    have hi : (heapN P.length sc x m (pcells 67 B))[2 * t + 67]? = _ := (pcells_get B 67 t p hp).1
    have hp2 : ∀ a : Int32, (B.set t (i_wood p, i_place p, a, i_there p, i_known p, i_num p))[t]? = some (i_wood p, i_place p, a, i_there p, i_known p, i_num p) := fun a => List.getElem?_set_self (List.getElem?_eq_some_iff.mp hp).1
    have hi2 : ∀ a : Int32, (heapN P.length sc x m (pcells 67 (B.set t (i_wood p, i_place p, a, i_there p, i_known p, i_num p))))[2 * t + 67]? = _ := fun a => (pcells_get (B.set t (i_wood p, i_place p, a, i_there p, i_known p, i_num p)) 67 t _ (hp2 a)).1
    repeat (refine mw_step rfl ?_)
    refine mw_brT rfl (n_lt (by omega) (by omega)) ?_
    repeat (refine mw_step rfl ?_)
    refine mw_brT rfl (n_lt (b := 8) (by omega) (by omega)) ?_
    repeat (refine mw_step rfl ?_)
    refine mw_call (c_pieceAt t h8 (by omega)) rfl rfl (Nat.le_of_ble_eq_true rfl) (Nat.le_refl _) (Nat.le_refl _) ?_
    repeat (refine mw_step rfl ?_)
    rw [hc]
    by_cases hk : t < kc
    · refine mw_brT rfl (n_lt hk (by omega)) ?_
      repeat (refine mw_step rfl ?_)
      refine mw_ild rfl (rfl) (by omega) (by decide) ?_
      repeat (refine mw_step rfl ?_)
      refine mw_putf rfl hi (by omega) (Nat.le_of_ble_eq_true rfl) rfl ?_
      rw [piece_put2 hp]
      repeat (refine mw_step rfl ?_)
      rw [hc]
      refine mw_brT rfl (n_lt hk (by omega)) ?_
      repeat (refine mw_step rfl ?_)
      refine mw_ild rfl (rfl) (by omega) (by decide) ?_
      repeat (refine mw_step rfl ?_)
      refine mw_putf rfl (hi2 _) (by omega) (Nat.le_of_ble_eq_true rfl) rfl ?_
      rw [piece_put3 (hp2 _), List.set_set]
      repeat (refine mw_to 12 rfl rfl ?_)
      rw [nI_1]
      refine mw_pick [0, 1] rfl ?_
      rw [sp_bk1, if_pos hk, if_pos hk] at L
      exact L
    · refine mw_brF rfl (n_nlt (by omega) (by omega)) ?_
      repeat (refine mw_step rfl ?_)
      refine mw_putf rfl hi (by omega) (Nat.le_of_ble_eq_true rfl) rfl ?_
      rw [piece_put2 hp]
      repeat (refine mw_step rfl ?_)
      rw [hc]
      refine mw_brF rfl (n_nlt (by omega) (by omega)) ?_
      repeat (refine mw_step rfl ?_)
      refine mw_putf rfl (hi2 _) (by omega) (Nat.le_of_ble_eq_true rfl) rfl ?_
      rw [piece_put3 (hp2 _), List.set_set]
      repeat (refine mw_to 12 rfl rfl ?_)
      rw [nI_1]
      refine mw_pick [0, 1] rfl ?_
      rw [sp_bk1, if_neg hk, if_neg hk] at L
      exact L
theorem c_C_back0 (hh : xC_has x = 0) : MC M_C_back 2 0 0 [.ref 5] (heapN N sc x m tl) (some (.int (-5))) (heapN N sc x m tl) := by
  refine mc_of k1_C_back k2_C_back (Nat.le_of_ble_eq_true rfl) ?_
  repeat (refine mw_step rfl ?_)
  refine mw_brT rfl (hh) ?_
  repeat (refine mw_step rfl ?_)
  exact mw_r1 rfl trivial (Nat.le_refl _) (Nat.le_refl _) rfl rfl
theorem c_C_back (h8 : P.length ≤ 8) (hh : xC_has x = 1) (kc : Nat) (hkc : kc ≤ 8) (hc : xC_kc x = nI kc) : MC M_C_back 2 0 0 [.ref 5] (heap sc x m P) (some (.int (nI P.length))) (heap sc x m (sp_bk kc (xC_kl x) (xC_kt x) P P.length)) := by
  refine mc_of k1_C_back k2_C_back (Nat.le_of_ble_eq_true rfl) ?_
  unfold heap
  rw [sp_bk_len]
  repeat (refine mw_step rfl ?_)
  refine mw_brF rfl (by rw [hh]; decide) ?_
  repeat (refine mw_to 12 rfl rfl ?_)
  refine mw_pick [0, 1] rfl ?_
  refine l_C_back h8 kc hkc hc ?_ P.length 0 (by omega)
  repeat (refine mw_step rfl ?_)
  exact mw_r1 rfl trivial (Nat.le_refl _) (Nat.le_refl _) rfl rfl
/-- the reference's image -/
def sp_cp (f g : Nat → Int32) (t : Nat) : Nat → Int32 := fun j => if j < t then g j else f j
theorem sp_cp_0 (f g : Nat → Int32) : sp_cp f g 0 = f := funext fun j => if_neg (by omega)
theorem sp_cp_up (f g : Nat → Int32) (t : Nat) : upd (sp_cp f g t) t (g t) = sp_cp f g (t + 1) := by
  funext j
  unfold upd sp_cp
  by_cases h : j = t
  · subst h
    rw [if_pos rfl, if_pos (by omega)]
  · rw [if_neg h]
    by_cases h2 : j < t
    · rw [if_pos h2, if_pos (by omega)]
    · rw [if_neg h2, if_neg (by omega)]
theorem l_O_image {hT : MH} {v : Option Value} (f : Nat → Int32) (K : MW M_O_image 0 0 0 v hT 0 0 39 [(0, .ref 39)] [] (heapN N sc x (zi_image_s m (sp_cp f (zp_found m) 48)) tl)) : ∀ r t, t + r = 48 → MW M_O_image 0 0 0 v hT 0 0 15 [(0, .ref 39), (1, .int (nI t))] [] (heapN N sc x (zi_image_s m (sp_cp f (zp_found m) t)) tl) := by
  intro r
  induction r with
  | zero =>
    intro t ht
    rw [show t = 48 by omega]
    repeat (refine mw_step rfl ?_)
    refine mw_brF rfl (by decide) ?_
    refine mw_pick [0] rfl ?_
    exact K
  | succ r ih =>
    intro t ht
    have L := ih (t + 1) (by omega)
    rw [← sp_cp_up] at L
    repeat (refine mw_step rfl ?_)
    refine mw_brT rfl (n_lt (b := 48) (by omega) (by omega)) ?_
    repeat (refine mw_step rfl ?_)
    refine mw_ild rfl (rfl) (by omega) (by decide) ?_
    refine mw_ist rfl (rfl) (by omega) (by decide) ?_
    repeat (refine mw_to 15 rfl rfl ?_)
    rw [nI_1]
    refine mw_pick [0, 1] rfl ?_
    exact L
theorem c_O_image : MC M_O_image 0 0 0 [.ref 39] (heapN N sc x m tl) (some (.int (zp_parts m))) (heapN N sc x (zi_s m (sp_cp (zi_image m) (zp_found m) 48, zp_parts m, 1)) tl) := by
  refine mc_of k1_O_image k2_O_image (Nat.le_of_ble_eq_true rfl) ?_
  repeat (refine mw_to 15 rfl rfl ?_)
  refine mw_pick [0, 1] rfl ?_
  have L := l_O_image (N := N) (sc := sc) (x := x) (tl := tl) (m := zi_s m (zi_image m, zp_parts m, 1)) (hT := heapN N sc x (zi_s m (sp_cp (zi_image m) (zp_found m) 48, zp_parts m, 1)) tl) (v := some (.int (zp_parts m))) (zi_image m) (by
    repeat (refine mw_step rfl ?_)
    exact mw_r1 rfl trivial (Nat.le_refl _) (Nat.le_refl _) rfl rfl) 48 0 (by omega)
  rw [sp_cp_0] at L
  exact L
theorem l_O_back (kc : Nat) (hkc : kc ≤ 8) (hc : zi_parts m = nI kc) {hT : MH} {v : Option Value} (f : Nat → Int32) (K : MW M_O_back 0 0 0 v hT 0 0 51 [(0, .ref 39)] [] (heapN N sc x (zp_found_s m (sp_cp f (fun j => if j < 6 * kc then zi_image m j else 0) 48)) tl)) : ∀ r t, t + r = 48 → MW M_O_back 0 0 0 v hT 0 0 12 [(0, .ref 39), (1, .int (nI t))] [] (heapN N sc x (zp_found_s m (sp_cp f (fun j => if j < 6 * kc then zi_image m j else 0) t)) tl) := by
  intro r
  induction r with
  | zero =>
    intro t ht
    rw [show t = 48 by omega]
    repeat (refine mw_step rfl ?_)
    refine mw_brF rfl (by decide) ?_
    refine mw_pick [0] rfl ?_
    exact K
  | succ r ih =>
    intro t ht
    have e : (6 : Int32) * nI kc = nI (6 * kc) := pk_mul 6 kc
    have L := ih (t + 1) (by omega)
    rw [← sp_cp_up] at L
    repeat (refine mw_step rfl ?_)
    refine mw_brT rfl (n_lt (b := 48) (by omega) (by omega)) ?_
    repeat (refine mw_step rfl ?_)
    rw [show zi_parts (zp_found_s m (sp_cp f (fun j => if j < 6 * kc then zi_image m j else 0) t)) = nI kc from hc, e]
    by_cases hk : t < 6 * kc
    · refine mw_brT rfl (n_lt hk (by omega)) ?_
      repeat (refine mw_step rfl ?_)
      refine mw_ild rfl (rfl) (by omega) (by decide) ?_
      repeat (refine mw_step rfl ?_)
      refine mw_ist rfl (rfl) (by omega) (by decide) ?_
      repeat (refine mw_to 12 rfl rfl ?_)
      rw [nI_1]
      refine mw_pick [0, 1] rfl ?_
      simp only [if_pos hk] at L
      exact L
    · refine mw_brF rfl (n_nlt (by omega) (by omega)) ?_
      repeat (refine mw_step rfl ?_)
      refine mw_ist rfl (rfl) (by omega) (by decide) ?_
      repeat (refine mw_to 12 rfl rfl ?_)
      rw [nI_1]
      refine mw_pick [0, 1] rfl ?_
      simp only [if_neg hk] at L
      exact L
theorem c_O_back0 (hh : zi_isKept m = 0) : MC M_O_back 0 0 0 [.ref 39] (heapN N sc x m tl) (some (.int (-5))) (heapN N sc x m tl) := by
  refine mc_of k1_O_back k2_O_back (Nat.le_of_ble_eq_true rfl) ?_
  repeat (refine mw_step rfl ?_)
  refine mw_brT rfl (hh) ?_
  repeat (refine mw_step rfl ?_)
  exact mw_r1 rfl trivial (Nat.le_refl _) (Nat.le_refl _) rfl rfl
theorem c_O_back (hh : zi_isKept m = 1) (kc : Nat) (hkc : kc ≤ 8) (hc : zi_parts m = nI kc) : MC M_O_back 0 0 0 [.ref 39] (heapN N sc x m tl) (some (.int (zp_parts m))) (heapN N sc x (zp_found_s m (sp_cp (zp_found m) (fun j => if j < 6 * kc then zi_image m j else 0) 48)) tl) := by
  refine mc_of k1_O_back k2_O_back (Nat.le_of_ble_eq_true rfl) ?_
  repeat (refine mw_step rfl ?_)
  refine mw_brF rfl (by rw [hh]; decide) ?_
  repeat (refine mw_to 12 rfl rfl ?_)
  refine mw_pick [0, 1] rfl ?_
  have L := l_O_back (N := N) (sc := sc) (x := x) (tl := tl) (m := m) kc hkc hc (hT := heapN N sc x (zp_found_s m (sp_cp (zp_found m) (fun j => if j < 6 * kc then zi_image m j else 0) 48)) tl) (v := some (.int (zp_parts m))) (zp_found m) (by
    repeat (refine mw_step rfl ?_)
    exact mw_r1 rfl trivial (Nat.le_refl _) (Nat.le_refl _) rfl rfl) 48 0 (by omega)
  rw [sp_cp_0] at L
  exact L
end BK
