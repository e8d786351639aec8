/-! the reader -/
theorem m1_neg : (-1 : Int32) < 0 := by decide
theorem x_pos {e : Ex} (h : x_ok e) : 0 < e.1.length := by
  cases hc : e.1 with
  | cons c r => rw [List.length_cons]; omega
  | nil =>
    obtain ⟨s1, h1, h2, h3⟩ := h.2 (fun _ => 0) 0 0 0 0 0 0 0 (fun _ => 5) (by rw [hc]; trivial) (by rw [hc]; decide)
    rw [hc] at h3
    have e1 : ((0 : Int32), fun _ : Nat => (5 : Int32)) = (s1 0, s1) := h3
    have e2 : s1 = fun _ => 5 := (congrArg Prod.snd e1).symm
    have e3 : (0 : Int32) = s1 0 := congrArg Prod.fst e1
    rw [e2] at e3
    exact absurd e3 (by decide)
def x_wr (cd : Nat → Int32) : Nat → List Int32 → (Nat → Int32)
  | _, [] => cd
  | s, c :: L => x_wr (upd cd s c) (s + 1) L
theorem x_wr_app : ∀ (L R : List Int32) (cd : Nat → Int32) (s : Nat), x_wr cd s (L ++ R) = x_wr (x_wr cd s L) (s + L.length) R
  | [], R, cd, s => rfl
  | c :: L, R, cd, s => by
    show x_wr (upd cd s c) (s + 1) (L ++ R) = x_wr (x_wr (upd cd s c) (s + 1) L) (s + (L.length + 1)) R
    rw [x_wr_app L R _ (s + 1), show s + 1 + L.length = s + (L.length + 1) by omega]
theorem x_wr_lt : ∀ (L : List Int32) (cd : Nat → Int32) (s j : Nat), j < s → x_wr cd s L j = cd j
  | [], _, _, _, _ => rfl
  | c :: L, cd, s, j, h => by
    show x_wr (upd cd s c) (s + 1) L j = cd j
    rw [x_wr_lt L _ (s + 1) j (by omega), upd_ne (by omega)]
theorem x_at_wr : ∀ (L : List Int32) (cd : Nat → Int32) (s : Nat), x_at (x_wr cd s L) s L
  | [], _, _ => trivial
  | c :: L, cd, s => ⟨by show x_wr (upd cd s c) (s + 1) L s = c; rw [x_wr_lt L _ _ _ (by omega), upd_at], x_at_wr L (upd cd s c) (s + 1)⟩
def sg (n : Nat) (tp : Nat → Int32) (a : Nat) : Int32 := if a < n then tp a else -1
def txR (n : Nat) (tp : Nat → Int32) (a : Nat) : Int32 := if a < n then tp a else 0
theorem txR_ok (n : Nat) (hn : n ≤ 120) (tp : Nat → Int32) : TXok n (txR n tp) := ⟨hn, fun _ ha => if_neg (by omega)⟩
theorem sg_eq {n : Nat} {tp : Nat → Int32} {a : Nat} {c : Int32} (h0 : ¬ c = 0) (h1 : ¬ c = -1) : sg n tp a = c ↔ txR n tp a = c := by
  unfold sg txR
  by_cases h : a < n
  · rw [if_pos h, if_pos h]
  · rw [if_neg h, if_neg h]
    exact ⟨fun e => absurd e.symm h1, fun e => absurd e.symm h0⟩
theorem sg_t {n : Nat} {tp : Nat → Int32} {a : Nat} (h : ¬ txR n tp a = 0) : sg n tp a = txR n tp a := by
  unfold sg txR at *
  by_cases z : a < n
  · rw [if_pos z, if_pos z]
  · exact absurd (if_neg z) h
theorem sg_isD {n : Nat} {tp : Nat → Int32} {a : Nat} : p_isD (sg n tp a) ↔ p_isD (txR n tp a) := by
  unfold sg txR
  by_cases h : a < n
  · rw [if_pos h, if_pos h]
  · rw [if_neg h, if_neg h]
    decide
theorem sg_clos {n : Nat} {tp : Nat → Int32} {a : Nat} : p_clos (sg n tp a) = p_clos (txR n tp a) := by
  unfold sg txR
  by_cases h : a < n
  · rw [if_pos h, if_pos h]
  · rw [if_neg h, if_neg h]
    decide
def k_clos (c : Int32) : Int32 := if p_clos c ≤ 4 then nI (p_clos c) else -1
theorem k_clos_eq {c : Int32} {lev : Nat} (hl : lev ≤ 4) : k_clos c = nI lev ↔ p_clos c = lev := by
  unfold k_clos
  by_cases h : p_clos c ≤ 4
  · rw [if_pos h]
    exact nI_eq (by omega) (by omega)
  · rw [if_neg h]
    exact ⟨fun e => absurd e.symm (n_neq (by omega) (by decide)), fun e => absurd hl (by omega)⟩
theorem c_R_clos (h : MH) (c : Int32) : MC M_R_closenessOf 0 0 0 [.int c] h (some (.int (k_clos c))) h := by
  refine mc_of k1_R_closenessOf k2_R_closenessOf (Nat.le_of_ble_eq_true rfl) ?_
  repeat (refine mw_step rfl ?_)
  by_cases h1 : c = 124
  · subst h1
    refine mw_sw (t := 92) rfl ?_
    repeat (refine mw_step rfl ?_)
    exact mw_r1 rfl trivial (Nat.le_refl _) (Nat.le_refl _) rfl rfl
  by_cases h2 : c = 38
  · subst h2
    refine mw_sw (t := 94) rfl ?_
    repeat (refine mw_step rfl ?_)
    exact mw_r1 rfl trivial (Nat.le_refl _) (Nat.le_refl _) rfl rfl
  by_cases h3 : c = 60
  · subst h3
    refine mw_sw (t := 96) rfl ?_
    repeat (refine mw_step rfl ?_)
    exact mw_r1 rfl trivial (Nat.le_refl _) (Nat.le_refl _) rfl rfl
  by_cases h4 : c = 61
  · subst h4
    refine mw_sw (t := 96) rfl ?_
    repeat (refine mw_step rfl ?_)
    exact mw_r1 rfl trivial (Nat.le_refl _) (Nat.le_refl _) rfl rfl
  by_cases h5 : c = 62
  · subst h5
    refine mw_sw (t := 96) rfl ?_
    repeat (refine mw_step rfl ?_)
    exact mw_r1 rfl trivial (Nat.le_refl _) (Nat.le_refl _) rfl rfl
  by_cases h6 : c = 43
  · subst h6
    refine mw_sw (t := 98) rfl ?_
    repeat (refine mw_step rfl ?_)
    exact mw_r1 rfl trivial (Nat.le_refl _) (Nat.le_refl _) rfl rfl
  by_cases h7 : c = 45
  · subst h7
    refine mw_sw (t := 98) rfl ?_
    repeat (refine mw_step rfl ?_)
    exact mw_r1 rfl trivial (Nat.le_refl _) (Nat.le_refl _) rfl rfl
  by_cases h8 : c = 42
  · subst h8
    refine mw_sw (t := 100) rfl ?_
    repeat (refine mw_step rfl ?_)
    exact mw_r1 rfl trivial (Nat.le_refl _) (Nat.le_refl _) rfl rfl
  by_cases h9 : c = 47
  · subst h9
    refine mw_sw (t := 100) rfl ?_
    repeat (refine mw_step rfl ?_)
    exact mw_r1 rfl trivial (Nat.le_refl _) (Nat.le_refl _) rfl rfl
  by_cases h10 : c = 37
  · subst h10
    refine mw_sw (t := 100) rfl ?_
    repeat (refine mw_step rfl ?_)
    exact mw_r1 rfl trivial (Nat.le_refl _) (Nat.le_refl _) rfl rfl
  have e : k_clos c = -1 := by
    unfold k_clos p_clos
    rw [if_neg h1, if_neg h2, if_neg (show ¬ (c = 60 ∨ c = 61 ∨ c = 62) from fun z => by rcases z with z | z | z <;> contradiction), if_neg (show ¬ (c = 43 ∨ c = 45) from fun z => by rcases z with z | z <;> contradiction), if_neg (show ¬ (c = 42 ∨ c = 47 ∨ c = 37) from fun z => by rcases z with z | z | z <;> contradiction)]
    rfl
  refine mw_sw (t := 102) ?_ ?_
  · show some ((1 : Int) + Op.lookupswitch.offset [(37, 99), (38, 93), (42, 99), (43, 97), (45, 97), (47, 99), (60, 95), (61, 95), (62, 95), (124, 91)] 101 c.toInt) = some 102
    rw [Op.lookupswitch.offset_cons, if_neg (n_ti (k := 37) 37 rfl h10), Op.lookupswitch.offset_cons, if_neg (n_ti (k := 38) 38 rfl h2), Op.lookupswitch.offset_cons, if_neg (n_ti (k := 42) 42 rfl h8), Op.lookupswitch.offset_cons, if_neg (n_ti (k := 43) 43 rfl h6), Op.lookupswitch.offset_cons, if_neg (n_ti (k := 45) 45 rfl h7), Op.lookupswitch.offset_cons, if_neg (n_ti (k := 47) 47 rfl h9), Op.lookupswitch.offset_cons, if_neg (n_ti (k := 60) 60 rfl h3), Op.lookupswitch.offset_cons, if_neg (n_ti (k := 61) 61 rfl h4), Op.lookupswitch.offset_cons, if_neg (n_ti (k := 62) 62 rfl h5), Op.lookupswitch.offset_cons, if_neg (n_ti (k := 124) 124 rfl h1)]
    rfl
  · repeat (refine mw_step rfl ?_)
    exact mw_r1 rfl trivial (Nat.le_refl _) (Nat.le_refl _) (by rw [e]) rfl
theorem c_R_isDigit (h : MH) (c : Int32) : MC M_R_isDigit 0 0 0 [.int c] h (some (.int (bI (p_isD c)))) h := by
  refine mc_of k1_R_isDigit k2_R_isDigit (Nat.le_of_ble_eq_true rfl) ?_
  repeat (refine mw_step rfl ?_)
  refine mw_br rfl (fun h1 => ?_) (fun h1 => ?_)
  · repeat (refine mw_step rfl ?_)
    exact mw_r1 rfl rfl (Nat.le_refl _) (Nat.le_refl _) (by rw [bI_f]; intro z; exact m_nlt z.1 h1) rfl
  · repeat (refine mw_step rfl ?_)
    refine mw_br rfl (fun h2 => ?_) (fun h2 => ?_)
    · repeat (refine mw_step rfl ?_)
      exact mw_r1 rfl rfl (Nat.le_refl _) (Nat.le_refl _) (by rw [bI_f]; intro z; exact m_nlt z.2 h2) rfl
    · repeat (refine mw_step rfl ?_)
      exact mw_r1 rfl rfl (Nat.le_refl _) (Nat.le_refl _) (by rw [bI_t]; exact ⟨Int32.not_lt.mp h1, Int32.not_lt.mp h2⟩) rfl
section RD
variable {N : Nat} {sc : Nat × (Nat → Int32)} {x : XS} {m : OS} {tl : MH} {n : Nat}
abbrev hR (N : Nat) (sc : Nat × (Nat → Int32)) (x : XS) (m : OS) (tl : MH) (a : Int32) (s : Nat) (cd : Nat → Int32) (f : Int32) : MH := heapN N sc (xR_s x (xR_tape x, xR_len x, cd, nI s, a, f)) m tl
theorem c_R_sign (hn : xR_len x = nI n) (h120 : n ≤ 120) (a : Nat) (ha : a ≤ 200) (s : Nat) (cd : Nat → Int32) (f : Int32) : MC M_R_sign 0 0 0 [.ref 15] (hR N sc x m tl (nI a) s cd f) (some (.int (sg n (xR_tape x) a))) (hR N sc x m tl (nI a) s cd f) := by
  refine mc_of k1_R_sign k2_R_sign (Nat.le_of_ble_eq_true rfl) ?_
  repeat (refine mw_step rfl ?_)
  refine mw_brF rfl (nI_pos (by omega)) ?_
  repeat (refine mw_step rfl ?_)
  by_cases h : a < n
  · refine mw_brT rfl (by rw [hn]; exact n_lt h (by omega)) ?_
    repeat (refine mw_step rfl ?_)
    refine mw_brT rfl (n_lt (b := 120) (by omega) (by omega)) ?_
    repeat (refine mw_step rfl ?_)
    refine mw_ild rfl (rfl) (by omega) (by decide) ?_
    repeat (refine mw_step rfl ?_)
    exact mw_r1 rfl trivial (Nat.le_refl _) (Nat.le_refl _) (by rw [sg, if_pos h]) rfl
  · refine mw_brF rfl (by rw [hn]; exact n_nlt (by omega) (by omega)) ?_
    repeat (refine mw_step rfl ?_)
    exact mw_r1 rfl trivial (Nat.le_refl _) (Nat.le_refl _) (by rw [sg, if_neg h]) rfl
theorem c_R_emit (a : Int32) (s : Nat) (hs : s < 120) (cd : Nat → Int32) (f c : Int32) : MC M_R_emit 0 0 0 [.ref 15, .int c] (hR N sc x m tl a s cd f) none (hR N sc x m tl a (s + 1) (upd cd s c) f) := by
  refine mc_of k1_R_emit k2_R_emit (Nat.le_of_ble_eq_true rfl) ?_
  repeat (refine mw_step rfl ?_)
  refine mw_brF rfl (nI_pos (by omega)) ?_
  repeat (refine mw_step rfl ?_)
  refine mw_brT rfl (n_lt (b := 120) (by omega) (by omega)) ?_
  repeat (refine mw_step rfl ?_)
  refine mw_ist rfl (rfl) (by omega) (by decide) ?_
  repeat (refine mw_step rfl ?_)
  exact mw_r0 rfl (Nat.le_refl _) (Nat.le_refl _) rfl (by show heapN _ _ _ _ _ = _; rw [← nI_1]; rfl)
theorem c_R_emitX (a : Int32) (s : Nat) (hs : s ≤ 120) (cd : Nat → Int32) (f c : Int32) : ∃ s' cd', s' ≤ 120 ∧ MC M_R_emit 0 0 0 [.ref 15, .int c] (hR N sc x m tl a s cd f) none (hR N sc x m tl a s' cd' f) := by
  by_cases h : s < 120
  · exact ⟨s + 1, upd cd s c, h, c_R_emit a s h cd f c⟩
  · refine ⟨s, cd, hs, ?_⟩
    refine mc_of k1_R_emit k2_R_emit (Nat.le_of_ble_eq_true rfl) ?_
    repeat (refine mw_step rfl ?_)
    refine mw_brF rfl (nI_pos (by omega)) ?_
    repeat (refine mw_step rfl ?_)
    refine mw_brF rfl (n_nlt (b := 120) (by omega) (by omega)) ?_
    exact mw_r0 rfl (Nat.le_refl _) (Nat.le_refl _) rfl rfl
theorem n_dig {v j : Nat} (hj : 48 ≤ j) : nI v * 10 + nI j - 48 = nI (v * 10 + (j - 48)) := by
  rw [show (10 : Int32) = nI 10 from rfl, pk_mul, nI_add, show (48 : Int32) = nI 48 from rfl, pk_sub (by omega), show v * 10 + j - 48 = v * 10 + (j - 48) by omega]
theorem l_R_dig (hn : xR_len x = nI n) (h120 : n ≤ 120) (s : Nat) (cd : Nat → Int32) {hT : MH} : ∀ r t a v, t + r = 4 → a ≤ n → MW M_R_digits 1 0 0 none hT 0 0 48 [(0, .ref 15), (1, .int (nI (p_dig (txR n (xR_tape x)) r a v).2))] [] (hR N sc x m tl (nI (p_dig (txR n (xR_tape x)) r a v).1) s cd (-1)) → MW M_R_digits 1 0 0 none hT 0 0 4 [(0, .ref 15), (1, .int (nI v)), (2, .int (nI t))] [] (hR N sc x m tl (nI a) s cd (-1)) := by
  intro r
  induction r with
  | zero =>
    intro t a v ht ha K
    rw [show t = 4 by omega]
    repeat (refine mw_step rfl ?_)
    refine mw_brF rfl (by decide) ?_
    refine mw_pick [0, 1] rfl ?_
    exact K
  | succ r ih =>
    intro t a v ht ha K
    rw [p_dig] at K
    repeat (refine mw_step rfl ?_)
    refine mw_brT rfl (n_lt (b := 4) (by omega) (by omega)) ?_
    repeat (refine mw_step rfl ?_)
    refine mw_call (c_R_sign hn h120 a (by omega) s cd (-1)) rfl rfl (Nat.le_of_ble_eq_true rfl) (Nat.le_refl _) (Nat.le_refl _) ?_
    refine mw_call (c_R_isDigit _ _) rfl rfl (Nat.le_of_ble_eq_true rfl) (Nat.le_refl _) (Nat.le_refl _) ?_
    by_cases hd : p_isD (txR n (xR_tape x) a)
    · rw [if_pos hd] at K
      refine mw_brF rfl (bI_ne (sg_isD.mpr hd)) ?_
      repeat (refine mw_step rfl ?_)
      refine mw_call (c_R_sign hn h120 a (by omega) s cd (-1)) rfl rfl (Nat.le_of_ble_eq_true rfl) (Nat.le_refl _) (Nat.le_refl _) ?_
      rw [sg_t (p_isD_0 hd)]
      obtain ⟨j, j1, j2, je⟩ := p_isD_at hd
      rw [je, nI_clamp (by omega)] at K
      rw [je]
      have hlt := tx_lt (txR_ok n h120 (xR_tape x)) (p_isD_0 hd)
      repeat (refine mw_to 4 rfl rfl ?_)
      rw [nI_1, nI_1, n_dig j1]
      refine mw_pick [0, 1, 2] rfl ?_
      exact ih (t + 1) (a + 1) _ (by omega) hlt K
    · rw [if_neg hd] at K
      refine mw_brT rfl (bI_f (fun z => hd (sg_isD.mp z))) ?_
      refine mw_pick [0, 1] rfl ?_
      exact K
theorem c_R_digits (hn : xR_len x = nI n) (h120 : n ≤ 120) (s : Nat) (hs : s < 120) (cd : Nat → Int32) (a : Nat) (ha : a ≤ n) : MC M_R_digits 1 0 0 [.ref 15] (hR N sc x m tl (nI a) s cd (-1)) none (hR N sc x m tl (nI (p_dig (txR n (xR_tape x)) 4 a 0).1) (s + 1) (upd cd s (nI (p_dig (txR n (xR_tape x)) 4 a 0).2)) (-1)) := by
  refine mc_of k1_R_digits k2_R_digits (Nat.le_of_ble_eq_true rfl) ?_
  repeat (refine mw_to 4 rfl rfl ?_)
  refine mw_pick [0, 1, 2] rfl ?_
  refine l_R_dig hn h120 s cd 4 0 a 0 (by omega) ha ?_
  repeat (refine mw_step rfl ?_)
  refine mw_call (c_R_emit _ s hs cd (-1) _) rfl rfl (Nat.le_of_ble_eq_true rfl) (Nat.le_refl _) (Nat.le_refl _) ?_
  exact mw_r0 rfl (Nat.le_refl _) (Nat.le_refl _) rfl rfl
/-- how a piece of the text leaves the reader -/
def RZ (s : Nat) (cd : Nat → Int32) (r : PR) (Z : Int32 → Nat → (Nat → Int32) → Int32 → Prop) : Prop := match r with
  | .inl f => ∃ a' s' cd', s' ≤ 120 ∧ Z a' s' cd' (nI f)
  | .inr (b, e) => Z (nI b) (s + e.1.length) (x_wr cd s e.1) (-1)
theorem c_R_base (hn : xR_len x = nI n) (h120 : n ≤ 120) (o d : Nat) (ho : o ≤ 6) (hd : 2 ≤ d) (a s : Nat) (cd : Nat → Int32) (ha : a ≤ n) (hs : s ≤ a) (hb : o = 6 ∨ (¬ txR n (xR_tape x) a = 40 ∧ ¬ txR n (xR_tape x) a = 33 ∧ ¬ txR n (xR_tape x) a = 45)) : RZ s cd (p_base (txR n (xR_tape x)) a) fun a' s' cd' f' => MC M_R_operand d 0 0 [.ref 15, .int (nI o)] (hR N sc x m tl (nI a) s cd (-1)) none (hR N sc x m tl a' s' cd' f') := by
  unfold p_base
  by_cases hD : p_isD (txR n (xR_tape x) a)
  · rw [if_pos hD]
    have hlt := tx_lt (txR_ok n h120 (xR_tape x)) (p_isD_0 hD)
    show MC _ _ _ _ _ _ _ _
    refine mc_of k1_R_operand k2_R_operand (Nat.le_of_ble_eq_true rfl) ?_
    repeat (refine mw_step rfl ?_)
    refine mw_call (c_R_sign hn h120 a (by omega) s cd (-1)) rfl rfl (by omega) (Nat.le_refl _) (Nat.le_refl _) ?_
    repeat (refine mw_step rfl ?_)
    refine mw_brT rfl (m1_neg) ?_
    repeat (refine mw_step rfl ?_)
    refine mw_call (c_R_isDigit _ _) rfl rfl (by omega) (Nat.le_refl _) (Nat.le_refl _) ?_
    refine mw_brF rfl (bI_ne (sg_isD.mpr hD)) ?_
    repeat (refine mw_step rfl ?_)
    refine mw_call (c_R_digits hn h120 s (by omega) cd a ha) rfl rfl (by omega) (Nat.le_refl _) (Nat.le_refl _) ?_
    repeat (refine mw_step rfl ?_)
    exact mw_r0 rfl (Nat.le_refl _) (Nat.le_refl _) rfl rfl
  · rw [if_neg hD]
    by_cases hN : p_isN (txR n (xR_tape x) a)
    · rw [if_pos hN]
      have hlt := tx_lt (txR_ok n h120 (xR_tape x)) (p_isN_0 hN)
      have he : sg n (xR_tape x) a = txR n (xR_tape x) a := sg_t (p_isN_0 hN)
      have e2 : nI (txR n (xR_tape x) a).toNatClampNeg = txR n (xR_tape x) a := by rcases hN with e | e | e | e <;> rw [e] <;> decide
      show MC _ _ _ _ _ _ _ (hR N sc x m tl (nI (a + 1)) (s + 1) (upd cd s (-nI (txR n (xR_tape x) a).toNatClampNeg)) (-1))
      rw [e2]
      refine mc_of k1_R_operand k2_R_operand (Nat.le_of_ble_eq_true rfl) ?_
      repeat (refine mw_step rfl ?_)
      refine mw_call (c_R_sign hn h120 a (by omega) s cd (-1)) rfl rfl (by omega) (Nat.le_refl _) (Nat.le_refl _) ?_
      repeat (refine mw_step rfl ?_)
      refine mw_brT rfl (m1_neg) ?_
      repeat (refine mw_step rfl ?_)
      refine mw_call (c_R_isDigit _ _) rfl rfl (by omega) (Nat.le_refl _) (Nat.le_refl _) ?_
      refine mw_brT rfl (bI_f (fun z => hD (sg_isD.mp z))) ?_
      rw [he]
      have K : MW M_R_operand d 0 0 none (hR N sc x m tl (nI (a + 1)) (s + 1) (upd cd s (-txR n (xR_tape x) a)) (-1)) 0 0 51 [(0, .ref 15), (1, .int (nI o)), (2, .int (txR n (xR_tape x) a))] [] (hR N sc x m tl (nI a) s cd (-1)) := by
        repeat (refine mw_step rfl ?_)
        refine mw_call (c_R_emit _ s (by omega) cd (-1) _) rfl rfl (by omega) (Nat.le_refl _) (Nat.le_refl _) ?_
        repeat (refine mw_step rfl ?_)
        exact mw_r0 rfl (Nat.le_refl _) (Nat.le_refl _) rfl (by show heapN _ _ _ _ _ = _; rw [← nI_1 a]; rfl)
      repeat (refine mw_step rfl ?_)
      refine mw_br rfl (fun h1 => ?_) (fun h1 => ?_)
      · refine mw_pick [0, 1, 2] rfl ?_
        exact K
      · repeat (refine mw_step rfl ?_)
        refine mw_br rfl (fun h2 => ?_) (fun h2 => ?_)
        · refine mw_pick [0, 1, 2] rfl ?_
          exact K
        · repeat (refine mw_step rfl ?_)
          refine mw_br rfl (fun h3 => ?_) (fun h3 => ?_)
          · refine mw_pick [0, 1, 2] rfl ?_
            exact K
          · repeat (refine mw_step rfl ?_)
            refine mw_br rfl (fun h4 => ?_) (fun h4 => ?_)
            · refine mw_pick [0, 1, 2] rfl ?_
              exact K
            · exact absurd hN (fun z => by rcases z with z | z | z | z <;> contradiction)
    · rw [if_neg hN]
      refine ⟨nI a, s, cd, by omega, ?_⟩
      have hN2 : ∀ c : Int32, (c = 121 ∨ c = 107 ∨ c = 119 ∨ c = 112) → ¬ sg n (xR_tape x) a = c := fun c hc e => hN (by
        have h0 : ¬ c = 0 := by rcases hc with rfl | rfl | rfl | rfl <;> decide
        have h1 : ¬ c = -1 := by rcases hc with rfl | rfl | rfl | rfl <;> decide
        rw [(sg_eq h0 h1).mp e]
        exact hc)
      refine mc_of k1_R_operand k2_R_operand (Nat.le_of_ble_eq_true rfl) ?_
      repeat (refine mw_step rfl ?_)
      refine mw_call (c_R_sign hn h120 a (by omega) s cd (-1)) rfl rfl (by omega) (Nat.le_refl _) (Nat.le_refl _) ?_
      repeat (refine mw_step rfl ?_)
      refine mw_brT rfl (m1_neg) ?_
      repeat (refine mw_step rfl ?_)
      refine mw_call (c_R_isDigit _ _) rfl rfl (by omega) (Nat.le_refl _) (Nat.le_refl _) ?_
      refine mw_brT rfl (bI_f (fun z => hD (sg_isD.mp z))) ?_
      repeat (refine mw_step rfl ?_)
      refine mw_brF rfl (hN2 121 (by decide)) ?_
      repeat (refine mw_step rfl ?_)
      refine mw_brF rfl (hN2 107 (by decide)) ?_
      repeat (refine mw_step rfl ?_)
      refine mw_brF rfl (hN2 119 (by decide)) ?_
      repeat (refine mw_step rfl ?_)
      refine mw_brF rfl (hN2 112 (by decide)) ?_
      repeat (refine mw_step rfl ?_)
      rcases hb with rfl | ⟨b1, b2, b3⟩
      · refine mw_brF rfl (by decide) ?_
        repeat (refine mw_step rfl ?_)
        exact mw_r0 rfl (Nat.le_refl _) (Nat.le_refl _) rfl rfl
      · refine mw_br rfl (fun h6 => ?_) (fun h6 => ?_)
        · repeat (refine mw_step rfl ?_)
          refine mw_brF rfl (fun e => b1 ((sg_eq (by decide) (by decide)).mp e)) ?_
          repeat (refine mw_step rfl ?_)
          refine mw_brF rfl (fun e => b2 ((sg_eq (by decide) (by decide)).mp e)) ?_
          repeat (refine mw_step rfl ?_)
          refine mw_brF rfl (fun e => b3 ((sg_eq (by decide) (by decide)).mp e)) ?_
          repeat (refine mw_step rfl ?_)
          exact mw_r0 rfl (Nat.le_refl _) (Nat.le_refl _) rfl rfl
        · repeat (refine mw_step rfl ?_)
          exact mw_r0 rfl (Nat.le_refl _) (Nat.le_refl _) rfl rfl
end RD
