/-! what is told, its changes -/
theorem bI_ne {p : Prop} [Decidable p] (h : p) : ¬ bI p = 0 := by
  rw [bI_t h]
  decide
theorem bI_of {p : Prop} [Decidable p] (h : ¬ bI p = 0) : p := Classical.not_not.mp (fun z => h (bI_f z))
theorem m_sw_out {M : MD} {pc : Nat} {x dflt lo hi : Int} {offs : Array Int} {e : Nat × Nat × Nat × Nat × MethodName × Value} {t : Int} (hf : m_find pc M.2.2.2.2.2 = some (.tableswitch dflt lo hi offs, e)) (h : x < lo ∨ hi < x) (ht : (pc : Int) + dflt = t) : m_sw M pc x = some t := by
  unfold m_sw
  rw [hf]
  have : (decide (x < lo) || decide (hi < x)) = true := by
    rw [Bool.or_eq_true, decide_eq_true_eq, decide_eq_true_eq]
    exact h
  simp only [this, cond_true, ht]
theorem m_out {x : Int32} {n : Nat} (hn : n < 2 ^ 31) (h : ¬ (0 ≤ x ∧ x ≤ nI n)) : x.toInt < 0 ∨ (n : Int) < x.toInt := by
  rw [Int32.le_iff_toInt_le, Int32.le_iff_toInt_le, nI_toInt hn, Int32.toInt_zero] at h
  omega
abbrev gT (x : XS) : xTS := x.1
abbrev gA (m : OS) : zaS := m.1
/-- the reference's order of the two counts -/
def zt (t : xTS) : zaS := (t.1, t.2.1, t.2.2.1, t.2.2.2.1, t.2.2.2.2.2, t.2.2.2.2.1)
def tz (t : zaS) : xTS := (t.1, t.2.1, t.2.2.1, t.2.2.2.1, t.2.2.2.2.2, t.2.2.2.2.1)
def sp_rem (t : xTS) (dn : Nat) (c w v : Int32) : xTS := if dn = 40 then (t.1, upd (sp_drop t.2.1) 39 c, upd (sp_drop t.2.2.1) 39 w, upd (sp_drop t.2.2.2.1) 39 v, nI 40, nI 40) else (t.1, upd t.2.1 dn c, upd t.2.2.1 dn w, upd t.2.2.2.1 dn v, nI (dn + 1), nI (dn + 1))
def sp_bec (t : xTS) (dn c : Nat) (v : Int32) : xTS := if t.1 c = v then t else (upd t.1 c v, (sp_rem t dn (nI c) (t.1 c) v).2)
section TP
variable {N : Nat} {sc : Nat × (Nat → Int32)} {x : XS} {m : OS} {tl : MH} {dn kn : Nat}
theorem c_T_rem (hd : xT_done x = nI dn) (h40 : dn ≤ 40) (c w v : Int32) : MC M_T_remember 2 0 0 [.ref 6, .int c, .int w, .int v] (heapN N sc x m tl) none (heapN N sc (xT_s x (sp_rem (gT x) dn c w v)) m tl) := by
  refine mc_of k1_T_remember k2_T_remember (Nat.le_of_ble_eq_true rfl) ?_
  repeat (refine mw_step rfl ?_)
  by_cases hx : dn = 40
  · refine mw_brF rfl (by rw [hd]; exact n_nlt (b := 40) (by omega) (by omega)) ?_
    repeat (refine mw_step rfl ?_)
    refine mw_call (c_T_drop) rfl rfl (Nat.le_of_ble_eq_true rfl) (Nat.le_refl _) (Nat.le_refl _) ?_
    repeat (refine mw_step rfl ?_)
    refine mw_brF rfl (show ¬ nI 39 < 0 by decide) ?_
    repeat (refine mw_step rfl ?_)
    refine mw_brT rfl (show nI 39 < 40 by decide) ?_
    repeat (refine mw_step rfl ?_)
    refine mw_ist rfl (rfl) (by omega) (by decide) ?_
    repeat (refine mw_step rfl ?_)
    refine mw_ist rfl (rfl) (by omega) (by decide) ?_
    repeat (refine mw_step rfl ?_)
    refine mw_ist rfl (rfl) (by omega) (by decide) ?_
    repeat (refine mw_step rfl ?_)
    exact mw_r0 rfl (Nat.le_refl _) (Nat.le_refl _) rfl (by rw [sp_rem, if_pos hx]; rfl)
  · refine mw_brT rfl (by rw [hd]; exact n_lt (b := 40) (by omega) (by omega)) ?_
    repeat (refine mw_step rfl ?_)
    refine mw_brF rfl (by rw [hd]; exact nI_pos (by omega)) ?_
    repeat (refine mw_step rfl ?_)
    refine mw_brT rfl (by rw [hd]; exact n_lt (b := 40) (by omega) (by omega)) ?_
    repeat (refine mw_step rfl ?_)
    refine mw_ist rfl (hd) (by omega) (by decide) ?_
    repeat (refine mw_step rfl ?_)
    refine mw_ist rfl (hd) (by omega) (by decide) ?_
    repeat (refine mw_step rfl ?_)
    refine mw_ist rfl (hd) (by omega) (by decide) ?_
    repeat (refine mw_step rfl ?_)
    exact mw_r0 rfl (Nat.le_refl _) (Nat.le_refl _) rfl (by rw [sp_rem, if_neg hx, ← nI_1, ← hd]; rfl)
theorem c_T_change (hd : xT_done x = nI dn) (h40 : dn ≤ 40) (a b : Nat) (hb : a * 6 + b < 24) (v : Int32) : MC M_T_change 3 0 0 [.ref 6, .int (nI a), .int (nI b), .int v] (heapN N sc x m tl) (some (.int (xT_now x (a * 6 + b)))) (heapN N sc (xT_s x (sp_bec (gT x) dn (a * 6 + b) v)) m tl) := by
  refine mc_of k1_T_change k2_T_change (Nat.le_of_ble_eq_true rfl) ?_
  repeat (refine mw_step rfl ?_)
  refine mw_call (c_T_get a b hb) rfl rfl (Nat.le_of_ble_eq_true rfl) (Nat.le_refl _) (Nat.le_refl _) ?_
  repeat (refine mw_step rfl ?_)
  refine mw_br rfl (fun h1 => ?_) (fun h1 => ?_)
  · repeat (refine mw_step rfl ?_)
    exact mw_r1 rfl trivial (Nat.le_refl _) (Nat.le_refl _) (rfl ) ( by rw [sp_bec, if_pos h1])
  · repeat (refine mw_step rfl ?_)
    rw [show nI a * 6 + nI b = nI (a * 6 + b) from n_ma a b]
    refine mw_call (c_T_rem hd h40 _ _ _) rfl rfl (Nat.le_of_ble_eq_true rfl) (Nat.le_refl _) (Nat.le_refl _) ?_
    repeat (refine mw_step rfl ?_)
    rw [show nI a * 6 + nI b = nI (a * 6 + b) from n_ma a b]
    refine mw_call (c_T_set (x := xT_s x (sp_rem (gT x) dn (nI (a * 6 + b)) (xT_now x (a * 6 + b)) v)) (a * 6 + b) v hb) rfl rfl (Nat.le_of_ble_eq_true rfl) (Nat.le_refl _) (Nat.le_refl _) ?_
    repeat (refine mw_step rfl ?_)
    exact mw_r1 rfl trivial (Nat.le_refl _) (Nat.le_refl _) (rfl ) ( by rw [sp_bec, if_neg h1]; unfold sp_rem; split <;> rfl)
/-- one step back -/
def sp_undo (t : xTS) (dn c : Nat) : xTS := (upd t.1 c (t.2.2.1 (dn - 1)), t.2.1, t.2.2.1, t.2.2.2.1, nI (dn - 1), t.2.2.2.2.2)
def sp_redo (t : xTS) (dn c : Nat) : xTS := (upd t.1 c (t.2.2.2.1 dn), t.2.1, t.2.2.1, t.2.2.2.1, nI (dn + 1), t.2.2.2.2.2)
theorem c_T_back0 (hd : xT_done x = nI 0) : MC M_T_stepBack 1 0 0 [.ref 6] (heapN N sc x m tl) (some (.int (-5))) (heapN N sc x m tl) := by
  refine mc_of k1_T_stepBack k2_T_stepBack (Nat.le_of_ble_eq_true rfl) ?_
  repeat (refine mw_step rfl ?_)
  refine mw_brF rfl (by rw [hd]; decide) ?_
  repeat (refine mw_step rfl ?_)
  exact mw_r1 rfl trivial (Nat.le_refl _) (Nat.le_refl _) rfl rfl
theorem c_T_back (hd : xT_done x = nI (dn + 1)) (h40 : dn < 40) (c : Nat) (hc : c < 24) (hcc : xT_cells x dn = nI c) : MC M_T_stepBack 1 0 0 [.ref 6] (heapN N sc x m tl) (some (.int (nI dn))) (heapN N sc (xT_s x (sp_undo (gT x) (dn + 1) c)) m tl) := by
  have hp : xT_done x - 1 = nI dn := by rw [hd, nI_pred]
  refine mc_of k1_T_stepBack k2_T_stepBack (Nat.le_of_ble_eq_true rfl) ?_
  repeat (refine mw_step rfl ?_)
  refine mw_brT rfl (by rw [hd]; exact n_lt (a := 0) (by omega) (by omega)) ?_
  repeat (refine mw_step rfl ?_)
  refine mw_brF rfl (by rw [hd]; exact n_nlt (a := 40) (by omega) (by omega)) ?_
  repeat (refine mw_step rfl ?_)
  refine mw_ild rfl (hp) (by omega) (by decide) ?_
  repeat (refine mw_step rfl ?_)
  refine mw_ild rfl (hp) (by omega) (by decide) ?_
  rw [hcc]
  refine mw_call (c_T_set (x := xT_done_s x (xT_done x - 1)) c (xT_before x dn) hc) rfl rfl (Nat.le_of_ble_eq_true rfl) (Nat.le_refl _) (Nat.le_refl _) ?_
  repeat (refine mw_step rfl ?_)
  exact mw_r1 rfl trivial (Nat.le_refl _) (Nat.le_refl _) (by rw [← hp] ) ( by rw [sp_undo, show dn + 1 - 1 = dn by omega, ← hp])
theorem c_T_again0 (hd : xT_done x = nI dn) (hk : xT_kept x = nI dn) (h40 : dn ≤ 40) : MC M_T_stepAgain 1 0 0 [.ref 6] (heapN N sc x m tl) (some (.int (-5))) (heapN N sc x m tl) := by
  refine mc_of k1_T_stepAgain k2_T_stepAgain (Nat.le_of_ble_eq_true rfl) ?_
  repeat (refine mw_step rfl ?_)
  refine mw_brF rfl (by rw [hd]; exact nI_pos (by omega)) ?_
  repeat (refine mw_step rfl ?_)
  refine mw_brF rfl (by rw [hd, hk]; exact n_nlt (by omega) (by omega)) ?_
  repeat (refine mw_step rfl ?_)
  exact mw_r1 rfl trivial (Nat.le_refl _) (Nat.le_refl _) rfl rfl
theorem c_T_again (hd : xT_done x = nI dn) (hk : xT_kept x = nI kn) (h1 : dn < kn) (h40 : kn ≤ 40) (c : Nat) (hc : c < 24) (hcc : xT_cells x dn = nI c) : MC M_T_stepAgain 1 0 0 [.ref 6] (heapN N sc x m tl) (some (.int (nI (kn - (dn + 1))))) (heapN N sc (xT_s x (sp_redo (gT x) dn c)) m tl) := by
  refine mc_of k1_T_stepAgain k2_T_stepAgain (Nat.le_of_ble_eq_true rfl) ?_
  repeat (refine mw_step rfl ?_)
  refine mw_brF rfl (by rw [hd]; exact nI_pos (by omega)) ?_
  repeat (refine mw_step rfl ?_)
  refine mw_brT rfl (by rw [hd, hk]; exact n_lt (by omega) (by omega)) ?_
  repeat (refine mw_step rfl ?_)
  refine mw_brT rfl (by rw [hd]; exact n_lt (b := 40) (by omega) (by omega)) ?_
  repeat (refine mw_step rfl ?_)
  refine mw_ild rfl (hd) (by omega) (by decide) ?_
  repeat (refine mw_step rfl ?_)
  refine mw_ild rfl (hd) (by omega) (by decide) ?_
  rw [hcc]
  refine mw_call (c_T_set c (xT_after x dn) hc) rfl rfl (Nat.le_of_ble_eq_true rfl) (Nat.le_refl _) (Nat.le_refl _) ?_
  repeat (refine mw_step rfl ?_)
  exact mw_r1 rfl trivial (Nat.le_refl _) (Nat.le_refl _) (by rw [hk, hd, nI_1, pk_sub (by omega)] ) ( by rw [sp_redo, ← nI_1, ← hd]; rfl)
theorem c_C_undo {v : Option Value} {h' : MH} (hC : MC M_T_stepBack 1 0 0 [.ref 6] (heapN N sc x m tl) v h') {r : Int32} (hv : v = some (.int r)) : MC M_C_undo 2 0 0 [.ref 5] (heapN N sc x m tl) (some (.int r)) h' := by
  subst hv
  refine mc_of k1_C_undo k2_C_undo (Nat.le_of_ble_eq_true rfl) ?_
  repeat (refine mw_step rfl ?_)
  refine mw_call (hC) rfl rfl (Nat.le_of_ble_eq_true rfl) (Nat.le_refl _) (Nat.le_refl _) ?_
  exact mw_r1 rfl trivial (Nat.le_refl _) (Nat.le_refl _) rfl rfl
theorem c_C_redo {v : Option Value} {h' : MH} (hC : MC M_T_stepAgain 1 0 0 [.ref 6] (heapN N sc x m tl) v h') {r : Int32} (hv : v = some (.int r)) : MC M_C_redo 2 0 0 [.ref 5] (heapN N sc x m tl) (some (.int r)) h' := by
  subst hv
  refine mc_of k1_C_redo k2_C_redo (Nat.le_of_ble_eq_true rfl) ?_
  repeat (refine mw_step rfl ?_)
  refine mw_call (hC) rfl rfl (Nat.le_of_ble_eq_true rfl) (Nat.le_refl _) (Nat.le_refl _) ?_
  exact mw_r1 rfl trivial (Nat.le_refl _) (Nat.le_refl _) rfl rfl
def sp_mendOk (n what v : Int32) : Prop := (0 ≤ what ∧ what ≤ nI 3) ∧ (0 ≤ n ∧ n ≤ nI 5) ∧ (k_least what.toNatClampNeg ≤ v ∧ v ≤ k_most what.toNatClampNeg)
theorem c_C_mend_bad (n what v : Int32) (hok : ¬ sp_mendOk n what v) : MC M_C_mend 4 0 0 [.ref 5, .int n, .int what, .int v] (heapN N sc x m tl) (some (.int (-1))) (heapN N sc x m tl) := by
  refine mc_of k1_C_mend k2_C_mend (Nat.le_of_ble_eq_true rfl) ?_
  repeat (refine mw_step rfl ?_)
  refine mw_call (c_within _ _ _ _) rfl rfl (Nat.le_of_ble_eq_true rfl) (Nat.le_refl _) (Nat.le_refl _) ?_
  refine mw_br rfl (fun h1 => ?_) (fun h1 => ?_)
  · repeat (refine mw_step rfl ?_)
    exact mw_r1 rfl trivial (Nat.le_refl _) (Nat.le_refl _) rfl rfl
  · rw [bI_0, Classical.not_not] at h1
    repeat (refine mw_step rfl ?_)
    refine mw_call (c_within _ _ _ _) rfl rfl (Nat.le_of_ble_eq_true rfl) (Nat.le_refl _) (Nat.le_refl _) ?_
    refine mw_br rfl (fun h2 => ?_) (fun h2 => ?_)
    · repeat (refine mw_step rfl ?_)
      exact mw_r1 rfl trivial (Nat.le_refl _) (Nat.le_refl _) rfl rfl
    · rw [bI_0, Classical.not_not] at h2
      obtain ⟨a, ha, rfl⟩ := rng (n := 3) (by decide) h1
      repeat (refine mw_step rfl ?_)
      refine mw_ild rfl (rfl) (by omega) (by decide) ?_
      repeat (refine mw_step rfl ?_)
      refine mw_ild rfl (rfl) (by omega) (by decide) ?_
      refine mw_call (c_within _ _ _ _) rfl rfl (Nat.le_of_ble_eq_true rfl) (Nat.le_refl _) (Nat.le_refl _) ?_
      refine mw_br rfl (fun h3 => ?_) (fun h3 => ?_)
      · repeat (refine mw_step rfl ?_)
        exact mw_r1 rfl trivial (Nat.le_refl _) (Nat.le_refl _) rfl rfl
      · rw [bI_0, Classical.not_not] at h3
        refine absurd ⟨h1, h2, ?_⟩ hok
        rw [nI_clamp (by omega)]
        exact h3
theorem c_C_mend (hd : xT_done x = nI dn) (h40 : dn ≤ 40) (a b : Nat) (v : Int32) (ha : a ≤ 3) (hb : b ≤ 5) (hv : k_least a ≤ v ∧ v ≤ k_most a) : MC M_C_mend 4 0 0 [.ref 5, .int (nI b), .int (nI a), .int v] (heapN N sc x m tl) (some (.int (xT_now x (a * 6 + b)))) (heapN N sc (xT_s x (sp_bec (gT x) dn (a * 6 + b) v)) m tl) := by
  refine mc_of k1_C_mend k2_C_mend (Nat.le_of_ble_eq_true rfl) ?_
  repeat (refine mw_step rfl ?_)
  refine mw_call (c_within _ _ _ _) rfl rfl (Nat.le_of_ble_eq_true rfl) (Nat.le_refl _) (Nat.le_refl _) ?_
  refine mw_brF rfl (bI_ne (rng_in (n := 3) ha (by decide))) ?_
  repeat (refine mw_step rfl ?_)
  refine mw_call (c_within _ _ _ _) rfl rfl (Nat.le_of_ble_eq_true rfl) (Nat.le_refl _) (Nat.le_refl _) ?_
  refine mw_brF rfl (bI_ne (rng_in (n := 5) hb (by decide))) ?_
  repeat (refine mw_step rfl ?_)
  refine mw_ild rfl (rfl) (by omega) (by decide) ?_
  repeat (refine mw_step rfl ?_)
  refine mw_ild rfl (rfl) (by omega) (by decide) ?_
  refine mw_call (c_within _ _ _ _) rfl rfl (Nat.le_of_ble_eq_true rfl) (Nat.le_refl _) (Nat.le_refl _) ?_
  refine mw_brF rfl (bI_ne hv) ?_
  repeat (refine mw_step rfl ?_)
  refine mw_call (c_T_change hd h40 a b (by omega) v) rfl rfl (Nat.le_of_ble_eq_true rfl) (Nat.le_refl _) (Nat.le_refl _) ?_
  exact mw_r1 rfl trivial (Nat.le_refl _) (Nat.le_refl _) rfl rfl
/-- the reference's shifting of its rows -/
def sp_sh (f : Nat → Int32) (k : Nat) : Nat → Int32 := fun j => if j + 1 < k then f (j + 1) else f j
theorem sp_sh_up (f : Nat → Int32) (k : Nat) (hk : 1 ≤ k) : upd (sp_sh f k) (k - 1) (sp_sh f k k) = sp_sh f (k + 1) := by
  funext j
  unfold upd sp_sh
  by_cases h1 : j = k - 1
  · subst h1
    rw [if_pos rfl, if_neg (by omega), if_pos (by omega), show k - 1 + 1 = k by omega]
  · rw [if_neg h1]
    by_cases h2 : j + 1 < k
    · rw [if_pos h2, if_pos (by omega)]
    · rw [if_neg h2, if_neg (by omega)]
theorem sp_sh_1 (f : Nat → Int32) : sp_sh f 1 = f := by
  funext j
  unfold sp_sh
  rw [if_neg (by omega)]
theorem sp_sh_40 (f : Nat → Int32) : sp_sh f 40 = sp_drop f := by
  funext j
  unfold sp_sh sp_drop va_cpy
  by_cases h : j < 39
  · rw [if_pos (by omega), if_pos ⟨by omega, by omega⟩, show 1 + (j - 0) = j + 1 by omega]
  · rw [if_neg (by omega), if_neg (by omega)]
theorem l_O_shift {v : Option Value} {hT : MH} {l : ML} (m0 : OS) (hl : l = [(0, .ref 39), (1, .int 0), (2, .int 0), (3, .int 0)] ∨ True) (c w u : Int32) : ∀ r k, k + r = 40 → 1 ≤ k → MW M_O_becomes 0 0 0 v hT 0 0 87 [(0, .ref 39), (1, .int c), (2, .int u), (3, .int w)] [] (heapN N sc x (za_s m0 (za_may m0, sp_sh (za_chAt m0) 40, sp_sh (za_chWas m0) 40, sp_sh (za_chIs m0) 40, za_keptMany m0, za_done m0)) tl) → MW M_O_becomes 0 0 0 v hT 0 0 26 [(0, .ref 39), (1, .int c), (2, .int u), (3, .int w), (4, .int (nI k))] [] (heapN N sc x (za_s m0 (za_may m0, sp_sh (za_chAt m0) k, sp_sh (za_chWas m0) k, sp_sh (za_chIs m0) k, za_keptMany m0, za_done m0)) tl) := by
  intro r
  induction r with
  | zero =>
    intro k hk h1 K
    rw [show k = 40 by omega]
    repeat (refine mw_step rfl ?_)
    refine mw_brF rfl (by decide) ?_
    refine mw_pick [0, 1, 2, 3] rfl ?_
    exact K
  | succ r ih =>
    intro k hk h1 K
    have ek : nI k - 1 = nI (k - 1) := by
      obtain ⟨j, rfl⟩ : ∃ j, k = j + 1 := ⟨k - 1, by omega⟩
      rw [nI_pred, show j + 1 - 1 = j by omega]
    repeat (refine mw_step rfl ?_)
    refine mw_brT rfl (n_lt (b := 40) (by omega) (by omega)) ?_
    repeat (refine mw_step rfl ?_)
    refine mw_ild rfl (rfl) (by omega) (by decide) ?_
    refine mw_ist rfl (ek) (by omega) (by decide) ?_
    repeat (refine mw_step rfl ?_)
    refine mw_ild rfl (rfl) (by omega) (by decide) ?_
    refine mw_ist rfl (ek) (by omega) (by decide) ?_
    repeat (refine mw_step rfl ?_)
    refine mw_ild rfl (rfl) (by omega) (by decide) ?_
    refine mw_ist rfl (ek) (by omega) (by decide) ?_
    repeat (refine mw_to 26 rfl rfl ?_)
    rw [nI_1]
    refine mw_pick [0, 1, 2, 3, 4] rfl ?_
    have := ih (k + 1) (by omega) (by omega) K
    rw [← sp_sh_up _ k h1, ← sp_sh_up _ k h1, ← sp_sh_up _ k h1] at this
    exact this
theorem c_O_becomes (hd : za_done m = nI dn) (h40 : dn ≤ 40) (c : Nat) (hc : c < 24) (v : Int32) : MC M_O_becomes 0 0 0 [.ref 39, .int (nI c), .int v] (heapN N sc x m tl) (some (.int (za_may m c))) (heapN N sc x (za_s m (zt (sp_bec (tz (gA m)) dn c v))) tl) := by
  refine mc_of k1_O_becomes k2_O_becomes (Nat.le_of_ble_eq_true rfl) ?_
  repeat (refine mw_step rfl ?_)
  refine mw_ild rfl (rfl) (by omega) (by decide) ?_
  repeat (refine mw_step rfl ?_)
  refine mw_br rfl (fun h1 => ?_) (fun h1 => ?_)
  · repeat (refine mw_step rfl ?_)
    exact mw_r1 rfl trivial (Nat.le_refl _) (Nat.le_refl _) (rfl ) ( by rw [sp_bec, if_pos (show (tz (gA m)).1 c = v from h1)]; rfl)
  · repeat (refine mw_step rfl ?_)
    by_cases hx : dn = 40
    · refine mw_brT rfl (by rw [hd, hx]; rfl) ?_
      repeat (refine mw_to 26 rfl rfl ?_)
      refine mw_pick [0, 1, 2, 3, 4] rfl ?_
      have L := l_O_shift (N := N) (sc := sc) (x := x) (tl := tl) (v := some (.int (za_may m c))) (hT := heapN N sc x (za_s m (zt (sp_bec (tz (gA m)) dn c v))) tl) (l := []) m (Or.inr trivial) (nI c) (za_may m c) v 39 1 (by omega) (by omega)
      rw [sp_sh_1, sp_sh_1, sp_sh_1, sp_sh_40, sp_sh_40, sp_sh_40] at L
      refine L ?_
      have hp : za_done m - 1 = nI 39 := by rw [hd, hx]; rfl
      repeat (refine mw_step rfl ?_)
      refine mw_ist rfl (hp) (by omega) (by decide) ?_
      repeat (refine mw_step rfl ?_)
      refine mw_ist rfl (hp) (by omega) (by decide) ?_
      repeat (refine mw_step rfl ?_)
      refine mw_ist rfl (hp) (by omega) (by decide) ?_
      repeat (refine mw_step rfl ?_)
      refine mw_ist rfl (rfl) (by omega) (by decide) ?_
      repeat (refine mw_step rfl ?_)
      exact mw_r1 rfl trivial (Nat.le_refl _) (Nat.le_refl _) (rfl ) ( by rw [sp_bec, if_neg (show ¬ (tz (gA m)).1 c = v from h1), sp_rem, if_pos hx, show nI 40 = za_done m - 1 + 1 by rw [hp]; rfl]; rfl)
    · refine mw_brF rfl (by rw [hd]; intro e; exact hx ((nI_eq (by omega) (b := 40) (by omega)).mp e)) ?_
      repeat (refine mw_step rfl ?_)
      refine mw_ist rfl (hd) (by omega) (by decide) ?_
      repeat (refine mw_step rfl ?_)
      refine mw_ist rfl (hd) (by omega) (by decide) ?_
      repeat (refine mw_step rfl ?_)
      refine mw_ist rfl (hd) (by omega) (by decide) ?_
      repeat (refine mw_step rfl ?_)
      refine mw_ist rfl (rfl) (by omega) (by decide) ?_
      repeat (refine mw_step rfl ?_)
      exact mw_r1 rfl trivial (Nat.le_refl _) (Nat.le_refl _) (rfl ) ( by rw [sp_bec, if_neg (show ¬ (tz (gA m)).1 c = v from h1), sp_rem, if_neg hx, ← nI_1, ← hd]; rfl)
theorem c_O_undo0 (hd : za_done m = nI 0) : MC M_O_undo 0 0 0 [.ref 39] (heapN N sc x m tl) (some (.int (-5))) (heapN N sc x m tl) := by
  refine mc_of k1_O_undo k2_O_undo (Nat.le_of_ble_eq_true rfl) ?_
  repeat (refine mw_step rfl ?_)
  refine mw_brT rfl (by rw [hd]; rfl) ?_
  repeat (refine mw_step rfl ?_)
  exact mw_r1 rfl trivial (Nat.le_refl _) (Nat.le_refl _) rfl rfl
theorem c_O_undo (hd : za_done m = nI (dn + 1)) (h40 : dn < 40) (c : Nat) (hc : c < 24) (hcc : za_chAt m dn = nI c) : MC M_O_undo 0 0 0 [.ref 39] (heapN N sc x m tl) (some (.int (nI dn))) (heapN N sc x (za_s m (zt (sp_undo (tz (gA m)) (dn + 1) c))) tl) := by
  have hp : za_done m - 1 = nI dn := by rw [hd, nI_pred]
  refine mc_of k1_O_undo k2_O_undo (Nat.le_of_ble_eq_true rfl) ?_
  repeat (refine mw_step rfl ?_)
  refine mw_brF rfl (by rw [hd]; exact nI_ne0 (by omega) (by omega)) ?_
  repeat (refine mw_step rfl ?_)
  refine mw_ild rfl (hp) (by omega) (by decide) ?_
  repeat (refine mw_step rfl ?_)
  refine mw_ild rfl (hp) (by omega) (by decide) ?_
  refine mw_ist rfl (hcc) (by omega) (by decide) ?_
  repeat (refine mw_step rfl ?_)
  exact mw_r1 rfl trivial (Nat.le_refl _) (Nat.le_refl _) (by rw [← hp] ) ( by rw [sp_undo, show dn + 1 - 1 = dn by omega, ← hp]; rfl)
theorem c_O_redo0 (hd : za_done m = nI dn) (hk : za_keptMany m = nI dn) : MC M_O_redo 0 0 0 [.ref 39] (heapN N sc x m tl) (some (.int (-5))) (heapN N sc x m tl) := by
  refine mc_of k1_O_redo k2_O_redo (Nat.le_of_ble_eq_true rfl) ?_
  repeat (refine mw_step rfl ?_)
  refine mw_brT rfl (by rw [hd, hk]) ?_
  repeat (refine mw_step rfl ?_)
  exact mw_r1 rfl trivial (Nat.le_refl _) (Nat.le_refl _) rfl rfl
theorem c_O_redo (hd : za_done m = nI dn) (hk : za_keptMany m = nI kn) (h1 : dn < kn) (h40 : kn ≤ 40) (c : Nat) (hc : c < 24) (hcc : za_chAt m dn = nI c) : MC M_O_redo 0 0 0 [.ref 39] (heapN N sc x m tl) (some (.int (nI (kn - (dn + 1))))) (heapN N sc x (za_s m (zt (sp_redo (tz (gA m)) dn c))) tl) := by
  refine mc_of k1_O_redo k2_O_redo (Nat.le_of_ble_eq_true rfl) ?_
  repeat (refine mw_step rfl ?_)
  refine mw_brF rfl (by rw [hd, hk]; intro e; have := (nI_eq (by omega) (by omega)).mp e; omega) ?_
  repeat (refine mw_step rfl ?_)
  refine mw_ild rfl (hd) (by omega) (by decide) ?_
  repeat (refine mw_step rfl ?_)
  refine mw_ild rfl (hd) (by omega) (by decide) ?_
  refine mw_ist rfl (hcc) (by omega) (by decide) ?_
  repeat (refine mw_step rfl ?_)
  exact mw_r1 rfl trivial (Nat.le_refl _) (Nat.le_refl _) (by rw [hk, hd, nI_1, pk_sub (by omega)] ) ( by rw [sp_redo, ← nI_1, ← hd]; rfl)
end TP
