/-! the reference reads and works out at once -/
theorem p_clos_4 {c : Int32} : p_clos c = 4 ↔ (c = 42 ∨ c = 47 ∨ c = 37) := by
  constructor
  · intro h
    unfold p_clos at h
    (repeat' split at h) <;> first | assumption | exact absurd h (by decide)
  · rintro (rfl | rfl | rfl) <;> decide
theorem p_clos_3 {c : Int32} : p_clos c = 3 ↔ (c = 43 ∨ c = 45) := by
  constructor
  · intro h
    unfold p_clos at h
    (repeat' split at h) <;> first | assumption | exact absurd h (by decide)
  · rintro (rfl | rfl) <;> decide
theorem p_clos_2 {c : Int32} : p_clos c = 2 ↔ (c = 60 ∨ c = 61 ∨ c = 62) := by
  constructor
  · intro h
    unfold p_clos at h
    (repeat' split at h) <;> first | assumption | exact absurd h (by decide)
  · rintro (rfl | rfl | rfl) <;> decide
theorem p_clos_1 {c : Int32} : p_clos c = 1 ↔ c = 38 := by
  constructor
  · intro h
    unfold p_clos at h
    (repeat' split at h) <;> first | assumption | exact absurd h (by decide)
  · rintro rfl; decide
theorem p_clos_0 {c : Int32} : p_clos c = 0 ↔ c = 124 := by
  constructor
  · intro h
    unfold p_clos at h
    (repeat' split at h) <;> first | assumption | exact absurd h (by decide)
  · rintro rfl; decide
abbrev hO (N : Nat) (sc : Nat × (Nat → Int32)) (x : XS) (m : OS) (tl : MH) (bs : Int32) (n : Nat) (a f op : Int32) : MH := heapN N sc x (zt_s m (zt_tape m, zt_tapeMany m, zt_text m, zt_textMany m, bs, a, nI n, f, op, zt_names m)) tl
def BY (N : Nat) (sc : Nat × (Nat → Int32)) (x : XS) (m : OS) (tl : MH) (bs : Int32) (n : Nat) (tx : Nat → Int32) : Prop := ∀ (a : Nat) (f op : Int32), a ≤ 200 → MC M_O_byteAt 0 0 0 [.ref 39] (hO N sc x m tl bs n (nI a) f op) (some (.int (tx a))) (hO N sc x m tl bs n (nI a) f op)
abbrev envO (m : OS) : Nat → Int32 := x_env (zt_names m 0) (zt_names m 1) (zt_names m 2) (zt_names m 3)
def OZ (v : Nat → Int32) (o : Int32) (r : PR) (Z : Int32 → Int32 → Int32 → Int32 → Prop) : Prop := match r with
  | .inl f => ∃ u op', Z u (nI f) (nI f) op'
  | .inr (b, e) => Z (e.2 v) (nI b) (-1) o
section OR
variable {N : Nat} {sc : Nat × (Nat → Int32)} {x : XS} {m : OS} {tl : MH} {n : Nat} {bs : Int32} {tx : Nat → Int32}
def OF (M : MD) (d : Nat) (N : Nat) (sc : Nat × (Nat → Int32)) (x : XS) (m : OS) (tl : MH) (bs : Int32) (n : Nat) (o : Int32) (F : Nat → PR) : Prop := ∀ a, a ≤ n → OZ (envO m) o (F a) fun u a' f' op' => MC M d 0 0 [.ref 39] (hO N sc x m tl bs n (nI a) (-1) o) (some (.int u)) (hO N sc x m tl bs n a' f' op')
theorem c_O_byteT (hn : n ≤ 120) : BY N sc x m tl (-1) n (txR n (zt_tape m)) := by
  intro a f op ha
  refine mc_of k1_O_byteAt k2_O_byteAt (Nat.le_of_ble_eq_true rfl) ?_
  repeat (refine mw_step rfl ?_)
  by_cases h : a < n
  · refine mw_brT rfl (n_lt h (by omega)) ?_
    repeat (refine mw_step rfl ?_)
    refine mw_brT rfl (m1_neg) ?_
    repeat (refine mw_step rfl ?_)
    refine mw_ild rfl (rfl) (by omega) (by decide) ?_
    repeat (refine mw_step rfl ?_)
    exact mw_r1 rfl trivial (Nat.le_refl _) (Nat.le_refl _) (by rw [txR, if_pos h]) rfl
  · refine mw_brF rfl (n_nlt (by omega) (by omega)) ?_
    repeat (refine mw_step rfl ?_)
    exact mw_r1 rfl trivial (Nat.le_refl _) (Nat.le_refl _) (by rw [txR, if_neg h]) rfl
theorem c_O_byteX (k : Nat) (hk : k < 6) (hn : n ≤ 120) : BY N sc x m tl (nI (120 * k)) n (txR n (fun j => zt_text m (120 * k + j))) := by
  intro a f op ha
  refine mc_of k1_O_byteAt k2_O_byteAt (Nat.le_of_ble_eq_true rfl) ?_
  repeat (refine mw_step rfl ?_)
  by_cases h : a < n
  · refine mw_brT rfl (n_lt h (by omega)) ?_
    repeat (refine mw_step rfl ?_)
    refine mw_brF rfl (nI_pos (by omega)) ?_
    repeat (refine mw_step rfl ?_)
    refine mw_ild rfl (nI_add (120 * k) a) (by omega) (by decide) ?_
    repeat (refine mw_step rfl ?_)
    exact mw_r1 rfl trivial (Nat.le_refl _) (Nat.le_refl _) (by rw [txR, if_pos h]) rfl
  · refine mw_brF rfl (n_nlt (by omega) (by omega)) ?_
    repeat (refine mw_step rfl ?_)
    exact mw_r1 rfl trivial (Nat.le_refl _) (Nat.le_refl _) (by rw [txR, if_neg h]) rfl
theorem c_O_takes1 (hB : BY N sc x m tl bs n tx) (a : Nat) (ha : a ≤ 200) (op c : Int32) (h : tx a = c) : MC M_O_takes 1 0 0 [.ref 39, .int c] (hO N sc x m tl bs n (nI a) (-1) op) (some (.int 1)) (hO N sc x m tl bs n (nI (a + 1)) (-1) op) := by
  refine mc_of k1_O_takes k2_O_takes (Nat.le_of_ble_eq_true rfl) ?_
  repeat (refine mw_step rfl ?_)
  refine mw_brT rfl (m1_neg) ?_
  repeat (refine mw_step rfl ?_)
  refine mw_call (hB a (-1) op ha) rfl rfl (Nat.le_of_ble_eq_true rfl) (Nat.le_refl _) (Nat.le_refl _) ?_
  repeat (refine mw_step rfl ?_)
  refine mw_brT rfl (h) ?_
  repeat (refine mw_step rfl ?_)
  exact mw_r1 rfl rfl (Nat.le_refl _) (Nat.le_refl _) rfl (by show heapN _ _ _ _ _ = _; rw [← nI_1 a]; rfl)
theorem c_O_takes0 (hB : BY N sc x m tl bs n tx) (a : Nat) (ha : a ≤ 200) (op c : Int32) (h : ¬ tx a = c) : MC M_O_takes 1 0 0 [.ref 39, .int c] (hO N sc x m tl bs n (nI a) (-1) op) (some (.int 0)) (hO N sc x m tl bs n (nI a) (-1) op) := by
  refine mc_of k1_O_takes k2_O_takes (Nat.le_of_ble_eq_true rfl) ?_
  repeat (refine mw_step rfl ?_)
  refine mw_brT rfl (m1_neg) ?_
  repeat (refine mw_step rfl ?_)
  refine mw_call (hB a (-1) op ha) rfl rfl (Nat.le_of_ble_eq_true rfl) (Nat.le_refl _) (Nat.le_refl _) ?_
  repeat (refine mw_step rfl ?_)
  refine mw_brF rfl (h) ?_
  repeat (refine mw_step rfl ?_)
  exact mw_r1 rfl rfl (Nat.le_refl _) (Nat.le_refl _) (rfl) rfl
theorem c_O_takesF (a op c : Int32) (f : Nat) (hf : f ≤ 200) : MC M_O_takes 1 0 0 [.ref 39, .int c] (hO N sc x m tl bs n a (nI f) op) (some (.int 0)) (hO N sc x m tl bs n a (nI f) op) := by
  refine mc_of k1_O_takes k2_O_takes (Nat.le_of_ble_eq_true rfl) ?_
  repeat (refine mw_step rfl ?_)
  refine mw_brF rfl (nI_pos (by omega)) ?_
  repeat (refine mw_step rfl ?_)
  exact mw_r1 rfl rfl (Nat.le_refl _) (Nat.le_refl _) (rfl) rfl
theorem c_O_wrong (a op : Int32) : MC M_O_wrong 0 0 0 [.ref 39] (hO N sc x m tl bs n a (-1) op) (some (.int 0)) (hO N sc x m tl bs n a a op) := by
  refine mc_of k1_O_wrong k2_O_wrong (Nat.le_of_ble_eq_true rfl) ?_
  repeat (refine mw_step rfl ?_)
  refine mw_brT rfl (m1_neg) ?_
  repeat (refine mw_step rfl ?_)
  exact mw_r1 rfl trivial (Nat.le_refl _) (Nat.le_refl _) rfl rfl
theorem c_O_wrongF (a op : Int32) (f : Nat) (hf : f ≤ 200) : MC M_O_wrong 0 0 0 [.ref 39] (hO N sc x m tl bs n a (nI f) op) (some (.int 0)) (hO N sc x m tl bs n a (nI f) op) := by
  refine mc_of k1_O_wrong k2_O_wrong (Nat.le_of_ble_eq_true rfl) ?_
  repeat (refine mw_step rfl ?_)
  refine mw_brF rfl (nI_pos (by omega)) ?_
  repeat (refine mw_step rfl ?_)
  exact mw_r1 rfl trivial (Nat.le_refl _) (Nat.le_refl _) rfl rfl
def k_name (c : Int32) : Int32 := if c = 121 then 0 else if c = 107 then 1 else if c = 119 then 2 else if c = 112 then 3 else -1
theorem c_O_nameOf (h : MH) (c : Int32) : MC M_O_nameOf 0 0 0 [.int c] h (some (.int (k_name c))) h := by
  refine mc_of k1_O_nameOf k2_O_nameOf (Nat.le_of_ble_eq_true rfl) ?_
  repeat (refine mw_step rfl ?_)
  unfold k_name
  by_cases h1 : c = 121
  · subst h1
    refine mw_sw (t := 44) rfl ?_
    repeat (refine mw_step rfl ?_)
    exact mw_r1 rfl trivial (Nat.le_refl _) (Nat.le_refl _) rfl rfl
  by_cases h2 : c = 107
  · subst h2
    refine mw_sw (t := 46) rfl ?_
    repeat (refine mw_step rfl ?_)
    exact mw_r1 rfl trivial (Nat.le_refl _) (Nat.le_refl _) rfl rfl
  by_cases h3 : c = 119
  · subst h3
    refine mw_sw (t := 48) rfl ?_
    repeat (refine mw_step rfl ?_)
    exact mw_r1 rfl trivial (Nat.le_refl _) (Nat.le_refl _) rfl rfl
  by_cases h4 : c = 112
  · subst h4
    refine mw_sw (t := 50) rfl ?_
    repeat (refine mw_step rfl ?_)
    exact mw_r1 rfl trivial (Nat.le_refl _) (Nat.le_refl _) rfl rfl
  rw [if_neg h1, if_neg h2, if_neg h3, if_neg h4]
  refine mw_sw (t := 52) ?_ ?_
  · show some ((1 : Int) + Op.lookupswitch.offset [(107, 45), (112, 49), (119, 47), (121, 43)] 51 c.toInt) = some 52
    rw [Op.lookupswitch.offset_cons, if_neg (n_ti (k := 107) 107 rfl h2), Op.lookupswitch.offset_cons, if_neg (n_ti (k := 112) 112 rfl h4), Op.lookupswitch.offset_cons, if_neg (n_ti (k := 119) 119 rfl h3), Op.lookupswitch.offset_cons, if_neg (n_ti (k := 121) 121 rfl h1)]
    rfl
  · repeat (refine mw_step rfl ?_)
    exact mw_r1 rfl trivial (Nat.le_refl _) (Nat.le_refl _) rfl rfl
theorem n_dig2 {v j : Nat} (hj : 48 ≤ j) : 10 * nI v + nI j - 48 = nI (v * 10 + (j - 48)) := by
  rw [show (10 : Int32) = nI 10 from rfl, pk_mul, nI_add, show (48 : Int32) = nI 48 from rfl, pk_sub (by omega), show 10 * v + j - 48 = v * 10 + (j - 48) by omega]
theorem l_O_dig (hX : TXok n tx) (hB : BY N sc x m tl bs n tx) (d : Nat) (hd : 1 ≤ d) (o : Int32) {v : Option Value} {hT : MH} : ∀ r t a u, t + r = 4 → 1 ≤ t → a ≤ n → (∀ t', 1 ≤ t' → t' ≤ 4 → MW M_O_one d 0 0 v hT 0 0 229 [(0, .ref 39), (3, .int (nI (p_dig tx r a u).2)), (4, .int (nI t'))] [] (hO N sc x m tl bs n (nI (p_dig tx r a u).1) (-1) o)) → MW M_O_one d 0 0 v hT 0 0 176 [(0, .ref 39), (3, .int (nI u)), (4, .int (nI t))] [] (hO N sc x m tl bs n (nI a) (-1) o) := by
  intro r
  have h120 := hX.1
  induction r with
  | zero =>
    intro t a u ht h1 ha K
    rw [show t = 4 by omega]
    repeat (refine mw_step rfl ?_)
    refine mw_brF rfl (by decide) ?_
    exact K 4 (by omega) (by omega)
  | succ r ih =>
    intro t a u ht h1 ha K
    rw [p_dig] at K
    repeat (refine mw_step rfl ?_)
    refine mw_brT rfl (n_lt (b := 4) (by omega) (by omega)) ?_
    repeat (refine mw_step rfl ?_)
    refine mw_call (hB a (-1) o (by omega)) rfl rfl (by omega) (Nat.le_refl _) (Nat.le_refl _) ?_
    repeat (refine mw_step rfl ?_)
    by_cases hd : p_isD (tx a)
    · rw [if_pos hd] at K
      refine mw_brF rfl (m_nlt hd.1) ?_
      repeat (refine mw_step rfl ?_)
      refine mw_call (hB a (-1) o (by omega)) rfl rfl (by omega) (Nat.le_refl _) (Nat.le_refl _) ?_
      repeat (refine mw_step rfl ?_)
      refine mw_brF rfl (m_nlt hd.2) ?_
      repeat (refine mw_step rfl ?_)
      refine mw_call (hB a (-1) o (by omega)) rfl rfl (by omega) (Nat.le_refl _) (Nat.le_refl _) ?_
      obtain ⟨j, j1, j2, je⟩ := p_isD_at hd
      rw [je, nI_clamp (by omega)] at K
      rw [je]
      have hlt := tx_lt hX (p_isD_0 hd)
      repeat (refine mw_to 176 rfl rfl ?_)
      rw [nI_1, nI_1, n_dig2 j1]
      refine mw_pick [0, 3, 4] rfl ?_
      exact ih (t + 1) (a + 1) _ (by omega) (by omega) hlt K
    · rw [if_neg hd] at K
      refine mw_br rfl (fun h3 => ?_) (fun h3 => ?_)
      · refine mw_pick [0, 3, 4] rfl ?_
        exact K t h1 (by omega)
      · repeat (refine mw_step rfl ?_)
        refine mw_call (hB a (-1) o (by omega)) rfl rfl (by omega) (Nat.le_refl _) (Nat.le_refl _) ?_
        repeat (refine mw_step rfl ?_)
        refine mw_brT rfl (m_nle (fun z => hd ⟨Int32.not_lt.mp h3, z⟩)) ?_
        refine mw_pick [0, 3, 4] rfl ?_
        exact K t h1 (by omega)
theorem c_O_base (hX : TXok n tx) (hB : BY N sc x m tl bs n tx) (o d : Nat) (ho : o ≤ 6) (hd : 2 ≤ d) (a : Nat) (ha : a ≤ n) (hb : o = 6 ∨ (¬ tx a = 40 ∧ ¬ tx a = 33 ∧ ¬ tx a = 45)) : OZ (envO m) (nI o) (p_base tx a) fun u a' f' op' => MC M_O_one d 0 0 [.ref 39] (hO N sc x m tl bs n (nI a) (-1) (nI o)) (some (.int u)) (hO N sc x m tl bs n a' f' op') := by
  have h120 := hX.1
  by_cases hop : tx a = 33 ∨ tx a = 45 ∨ tx a = 40
  · have ho6 : o = 6 := by
      rcases hb with h | ⟨h1, h2, h3⟩
      · exact h
      · rcases hop with h | h | h <;> contradiction
    subst ho6
    have hD : ¬ p_isD (tx a) := by rcases hop with h | h | h <;> rw [h] <;> decide
    have hN : ¬ p_isN (tx a) := by rcases hop with h | h | h <;> rw [h] <;> decide
    unfold p_base
    rw [if_neg hD, if_neg hN]
    refine ⟨0, nI 6, ?_⟩
    have K : MW M_O_one d 0 0 (some (.int 0)) (hO N sc x m tl bs n (nI a) (nI a) (nI 6)) 0 0 32 [(0, .ref 39)] [] (hO N sc x m tl bs n (nI a) (-1) (nI 6)) := by
      repeat (refine mw_step rfl ?_)
      refine mw_brT rfl (rfl) ?_
      repeat (refine mw_step rfl ?_)
      refine mw_call (c_O_wrong _ _) rfl rfl (by omega) (Nat.le_refl _) (Nat.le_refl _) ?_
      exact mw_r1 rfl trivial (Nat.le_refl _) (Nat.le_refl _) rfl rfl
    refine mc_of k1_O_one k2_O_one (Nat.le_of_ble_eq_true rfl) ?_
    repeat (refine mw_step rfl ?_)
    refine mw_brT rfl (m1_neg) ?_
    repeat (refine mw_step rfl ?_)
    refine mw_call (hB a (-1) (nI 6) (by omega)) rfl rfl (by omega) (Nat.le_refl _) (Nat.le_refl _) ?_
    repeat (refine mw_step rfl ?_)
    refine mw_br rfl (fun h1 => ?_) (fun h1 => ?_)
    · refine mw_pick [0] rfl ?_
      exact K
    · repeat (refine mw_step rfl ?_)
      refine mw_br rfl (fun h2 => ?_) (fun h2 => ?_)
      · refine mw_pick [0] rfl ?_
        exact K
      · repeat (refine mw_step rfl ?_)
        refine mw_brT rfl (by rcases hop with h | h | h <;> first | contradiction | exact h) ?_
        refine mw_pick [0] rfl ?_
        exact K
  · have K : ∀ {v : Option Value} {hT : MH}, MW M_O_one d 0 0 v hT 0 0 150 [(0, .ref 39), (2, .int (k_name (tx a)))] [] (hO N sc x m tl bs n (nI a) (-1) (nI o)) → MC M_O_one d 0 0 [.ref 39] (hO N sc x m tl bs n (nI a) (-1) (nI o)) v hT := by
      intro v hT K
      refine mc_of k1_O_one k2_O_one (Nat.le_of_ble_eq_true rfl) ?_
      repeat (refine mw_step rfl ?_)
      refine mw_brT rfl (m1_neg) ?_
      repeat (refine mw_step rfl ?_)
      refine mw_call (hB a (-1) (nI o) (by omega)) rfl rfl (by omega) (Nat.le_refl _) (Nat.le_refl _) ?_
      repeat (refine mw_step rfl ?_)
      refine mw_brF rfl (fun z => hop (Or.inl z)) ?_
      repeat (refine mw_step rfl ?_)
      refine mw_brF rfl (fun z => hop (Or.inr (Or.inl z))) ?_
      repeat (refine mw_step rfl ?_)
      refine mw_brF rfl (fun z => hop (Or.inr (Or.inr z))) ?_
      repeat (refine mw_step rfl ?_)
      refine mw_call (c_O_nameOf _ _) rfl rfl (by omega) (Nat.le_refl _) (Nat.le_refl _) ?_
      repeat (refine mw_to 150 rfl rfl ?_)
      refine mw_pick [0, 2] rfl ?_
      exact K
    unfold p_base
    by_cases hD : p_isD (tx a)
    · rw [if_pos hD]
      have hN : k_name (tx a) = -1 := by
        have h0 : ∀ c : Int32, 57 < c → ¬ tx a = c := fun c hc e => m_nlt hD.2 (by rw [e]; exact hc)
        unfold k_name
        rw [if_neg (h0 121 (by decide)), if_neg (h0 107 (by decide)), if_neg (h0 119 (by decide)), if_neg (h0 112 (by decide))]
      have hlt := tx_lt hX (p_isD_0 hD)
      obtain ⟨j, j1, j2, je⟩ := p_isD_at hD
      have e4 : p_dig tx 4 a 0 = p_dig tx 3 (a + 1) (0 * 10 + (j - 48)) := by rw [p_dig, if_pos hD, je, nI_clamp (by omega)]
      refine K ?_
      rw [hN]
      repeat (refine mw_step rfl ?_)
      refine mw_brT rfl (m1_neg) ?_
      repeat (refine mw_to 176 rfl rfl ?_)
      repeat (refine mw_step rfl ?_)
      refine mw_brT rfl (by decide) ?_
      repeat (refine mw_step rfl ?_)
      refine mw_call (hB a (-1) (nI o) (by omega)) rfl rfl (by omega) (Nat.le_refl _) (Nat.le_refl _) ?_
      repeat (refine mw_step rfl ?_)
      refine mw_brF rfl (m_nlt hD.1) ?_
      repeat (refine mw_step rfl ?_)
      refine mw_call (hB a (-1) (nI o) (by omega)) rfl rfl (by omega) (Nat.le_refl _) (Nat.le_refl _) ?_
      repeat (refine mw_step rfl ?_)
      refine mw_brF rfl (m_nlt hD.2) ?_
      repeat (refine mw_step rfl ?_)
      refine mw_call (hB a (-1) (nI o) (by omega)) rfl rfl (by omega) (Nat.le_refl _) (Nat.le_refl _) ?_
      rw [je]
      repeat (refine mw_to 176 rfl rfl ?_)
      rw [nI_1, show (10 : Int32) * 0 + nI j - 48 = nI (0 * 10 + (j - 48)) from n_dig2 (v := 0) j1]
      refine mw_pick [0, 3, 4] rfl ?_
      refine l_O_dig hX hB d (by omega) (nI o) 3 1 (a + 1) _ (by omega) (by omega) hlt (fun t' h1 h2 => ?_)
      rw [← e4]
      repeat (refine mw_step rfl ?_)
      refine mw_brF rfl (nI_ne0 h1 (by omega)) ?_
      repeat (refine mw_step rfl ?_)
      exact mw_r1 rfl trivial (Nat.le_refl _) (Nat.le_refl _) rfl rfl
    · rw [if_neg hD]
      by_cases hN : p_isN (tx a)
      · rw [if_pos hN]
        show MC _ _ _ _ _ _ (some (.int (envO m (tx a).toNatClampNeg))) (hO N sc x m tl bs n (nI (a + 1)) (-1) (nI o))
        refine K ?_
        rw [← nI_1 a]
        rcases hN with e | e | e | e
        · rw [e]
          repeat (refine mw_step rfl ?_)
          refine mw_brF rfl (by decide) ?_
          repeat (refine mw_step rfl ?_)
          refine mw_ild rfl (show (0 : Int32) = nI 0 from rfl) (by omega) (by decide) ?_
          exact mw_r1 rfl trivial (Nat.le_refl _) (Nat.le_refl _) rfl rfl
        · rw [e]
          repeat (refine mw_step rfl ?_)
          refine mw_brF rfl (by decide) ?_
          repeat (refine mw_step rfl ?_)
          refine mw_ild rfl (show (1 : Int32) = nI 1 from rfl) (by omega) (by decide) ?_
          exact mw_r1 rfl trivial (Nat.le_refl _) (Nat.le_refl _) rfl rfl
        · rw [e]
          repeat (refine mw_step rfl ?_)
          refine mw_brF rfl (by decide) ?_
          repeat (refine mw_step rfl ?_)
          refine mw_ild rfl (show (2 : Int32) = nI 2 from rfl) (by omega) (by decide) ?_
          exact mw_r1 rfl trivial (Nat.le_refl _) (Nat.le_refl _) rfl rfl
        · rw [e]
          repeat (refine mw_step rfl ?_)
          refine mw_brF rfl (by decide) ?_
          repeat (refine mw_step rfl ?_)
          refine mw_ild rfl (show (3 : Int32) = nI 3 from rfl) (by omega) (by decide) ?_
          exact mw_r1 rfl trivial (Nat.le_refl _) (Nat.le_refl _) rfl rfl
      · rw [if_neg hN]
        refine ⟨0, nI o, K ?_⟩
        have e : k_name (tx a) = -1 := by
          unfold k_name
          rw [if_neg (fun z => hN (Or.inl z)), if_neg (fun z => hN (Or.inr (Or.inl z))), if_neg (fun z => hN (Or.inr (Or.inr (Or.inl z)))), if_neg (fun z => hN (Or.inr (Or.inr (Or.inr z))))]
        rw [e]
        have K2 : MW M_O_one d 0 0 (some (.int 0)) (hO N sc x m tl bs n (nI a) (nI a) (nI o)) 0 0 229 [(0, .ref 39), (4, .int 0)] [] (hO N sc x m tl bs n (nI a) (-1) (nI o)) := by
          repeat (refine mw_step rfl ?_)
          refine mw_brT rfl (rfl) ?_
          repeat (refine mw_step rfl ?_)
          refine mw_call (c_O_wrong _ _) rfl rfl (by omega) (Nat.le_refl _) (Nat.le_refl _) ?_
          repeat (refine mw_step rfl ?_)
          exact mw_r1 rfl trivial (Nat.le_refl _) (Nat.le_refl _) rfl rfl
        repeat (refine mw_step rfl ?_)
        refine mw_brT rfl (m1_neg) ?_
        repeat (refine mw_to 176 rfl rfl ?_)
        repeat (refine mw_step rfl ?_)
        refine mw_brT rfl (by decide) ?_
        repeat (refine mw_step rfl ?_)
        refine mw_call (hB a (-1) (nI o) (by omega)) rfl rfl (by omega) (Nat.le_refl _) (Nat.le_refl _) ?_
        repeat (refine mw_step rfl ?_)
        refine mw_br rfl (fun h3 => ?_) (fun h3 => ?_)
        · refine mw_pick [0, 4] rfl ?_
          exact K2
        · repeat (refine mw_step rfl ?_)
          refine mw_call (hB a (-1) (nI o) (by omega)) rfl rfl (by omega) (Nat.le_refl _) (Nat.le_refl _) ?_
          repeat (refine mw_step rfl ?_)
          refine mw_brT rfl (m_nle (fun z => hD ⟨Int32.not_lt.mp h3, z⟩)) ?_
          refine mw_pick [0, 4] rfl ?_
          exact K2
end OR
