/-! shift of the reference; taken -/
def sp_shO (s1 s2 l1 l2 i j k : Int32) : Int32 := if s1 < 0 then -11 else if s2 < 0 then -11 else if s1 < 50 then -12 else if s1 = s2 then (if k < 0 then -13 else if i < 0 then -13 else if j < 0 then -13 else if l1 - k < i then -13 else if l2 - k < j then -13 else 1) else -12
def sp_car (f g : Nat → Int64) (p t : Nat) : Nat → Int64 := fun q => if q < t then f (p + q) else g q
theorem sp_car_0 (f g : Nat → Int64) (p : Nat) : sp_car f g p 0 = g := by
  funext q
  unfold sp_car
  rw [if_neg (by omega)]
theorem sp_car_up (f g : Nat → Int64) (p t : Nat) : vp_updL (sp_car f g p t) t (f (p + t)) = sp_car f g p (t + 1) := by
  funext q
  unfold vp_updL sp_car
  by_cases h : q = t
  · subst h
    rw [if_pos rfl, if_pos (by omega)]
  · rw [if_neg h]
    by_cases h2 : q < t
    · rw [if_pos h2, if_pos (by omega)]
    · rw [if_neg h2, if_neg (by omega)]
theorem va_cpy_0 (f g : Nat → Int64) (p q : Nat) : va_cpy f g p q 0 = g := by
  funext k
  unfold va_cpy
  rw [if_neg (by omega)]
theorem va_cpy_up (f g : Nat → Int64) (p q t : Nat) : vp_updL (va_cpy f g p q t) (q + t) (f (p + t)) = va_cpy f g p q (t + 1) := by
  funext k
  unfold vp_updL va_cpy
  by_cases h : k = q + t
  · subst h
    rw [if_pos rfl, if_pos (by omega), show q + t - q = t by omega]
  · rw [if_neg h]
    by_cases h2 : q ≤ k ∧ k < q + t
    · rw [if_pos h2, if_pos (by omega)]
    · rw [if_neg h2, if_neg (by omega)]
section SF
variable {N : Nat} {sc : Nat × (Nat → Int32)} {x : XS} {m : OS} {tl : MH} {n : Nat}
theorem n_60m2 (a i t : Nat) : nI 60 * nI a + nI i + nI t = nI (60 * a + i + t) := by rw [pk_mul, nI_add, nI_add]
theorem l_O_shift1 {v : Option Value} {hT : MH} (a b i j k : Nat) (ha : a ≤ 5) (hi : i + k ≤ 60) (g : Nat → Int64) (K : MW M_O_shift 2 0 0 v hT 0 0 147 [(0, .ref 39), (1, .int (nI a)), (2, .int (nI i)), (3, .int (nI b)), (4, .int (nI j)), (5, .int (nI k))] [] (heapN N sc x (zs_carried_s m (sp_car (zs_items m) g (60 * a + i) k)) tl)) : ∀ r t, t + r = k → MW M_O_shift 2 0 0 v hT 0 0 113 [(0, .ref 39), (1, .int (nI a)), (2, .int (nI i)), (3, .int (nI b)), (4, .int (nI j)), (5, .int (nI k)), (6, .int (nI t))] [] (heapN N sc x (zs_carried_s m (sp_car (zs_items m) g (60 * a + i) t)) tl) := by
  intro r
  induction r with
  | zero =>
    intro t ht
    rw [show t = k by omega]
    repeat (refine mw_step rfl ?_)
    refine mw_brF rfl (n_nlt (by omega) (by omega)) ?_
    refine mw_pick [0, 1, 2, 3, 4, 5] rfl ?_
    exact K
  | succ r ih =>
    intro t ht
    repeat (refine mw_step rfl ?_)
    refine mw_brT rfl (n_lt (by omega) (by omega)) ?_
    repeat (refine mw_step rfl ?_)
    refine mw_lld rfl (n_60m2 a i t) (by omega) (by decide) ?_
    refine mw_lst rfl (rfl) (by omega) (by decide) ?_
    repeat (refine mw_to 113 rfl rfl ?_)
    rw [nI_1]
    refine mw_pick [0, 1, 2, 3, 4, 5, 6] rfl ?_
    have := ih (t + 1) (by omega)
    rw [← sp_car_up] at this
    exact this
theorem l_O_shift2 {v : Option Value} {hT : MH} (a b i j k : Nat) (hb : b ≤ 5) (hj : j + k ≤ 60) (f : Nat → Int64) (p : Nat) (hc : ∀ q, q < k → zs_carried m q = f (p + q)) (K : MW M_O_shift 2 0 0 v hT 0 0 185 [(0, .ref 39), (5, .int (nI k))] [] (heapN N sc x (zs_items_s m (va_cpy f f p (60 * b + j) k)) tl)) : ∀ r t, t + r = k → MW M_O_shift 2 0 0 v hT 0 0 150 [(0, .ref 39), (1, .int (nI a)), (2, .int (nI i)), (3, .int (nI b)), (4, .int (nI j)), (5, .int (nI k)), (6, .int (nI t))] [] (heapN N sc x (zs_items_s m (va_cpy f f p (60 * b + j) t)) tl) := by
  intro r
  induction r with
  | zero =>
    intro t ht
    rw [show t = k by omega]
    repeat (refine mw_step rfl ?_)
    refine mw_brF rfl (n_nlt (by omega) (by omega)) ?_
    refine mw_pick [0, 5] rfl ?_
    exact K
  | succ r ih =>
    intro t ht
    repeat (refine mw_step rfl ?_)
    refine mw_brT rfl (n_lt (by omega) (by omega)) ?_
    repeat (refine mw_step rfl ?_)
    refine mw_lld rfl (rfl) (by omega) (by decide) ?_
    rw [show zs_carried (zs_items_s m (va_cpy f f p (60 * b + j) t)) t = f (p + t) from hc t (by omega)]
    refine mw_lst rfl (n_60m2 b j t) (by omega) (by decide) ?_
    repeat (refine mw_to 150 rfl rfl ?_)
    rw [nI_1]
    refine mw_pick [0, 1, 2, 3, 4, 5, 6] rfl ?_
    have := ih (t + 1) (by omega)
    rw [← va_cpy_up] at this
    exact this
theorem c_O_shift_bad (d e i j k : Int32) (h : ¬ ((0 ≤ d ∧ d ≤ nI 5) ∧ (0 ≤ e ∧ e ≤ nI 5))) : MC M_O_shift 2 0 0 [.ref 39, .int d, .int i, .int e, .int j, .int k] (heapN N sc x m tl) (some (.int (-1))) (heapN N sc x m tl) := by
  refine mc_of k1_O_shift k2_O_shift (Nat.le_of_ble_eq_true rfl) ?_
  repeat (refine mw_step rfl ?_)
  refine mw_call (c_O_isShelf _ _) rfl rfl (Nat.le_of_ble_eq_true rfl) (Nat.le_refl _) (Nat.le_refl _) ?_
  refine mw_br rfl (fun h1 => ?_) (fun h1 => ?_)
  · repeat (refine mw_step rfl ?_)
    exact mw_r1 rfl trivial (Nat.le_refl _) (Nat.le_refl _) rfl rfl
  · repeat (refine mw_step rfl ?_)
    refine mw_call (c_O_isShelf _ _) rfl rfl (Nat.le_of_ble_eq_true rfl) (Nat.le_refl _) (Nat.le_refl _) ?_
    refine mw_br rfl (fun h2 => ?_) (fun h2 => ?_)
    · repeat (refine mw_step rfl ?_)
      exact mw_r1 rfl trivial (Nat.le_refl _) (Nat.le_refl _) rfl rfl
    · exact absurd ⟨bI_of h1, bI_of h2⟩ h
theorem c_O_shift_ref (a b : Nat) (ha : a ≤ 5) (hb : b ≤ 5) (i j k : Int32) (h : ¬ sp_shO (zs_shelf m a) (zs_shelf m b) (zs_many m a) (zs_many m b) i j k = 1) : MC M_O_shift 2 0 0 [.ref 39, .int (nI a), .int i, .int (nI b), .int j, .int k] (heapN N sc x m tl) (some (.int (sp_shO (zs_shelf m a) (zs_shelf m b) (zs_many m a) (zs_many m b) i j k))) (heapN N sc x m tl) := by
  refine mc_of k1_O_shift k2_O_shift (Nat.le_of_ble_eq_true rfl) ?_
  repeat (refine mw_step rfl ?_)
  refine mw_call (c_O_isShelf _ _) rfl rfl (Nat.le_of_ble_eq_true rfl) (Nat.le_refl _) (Nat.le_refl _) ?_
  refine mw_brF rfl (bI_ne (rng_in ha (by decide))) ?_
  repeat (refine mw_step rfl ?_)
  refine mw_call (c_O_isShelf _ _) rfl rfl (Nat.le_of_ble_eq_true rfl) (Nat.le_refl _) (Nat.le_refl _) ?_
  refine mw_brF rfl (bI_ne (rng_in hb (by decide))) ?_
  repeat (refine mw_step rfl ?_)
  refine mw_ild rfl (rfl) (by omega) (by decide) ?_
  unfold sp_shO at h ⊢
  refine mw_br rfl (fun h1 => ?_) (fun h1 => ?_)
  · rw [if_pos h1]
    repeat (refine mw_step rfl ?_)
    exact mw_r1 rfl trivial (Nat.le_refl _) (Nat.le_refl _) rfl rfl
  · rw [if_neg h1] at h ⊢
    repeat (refine mw_step rfl ?_)
    refine mw_ild rfl (rfl) (by omega) (by decide) ?_
    refine mw_br rfl (fun h2 => ?_) (fun h2 => ?_)
    · rw [if_pos h2]
      repeat (refine mw_step rfl ?_)
      exact mw_r1 rfl trivial (Nat.le_refl _) (Nat.le_refl _) rfl rfl
    · rw [if_neg h2] at h ⊢
      repeat (refine mw_step rfl ?_)
      refine mw_ild rfl (rfl) (by omega) (by decide) ?_
      repeat (refine mw_step rfl ?_)
      refine mw_br rfl (fun h3 => ?_) (fun h3 => ?_)
      · rw [if_pos h3]
        repeat (refine mw_step rfl ?_)
        exact mw_r1 rfl trivial (Nat.le_refl _) (Nat.le_refl _) rfl rfl
      · rw [if_neg h3] at h ⊢
        repeat (refine mw_step rfl ?_)
        refine mw_ild rfl (rfl) (by omega) (by decide) ?_
        repeat (refine mw_step rfl ?_)
        refine mw_ild rfl (rfl) (by omega) (by decide) ?_
        refine mw_br rfl (fun h4 => ?_) (fun h4 => ?_)
        · rw [if_pos h4] at h ⊢
          repeat (refine mw_step rfl ?_)
          refine mw_br rfl (fun h5 => ?_) (fun h5 => ?_)
          · rw [if_pos h5]
            repeat (refine mw_step rfl ?_)
            exact mw_r1 rfl trivial (Nat.le_refl _) (Nat.le_refl _) rfl rfl
          · rw [if_neg h5] at h ⊢
            repeat (refine mw_step rfl ?_)
            refine mw_br rfl (fun h6 => ?_) (fun h6 => ?_)
            · rw [if_pos h6]
              repeat (refine mw_step rfl ?_)
              exact mw_r1 rfl trivial (Nat.le_refl _) (Nat.le_refl _) rfl rfl
            · rw [if_neg h6] at h ⊢
              repeat (refine mw_step rfl ?_)
              refine mw_br rfl (fun h7 => ?_) (fun h7 => ?_)
              · rw [if_pos h7]
                repeat (refine mw_step rfl ?_)
                exact mw_r1 rfl trivial (Nat.le_refl _) (Nat.le_refl _) rfl rfl
              · rw [if_neg h7] at h ⊢
                repeat (refine mw_step rfl ?_)
                refine mw_ild rfl (rfl) (by omega) (by decide) ?_
                repeat (refine mw_step rfl ?_)
                refine mw_br rfl (fun h8 => ?_) (fun h8 => ?_)
                · rw [if_pos h8]
                  repeat (refine mw_step rfl ?_)
                  exact mw_r1 rfl trivial (Nat.le_refl _) (Nat.le_refl _) rfl rfl
                · rw [if_neg h8] at h ⊢
                  repeat (refine mw_step rfl ?_)
                  refine mw_ild rfl (rfl) (by omega) (by decide) ?_
                  repeat (refine mw_step rfl ?_)
                  refine mw_br rfl (fun h9 => ?_) (fun h9 => ?_)
                  · rw [if_pos h9]
                    repeat (refine mw_step rfl ?_)
                    exact mw_r1 rfl trivial (Nat.le_refl _) (Nat.le_refl _) rfl rfl
                  · rw [if_neg h9] at h
                    exact absurd rfl h
        · rw [if_neg h4]
          repeat (refine mw_step rfl ?_)
          exact mw_r1 rfl trivial (Nat.le_refl _) (Nat.le_refl _) rfl rfl
theorem c_O_shift (a b i j k : Nat) (ha : a ≤ 5) (hb : b ≤ 5) (hi : i + k ≤ 60) (hj : j + k ≤ 60) (h : sp_shO (zs_shelf m a) (zs_shelf m b) (zs_many m a) (zs_many m b) (nI i) (nI j) (nI k) = 1) : MC M_O_shift 2 0 0 [.ref 39, .int (nI a), .int (nI i), .int (nI b), .int (nI j), .int (nI k)] (heapN N sc x m tl) (some (.int (nI k))) (heapN N sc x (zs_s m (zs_shelf m, zs_many m, va_cpy (zs_items m) (zs_items m) (60 * a + i) (60 * b + j) k, sp_car (zs_items m) (zs_carried m) (60 * a + i) k)) tl) := by
  refine mc_of k1_O_shift k2_O_shift (Nat.le_of_ble_eq_true rfl) ?_
  repeat (refine mw_step rfl ?_)
  refine mw_call (c_O_isShelf _ _) rfl rfl (Nat.le_of_ble_eq_true rfl) (Nat.le_refl _) (Nat.le_refl _) ?_
  refine mw_brF rfl (bI_ne (rng_in ha (by decide))) ?_
  repeat (refine mw_step rfl ?_)
  refine mw_call (c_O_isShelf _ _) rfl rfl (Nat.le_of_ble_eq_true rfl) (Nat.le_refl _) (Nat.le_refl _) ?_
  refine mw_brF rfl (bI_ne (rng_in hb (by decide))) ?_
  repeat (refine mw_step rfl ?_)
  refine mw_ild rfl (rfl) (by omega) (by decide) ?_
  unfold sp_shO at h
  refine mw_br rfl (fun h1 => ?_) (fun h1 => ?_)
  · rw [if_pos h1] at h
    exact absurd h (by decide)
  · rw [if_neg h1] at h
    repeat (refine mw_step rfl ?_)
    refine mw_ild rfl (rfl) (by omega) (by decide) ?_
    refine mw_br rfl (fun h2 => ?_) (fun h2 => ?_)
    · rw [if_pos h2] at h
      exact absurd h (by decide)
    · rw [if_neg h2] at h
      repeat (refine mw_step rfl ?_)
      refine mw_ild rfl (rfl) (by omega) (by decide) ?_
      repeat (refine mw_step rfl ?_)
      refine mw_br rfl (fun h3 => ?_) (fun h3 => ?_)
      · rw [if_pos h3] at h
        exact absurd h (by decide)
      · rw [if_neg h3] at h
        repeat (refine mw_step rfl ?_)
        refine mw_ild rfl (rfl) (by omega) (by decide) ?_
        repeat (refine mw_step rfl ?_)
        refine mw_ild rfl (rfl) (by omega) (by decide) ?_
        refine mw_br rfl (fun h4 => ?_) (fun h4 => ?_)
        · rw [if_pos h4] at h
          repeat (refine mw_step rfl ?_)
          refine mw_brF rfl (nI_pos (by omega)) ?_
          repeat (refine mw_step rfl ?_)
          refine mw_brF rfl (nI_pos (by omega)) ?_
          repeat (refine mw_step rfl ?_)
          refine mw_brF rfl (nI_pos (by omega)) ?_
          rw [if_neg (nI_pos (by omega)), if_neg (nI_pos (by omega)), if_neg (nI_pos (by omega))] at h
          repeat (refine mw_step rfl ?_)
          refine mw_ild rfl (rfl) (by omega) (by decide) ?_
          repeat (refine mw_step rfl ?_)
          refine mw_br rfl (fun h8 => ?_) (fun h8 => ?_)
          · rw [if_pos h8] at h
            exact absurd h (by decide)
          · rw [if_neg h8] at h
            repeat (refine mw_step rfl ?_)
            refine mw_ild rfl (rfl) (by omega) (by decide) ?_
            repeat (refine mw_step rfl ?_)
            refine mw_br rfl (fun h9 => ?_) (fun h9 => ?_)
            · rw [if_pos h9] at h
              exact absurd h (by decide)
            · repeat (refine mw_to 113 rfl rfl ?_)
              refine mw_pick [0, 1, 2, 3, 4, 5, 6] rfl ?_
              have L := l_O_shift1 (N := N) (sc := sc) (x := x) (m := m) (tl := tl) (v := some (.int (nI k))) (hT := heapN N sc x (zs_s m (zs_shelf m, zs_many m, va_cpy (zs_items m) (zs_items m) (60 * a + i) (60 * b + j) k, sp_car (zs_items m) (zs_carried m) (60 * a + i) k)) tl) a b i j k ha hi (zs_carried m) ?_ k 0 (by omega)
              · rw [sp_car_0] at L
                exact L
              · repeat (refine mw_to 150 rfl rfl ?_)
                refine mw_pick [0, 1, 2, 3, 4, 5, 6] rfl ?_
                have L2 := l_O_shift2 (N := N) (sc := sc) (x := x) (m := zs_carried_s m (sp_car (zs_items m) (zs_carried m) (60 * a + i) k)) (tl := tl) (v := some (.int (nI k))) (hT := heapN N sc x (zs_s m (zs_shelf m, zs_many m, va_cpy (zs_items m) (zs_items m) (60 * a + i) (60 * b + j) k, sp_car (zs_items m) (zs_carried m) (60 * a + i) k)) tl) a b i j k hb hj (zs_items m) (60 * a + i) (fun q hq => if_pos hq) ?_ k 0 (by omega)
                · rw [va_cpy_0] at L2
                  exact L2
                · repeat (refine mw_step rfl ?_)
                  exact mw_r1 rfl trivial (Nat.le_refl _) (Nat.le_refl _) rfl rfl
        · rw [if_neg h4] at h
          exact absurd h (by decide)
end SF
