/-! the greatest, the first, the last -/
def am (f : Nat → Nat) : Nat → Nat
  | 0 => 0
  | n + 1 => if f (am f n) < f (n + 1) then n + 1 else am f n
theorem am_le (f : Nat → Nat) : ∀ n, am f n ≤ n
  | 0 => Nat.le_refl _
  | n + 1 => by
    have := am_le f n
    rw [am]
    split <;> omega
theorem am_max (f : Nat → Nat) : ∀ n j, j ≤ n → f j ≤ f (am f n)
  | 0, j, h => by rw [show j = 0 by omega]; exact Nat.le_refl _
  | n + 1, j, h => by
    rw [am]
    by_cases e : j = n + 1
    · subst e
      split
      · exact Nat.le_refl _
      · omega
    · have := am_max f n j (by omega)
      split <;> omega
theorem am_congr {f g : Nat → Nat} : ∀ {n : Nat}, (∀ j, j ≤ n → f j = g j) → am f n = am g n
  | 0, _ => rfl
  | n + 1, h => by
    have e := am_congr (n := n) (fun j hj => h j (by omega))
    have := am_le g n
    rw [am, am, e, h (am g n) (by omega), h (n + 1) (by omega)]
/-- the class's way: above 0 alone -/
def gB (f : Nat → Nat) : Nat → Int32 × Nat
  | 0 => (-2, 0)
  | t + 1 => if (gB f t).2 < f t then (nI t, f t) else gB f t
theorem gB_s (f : Nat → Nat) (t : Nat) : gB f (t + 1) = if (gB f t).2 < f t then (nI t, f t) else gB f t := rfl
theorem am_s (f : Nat → Nat) (n : Nat) : am f (n + 1) = if f (am f n) < f (n + 1) then n + 1 else am f n := rfl
theorem gB_am (f : Nat → Nat) : ∀ t, gB f (t + 1) = if f (am f t) = 0 then (-2, 0) else (nI (am f t), f (am f t))
  | 0 => by
    show (if 0 < f 0 then (nI 0, f 0) else (-2, 0)) = if f 0 = 0 then (-2, 0) else (nI 0, f 0)
    by_cases h : f 0 = 0
    · rw [if_pos h, if_neg (by omega)]
    · rw [if_neg h, if_pos (by omega)]
  | t + 1 => by
    rw [gB, gB_am f t, am]
    by_cases h : f (am f t) = 0
    · rw [if_pos h]
      by_cases h2 : f (am f t) < f (t + 1)
      · rw [if_pos h2, if_pos (show (0 : Nat) < f (t + 1) by omega), if_neg (by omega)]
      · rw [if_neg h2, if_neg (show ¬ (0 : Nat) < f (t + 1) by omega), if_pos h]
    · rw [if_neg h]
      by_cases h2 : f (am f t) < f (t + 1)
      · rw [if_pos h2, if_pos h2, if_neg (by omega)]
      · rw [if_neg h2, if_neg h2, if_neg h]
theorem gB_le (f : Nat → Nat) {c : Nat} : ∀ t, (∀ j, j < t → f j ≤ c) → (gB f t).2 ≤ c
  | 0, _ => Nat.zero_le _
  | t + 1, h => by
    rw [gB]
    split
    · exact h t (by omega)
    · exact gB_le f t (fun j hj => h j (by omega))
theorem gB_lit (f : Nat → Nat) : ∀ t, t < 2 ^ 31 → ∃ i : Int32, (gB f t).1 = i := fun t _ => ⟨_, rfl⟩
/-- all is 0, or the greatest isn't -/
theorem am_0 {B : Nat → Nat} {nb : Nat → Nat → Nat} {way : Nat → Nat} : ks B nb way (am (ks B nb way) 5) = 0 ↔ al B nb way = 0 := by
  constructor
  · intro h
    exact sN_0 (fun k hk => by
      have := am_max (ks B nb way) 5 k (by omega)
      omega)
  · intro h
    have := am_le (ks B nb way) 5
    exact sN_z h _ (by omega)
theorem am_k0 {B : Nat → Nat} {nb : Nat → Nat → Nat} {way : Nat → Nat} (k : Nat) : wt B nb way (30 * k + am (fun y => wt B nb way (30 * k + y)) 29) = 0 ↔ ks B nb way k = 0 := by
  constructor
  · intro h
    exact sN_0 (fun y hy => by
      have : wt B nb way (30 * k + y) ≤ wt B nb way (30 * k + am (fun y => wt B nb way (30 * k + y)) 29) := am_max (fun y => wt B nb way (30 * k + y)) 29 y (by omega)
      omega)
  · intro h
    have := am_le (fun y => wt B nb way (30 * k + y)) 29
    exact sN_z (f := fun y => wt B nb way (30 * k + y)) h _ (by omega)
/-- first and last above 0 -/
def f1 (f : Nat → Nat) : Nat → Nat → Int32
  | 0, _ => -2
  | r + 1, t => if 0 < f t then nI t else f1 f r (t + 1)
def fr (f : Nat → Nat) : Nat → Int32
  | 0 => -1
  | t + 1 => if 0 < f t then (if fr f t < 0 then nI t else fr f t) else fr f t
def l1 (f : Nat → Nat) : Nat → Int32
  | 0 => -2
  | t + 1 => if 0 < f t then nI t else l1 f t
def lr (f : Nat → Nat) : Nat → Int32
  | 0 => -1
  | t + 1 => if 0 < f t then nI t else lr f t
theorem l1_lr (f : Nat → Nat) : ∀ t, (∃ j, j < t ∧ 0 < f j) → l1 f t = lr f t
  | 0, ⟨j, hj, _⟩ => absurd hj (by omega)
  | t + 1, ⟨j, hj, h⟩ => by
    rw [l1, lr]
    by_cases h2 : 0 < f t
    · rw [if_pos h2, if_pos h2]
    · rw [if_neg h2, if_neg h2]
      refine l1_lr f t ⟨j, ?_, h⟩
      by_cases e : j = t
      · subst e
        exact absurd h h2
      · omega
theorem fr_0 (f : Nat → Nat) : ∀ t, (∀ j, j < t → f j = 0) → fr f t = -1
  | 0, _ => rfl
  | t + 1, h => by rw [fr, if_neg (by rw [h t (by omega)]; omega), fr_0 f t (fun j hj => h j (by omega))]
theorem fr_st (f : Nat → Nat) (t i : Nat) (hi : i < 2 ^ 31) (h : fr f t = nI i) : ∀ r, fr f (t + r) = nI i
  | 0 => h
  | r + 1 => by
    have e := fr_st f t i hi h r
    rw [← Nat.add_assoc, fr, e, if_neg (nI_pos hi)]
    split <;> rfl
theorem f1_fr (f : Nat → Nat) : ∀ r t, t + r < 2 ^ 31 → (∀ j, j < t → f j = 0) → (∃ j, t ≤ j ∧ j < t + r ∧ 0 < f j) → f1 f r t = fr f (t + r)
  | 0, t, _, _, ⟨j, h1, h2, _⟩ => absurd h2 (by omega)
  | r + 1, t, hb, h0, ⟨j, h1, h2, h3⟩ => by
    rw [f1]
    by_cases h : 0 < f t
    · rw [if_pos h]
      have e : fr f (t + 1) = nI t := by rw [fr, if_pos h, fr_0 f t h0, if_pos (by decide)]
      rw [show t + (r + 1) = t + 1 + r by omega, fr_st f (t + 1) t (by omega) e r]
    · rw [if_neg h, show t + (r + 1) = t + 1 + r by omega]
      refine f1_fr f r (t + 1) (by omega) (fun j hj => ?_) ⟨j, ?_, by omega, h3⟩
      · by_cases e : j = t
        · subst e; omega
        · exact h0 j (by omega)
      · by_cases e : j = t
        · subst e; exact absurd h3 h
        · omega
theorem f1_none (f : Nat → Nat) : ∀ r t, (∀ j, t ≤ j → j < t + r → f j = 0) → f1 f r t = -2
  | 0, _, _ => rfl
  | r + 1, t, h => by rw [f1, if_neg (by rw [h t (by omega) (by omega)]; omega), f1_none f r (t + 1) (fun j h1 h2 => h j (by omega) (by omega))]
theorem l1_none (f : Nat → Nat) : ∀ t, (∀ j, j < t → f j = 0) → l1 f t = -2
  | 0, _ => rfl
  | t + 1, h => by rw [l1, if_neg (by rw [h t (by omega)]; omega), l1_none f t (fun j hj => h j (by omega))]
theorem sN_pos {f : Nat → Nat} : ∀ {n : Nat}, ¬ sN f n = 0 → ∃ j, j < n ∧ 0 < f j
  | 0, h => absurd rfl h
  | n + 1, h => by
    by_cases e : f n = 0
    · rw [sN, e, Nat.add_zero] at h
      obtain ⟨j, hj, h2⟩ := sN_pos h
      exact ⟨j, by omega, h2⟩
    · exact ⟨n, by omega, by omega⟩
/-- the greatest common divisor -/
def ge (r : Nat) : Nat → Nat → Nat := match r with
  | 0 => fun a _ => a
  | r + 1 => fun a b => if b = 0 then a else ge r b (a % b)
theorem ge_0 : ∀ r a, ge r a 0 = a
  | 0, _ => rfl
  | _ + 1, _ => rfl
theorem gcd_step (a b : Nat) : Nat.gcd a b = Nat.gcd b (a % b) := by
  rw [Nat.gcd_comm a b, Nat.gcd_rec b a, Nat.gcd_comm]
theorem ge_gcd : ∀ n r a b, b < 2 ^ n → 2 * n + 1 ≤ r → ge r a b = Nat.gcd a b := by
  intro n
  induction n with
  | zero =>
    intro r a b hb hr
    rw [show b = 0 by omega, ge_0, Nat.gcd_zero_right]
  | succ n ih =>
    intro r a b hb hr
    obtain ⟨r, rfl⟩ : ∃ q, r = q + 2 := ⟨r - 2, by omega⟩
    show (if b = 0 then a else ge (r + 1) b (a % b)) = _
    by_cases h0 : b = 0
    · rw [if_pos h0, h0, Nat.gcd_zero_right]
    · rw [if_neg h0, gcd_step a b]
      show (if a % b = 0 then b else ge r (a % b) (b % (a % b))) = _
      by_cases h1 : a % b = 0
      · rw [if_pos h1, h1, Nat.gcd_zero_right]
      · rw [if_neg h1, gcd_step b (a % b)]
        have hlt : a % b < b := Nat.mod_lt _ (by omega)
        have h2 : b % (a % b) < a % b := Nat.mod_lt _ (by omega)
        have h3 : b % (a % b) + a % b ≤ b := by
          have hd := Nat.mod_add_div b (a % b)
          have : 1 ≤ b / (a % b) := Nat.div_pos (by omega) (by omega)
          have : a % b * 1 ≤ a % b * (b / (a % b)) := Nat.mul_le_mul_left _ this
          omega
        refine ih r _ _ ?_ (by omega)
        rw [Nat.pow_succ] at hb
        omega
section GC
variable {h : MH}
theorem l_C_gd (hT : MH) : ∀ r t a b, t + r = 200 → a < 2 ^ 63 → b < 2 ^ 63 → MW M_C_greatestDivisor 0 0 0 (some (.long (lN (ge r a b)))) h 0 0 9 [(4, .long (lN a)), (6, .long (lN b)), (8, .int (nI t))] [] h := by
  intro r
  induction r with
  | zero =>
    intro t a b ht ha hb
    rw [show t = 200 by omega]
    repeat (refine mw_step rfl ?_)
    refine mw_brF rfl (by decide) ?_
    repeat (refine mw_step rfl ?_)
    exact mw_r1 rfl trivial (Nat.le_refl _) (Nat.le_refl _) rfl rfl
  | succ r ih =>
    intro t a b ht ha hb
    repeat (refine mw_step rfl ?_)
    refine mw_brT rfl (n_lt (b := 200) (by omega) (by omega)) ?_
    repeat (refine mw_step rfl ?_)
    by_cases h0 : b = 0
    · refine mw_brT rfl (by rw [lg_eq0, h0]; rfl) ?_
      repeat (refine mw_step rfl ?_)
      exact mw_r1 rfl trivial (Nat.le_refl _) (Nat.le_refl _) (by rw [h0]; rfl) rfl
    · have L := ih (t + 1) b (a % b) (by omega) hb (Nat.lt_of_lt_of_le (Nat.mod_lt _ (by omega)) (by omega))
      refine mw_brF rfl (by rw [lg_eq0]; exact fun e => h0 ((pk_lEQ (b := 0) hb (by omega)).mp e)) ?_
      repeat (refine mw_step rfl ?_)
      refine mw_div rfl (fun e => h0 ((pk_lEQ (b := 0) hb (by omega)).mp e)) ?_
      rw [pk_lRem ha (by omega) hb]
      repeat (refine mw_to 9 rfl rfl ?_)
      rw [nI_1]
      refine mw_pick [4, 6, 8] rfl ?_
      rw [show ge (r + 1) a b = if b = 0 then a else ge r b (a % b) from rfl, if_neg h0]
      exact L
theorem c_C_gd (a b : Nat) (ha : a < 2 ^ 63) (hb : b < 2 ^ 63) : MC M_C_greatestDivisor 0 0 0 [.long (lN a), .long (lN b)] h (some (.long (lN (Nat.gcd a b)))) h := by
  rw [← ge_gcd 63 200 a b hb (by omega)]
  refine mc_of k1_C_greatestDivisor k2_C_greatestDivisor (Nat.le_of_ble_eq_true rfl) ?_
  repeat (refine mw_to 9 rfl rfl ?_)
  refine mw_pick [4, 6, 8] rfl ?_
  exact l_C_gd h 200 0 a b (by omega) ha hb
theorem l_O_common : ∀ c a b, b ≤ c → a < 2 ^ 63 → b < 2 ^ 63 → MW M_O_common 0 0 0 (some (.long (lN (Nat.gcd a b)))) h 0 0 6 [(4, .long (lN a)), (6, .long (lN b))] [] h := by
  intro c
  induction c with
  | zero =>
    intro a b hc ha hb
    have hc : b ≤ 0 := hc
    have e : b = 0 := by omega
    subst e
    repeat (refine mw_step rfl ?_)
    refine mw_brT rfl (by rw [lg_eq0]; rfl) ?_
    repeat (refine mw_step rfl ?_)
    exact mw_r1 rfl trivial (Nat.le_refl _) (Nat.le_refl _) (by rw [Nat.gcd_zero_right]) rfl
  | succ c ih =>
    intro a b hc ha hb
    by_cases h0 : b = 0
    · subst h0
      repeat (refine mw_step rfl ?_)
      refine mw_brT rfl (by rw [lg_eq0]; rfl) ?_
      repeat (refine mw_step rfl ?_)
      exact mw_r1 rfl trivial (Nat.le_refl _) (Nat.le_refl _) (by rw [Nat.gcd_zero_right]) rfl
    · have hlt : a % b < b := Nat.mod_lt _ (by omega)
      have L := ih b (a % b) (by omega) hb (by omega)
      rw [gcd_step a b]
      repeat (refine mw_step rfl ?_)
      refine mw_brF rfl (by rw [lg_eq0]; exact fun e => h0 ((pk_lEQ (b := 0) hb (by omega)).mp e)) ?_
      repeat (refine mw_step rfl ?_)
      refine mw_div rfl (fun e => h0 ((pk_lEQ (b := 0) hb (by omega)).mp e)) ?_
      rw [pk_lRem ha (by omega) hb]
      repeat (refine mw_to 6 rfl rfl ?_)
      refine mw_pick [4, 6] rfl ?_
      exact L
theorem c_O_common (a b : Nat) (ha : a < 2 ^ 63) (hb : b < 2 ^ 63) : MC M_O_common 0 0 0 [.long (lN a), .long (lN b)] h (some (.long (lN (Nat.gcd a b)))) h := by
  refine mc_of k1_O_common k2_O_common (Nat.le_of_ble_eq_true rfl) ?_
  repeat (refine mw_to 6 rfl rfl ?_)
  refine mw_pick [4, 6] rfl ?_
  exact l_O_common b a b (Nat.le_refl _) ha hb
theorem c_J_maxL (a b : Nat) (ha : a < 2 ^ 63) (hb : b < 2 ^ 63) : MC M_J_maxL 0 0 0 [.long (lN a), .long (lN b)] h (some (.long (lN (max a b)))) h := by
  refine mc_of k1_J_maxL k2_J_maxL (Nat.le_of_ble_eq_true rfl) ?_
  repeat (refine mw_step rfl ?_)
  by_cases h1 : a < b
  · refine mw_brT rfl (by rw [lg_lt0]; exact (pk_lLT ha hb).mpr h1) ?_
    repeat (refine mw_step rfl ?_)
    exact mw_r1 rfl trivial (Nat.le_refl _) (Nat.le_refl _) (by rw [Nat.max_eq_right (by omega)]) rfl
  · refine mw_brF rfl (by rw [lg_lt0]; exact fun z => h1 ((pk_lLT ha hb).mp z)) ?_
    repeat (refine mw_step rfl ?_)
    exact mw_r1 rfl trivial (Nat.le_refl _) (Nat.le_refl _) (by rw [Nat.max_eq_left (by omega)]) rfl
end GC
section GK
variable {sc : Nat × (Nat → Int32)} {x : XS} {m : OS} {N : Nat} {tl : MH} {f : Nat → Nat}
theorem l_S_gk (hs : SMS x f) (hf : ∀ k, k < 6 → f k < 2 ^ 62) : ∀ r t, t + r = 6 → MW M_S_greatestKind 0 0 0 (some (.int (gB f 6).1)) (heapN N sc x m tl) 0 0 8 [(0, .ref 18), (1, .int (gB f t).1), (2, .long (lN (gB f t).2)), (4, .int (nI t))] [] (heapN N sc x m tl) := by
  intro r
  induction r with
  | zero =>
    intro t ht
    rw [show t = 6 by omega]
    repeat (refine mw_step rfl ?_)
    refine mw_brF rfl (by decide) ?_
    repeat (refine mw_step rfl ?_)
    exact mw_r1 rfl trivial (Nat.le_refl _) (Nat.le_refl _) rfl rfl
  | succ r ih =>
    intro t ht
    have L := ih (t + 1) (by omega)
    have h1 := hf t (by omega)
    have h2 := gB_le f (c := 2 ^ 62) t (fun j hj => Nat.le_of_lt (hf j (by omega)))
    rw [gB_s f t] at L
    repeat (refine mw_step rfl ?_)
    refine mw_brT rfl (n_lt (b := 6) (by omega) (by omega)) ?_
    repeat (refine mw_step rfl ?_)
    refine mw_lld rfl (rfl) (by omega) (by decide) ?_
    rw [hs t (by omega)]
    repeat (refine mw_step rfl ?_)
    by_cases h : (gB f t).2 < f t
    · rw [if_pos h] at L
      refine mw_brT rfl (by rw [lg_gt0]; exact (pk_lLT (by omega) (by omega)).mpr h) ?_
      repeat (refine mw_step rfl ?_)
      refine mw_lld rfl (rfl) (by omega) (by decide) ?_
      rw [hs t (by omega)]
      repeat (refine mw_to 8 rfl rfl ?_)
      rw [nI_1]
      refine mw_pick [0, 1, 2, 4] rfl ?_
      exact L
    · rw [if_neg h] at L
      refine mw_brF rfl (by rw [lg_gt0]; exact fun z => h ((pk_lLT (by omega) (by omega)).mp z)) ?_
      repeat (refine mw_to 8 rfl rfl ?_)
      rw [nI_1]
      refine mw_pick [0, 1, 2, 4] rfl ?_
      exact L
theorem c_S_gk (hs : SMS x f) (hf : ∀ k, k < 6 → f k < 2 ^ 62) : MC M_S_greatestKind 0 0 0 [.ref 18] (heapN N sc x m tl) (some (.int (gB f 6).1)) (heapN N sc x m tl) := by
  refine mc_of k1_S_greatestKind k2_S_greatestKind (Nat.le_of_ble_eq_true rfl) ?_
  repeat (refine mw_to 8 rfl rfl ?_)
  refine mw_pick [0, 1, 2, 4] rfl ?_
  exact l_S_gk hs hf 6 0 (by omega)
theorem l_O_mostOf (hs : ∀ k, k < 6 → zw_kindSum m k = lN (f k)) (hf : ∀ k, k < 6 → f k < 2 ^ 62) : ∀ r t, t + r = 5 → MW M_O_mostOf 0 0 0 (some (.int (nI (am f 5)))) (heapN N sc x m tl) 0 0 4 [(0, .ref 39), (1, .int (nI (am f t))), (2, .int (nI (t + 1)))] [] (heapN N sc x m tl) := by
  intro r
  induction r with
  | zero =>
    intro t ht
    rw [show t = 5 by omega]
    repeat (refine mw_step rfl ?_)
    refine mw_brF rfl (by decide) ?_
    repeat (refine mw_step rfl ?_)
    exact mw_r1 rfl trivial (Nat.le_refl _) (Nat.le_refl _) rfl rfl
  | succ r ih =>
    intro t ht
    have L := ih (t + 1) (by omega)
    have hl := am_le f t
    have h1 := hf (t + 1) (by omega)
    have h2 := hf (am f t) (by omega)
    rw [am_s f t] at L
    repeat (refine mw_step rfl ?_)
    refine mw_brT rfl (n_lt (b := 6) (by omega) (by omega)) ?_
    repeat (refine mw_step rfl ?_)
    refine mw_lld rfl (rfl) (by omega) (by decide) ?_
    rw [hs (t + 1) (by omega)]
    repeat (refine mw_step rfl ?_)
    refine mw_lld rfl (rfl) (by omega) (by decide) ?_
    rw [hs (am f t) (by omega)]
    repeat (refine mw_step rfl ?_)
    by_cases h : f (am f t) < f (t + 1)
    · rw [if_pos h] at L
      refine mw_brT rfl (by rw [lg_gt0]; exact (pk_lLT (by omega) (by omega)).mpr h) ?_
      repeat (refine mw_to 4 rfl rfl ?_)
      rw [nI_1]
      refine mw_pick [0, 1, 2] rfl ?_
      exact L
    · rw [if_neg h] at L
      refine mw_brF rfl (by rw [lg_gt0]; exact fun z => h ((pk_lLT (by omega) (by omega)).mp z)) ?_
      repeat (refine mw_to 4 rfl rfl ?_)
      rw [nI_1]
      refine mw_pick [0, 1, 2] rfl ?_
      exact L
theorem c_O_mostOf (hs : ∀ k, k < 6 → zw_kindSum m k = lN (f k)) (hf : ∀ k, k < 6 → f k < 2 ^ 62) : MC M_O_mostOf 0 0 0 [.ref 39] (heapN N sc x m tl) (some (.int (nI (am f 5)))) (heapN N sc x m tl) := by
  refine mc_of k1_O_mostOf k2_O_mostOf (Nat.le_of_ble_eq_true rfl) ?_
  repeat (refine mw_to 4 rfl rfl ?_)
  refine mw_pick [0, 1, 2] rfl ?_
  exact l_O_mostOf hs hf 5 0 (by omega)
end GK
