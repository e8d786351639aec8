/-! sums over sets of marks -/
theorem sN_mulr (c : Nat) (f : Nat → Nat) : ∀ n, sN (fun k => f k * c) n = sN f n * c
  | 0 => by rw [sN, sN, Nat.zero_mul]
  | n + 1 => by rw [sN, sN, sN_mulr c f n, Nat.add_mul]
theorem sN_comm (f : Nat → Nat → Nat) (n : Nat) : ∀ m, sN (fun w => sN (fun y => f w y) n) m = sN (fun y => sN (fun w => f w y) m) n
  | 0 => (sN_0 (fun _ _ => rfl)).symm
  | m + 1 => by
    rw [sN, sN_comm f n m, ← sN_add]
    rfl
def q_fc (fr s : Bool) (a : Nat) : Nat := if fr = true then (if s = true then a else 100 - a) else (if s = true then 0 else 1)
def prd (h : Nat → Bool → Nat) (b w : Nat) : Nat → Nat
  | 0 => b
  | t + 1 => prd h b w t * h t (w.testBit t)
def prH (h : Nat → Bool → Nat) (b : Nat) : Nat → Nat
  | 0 => b
  | t + 1 => prH h b t * (h t false + h t true)
theorem prd_congr {h : Nat → Bool → Nat} {b w w' : Nat} : ∀ {t : Nat}, (∀ j, j < t → w.testBit j = w'.testBit j) → prd h b w t = prd h b w' t
  | 0, _ => rfl
  | t + 1, e => by rw [prd, prd, prd_congr (fun j hj => e j (by omega)), e t (by omega)]
theorem prd_lo {h : Nat → Bool → Nat} {b w t : Nat} (hw : w < 2 ^ t) : prd h b w (t + 1) = prd h b w t * h t false := by
  rw [prd, Nat.testBit_lt_two_pow hw]
theorem prd_hi {h : Nat → Bool → Nat} {b w t : Nat} (hw : w < 2 ^ t) : prd h b (2 ^ t + w) (t + 1) = prd h b w t * h t true := by
  rw [prd, Nat.testBit_two_pow_add_eq, Nat.testBit_lt_two_pow hw, prd_congr (w' := w) (fun j hj => Nat.testBit_two_pow_add_gt hj w)]
  rfl
theorem sum_prd (h : Nat → Bool → Nat) (b : Nat) : ∀ t, sN (fun w => prd h b w t) (2 ^ t) = prH h b t
  | 0 => by show 0 + b = b; omega
  | t + 1 => by
    rw [Nat.pow_succ, Nat.mul_two, sN_split, sN_congr (g := fun w => prd h b w t * h t false) (fun w hw => prd_lo hw), sN_congr (f := fun y => prd h b (2 ^ t + y) (t + 1)) (g := fun w => prd h b w t * h t true) (fun w hw => prd_hi hw), sN_mulr, sN_mulr, sum_prd h b t, prH, Nat.mul_add]
theorem prH_b (h : Nat → Bool → Nat) (b : Nat) : ∀ t, prH h b t = b * prH h 1 t
  | 0 => (Nat.mul_one b).symm
  | t + 1 => by rw [prH, prH, prH_b h b t, Nat.mul_assoc]
abbrev hq (free : Nat) (nbk : Nat → Nat) : Nat → Bool → Nat := fun j s => q_fc (free.testBit j) s (nbk j)
def hI (free set v : Nat) (nbk : Nat → Nat) : Nat → Bool → Nat := fun j s => if set.testBit j = true ∧ ¬ s = v.testBit j then 0 else q_fc (free.testBit j) s (nbk j)
theorem prd_ind {free set v : Nat} {nbk : Nat → Nat} {b w : Nat} : ∀ t, ((∀ j, j < t → set.testBit j = true → w.testBit j = v.testBit j) → prd (hI free set v nbk) b w t = prd (hq free nbk) b w t) ∧ (¬ (∀ j, j < t → set.testBit j = true → w.testBit j = v.testBit j) → prd (hI free set v nbk) b w t = 0)
  | 0 => ⟨fun _ => rfl, fun z => absurd (fun j hj => absurd hj (by omega)) z⟩
  | t + 1 => by
    obtain ⟨i1, i2⟩ := prd_ind (free := free) (set := set) (v := v) (nbk := nbk) (b := b) (w := w) t
    constructor
    · intro z
      rw [prd, prd, i1 (fun j hj => z j (by omega))]
      show _ * (if set.testBit t = true ∧ ¬ w.testBit t = v.testBit t then 0 else q_fc (free.testBit t) (w.testBit t) (nbk t)) = _
      rw [if_neg (fun y => y.2 (z t (by omega) y.1))]
    · intro z
      rw [prd]
      by_cases y : ∀ j, j < t → set.testBit j = true → w.testBit j = v.testBit j
      · show _ * (if set.testBit t = true ∧ ¬ w.testBit t = v.testBit t then 0 else q_fc (free.testBit t) (w.testBit t) (nbk t)) = 0
        by_cases q : set.testBit t = true ∧ ¬ w.testBit t = v.testBit t
        · rw [if_pos q, Nat.mul_zero]
        · refine absurd (fun j hj hs => ?_) z
          by_cases e : j = t
          · subst e
            by_cases r : w.testBit j = v.testBit j
            · exact r
            · exact absurd ⟨hs, r⟩ q
          · exact y j (by omega) hs
      · rw [i2 y, Nat.zero_mul]
theorem tb_ge {a i : Nat} (ha : a < 64) (hi : 6 ≤ i) : a.testBit i = false := Nat.testBit_lt_two_pow (Nat.lt_of_lt_of_le ha (Nat.pow_le_pow_right (n := 2) (by omega) (show 6 ≤ i from hi)))
theorem ind_iff {set v w : Nat} (hs : set < 64) (hv : v < 64) (hsub : v &&& set = v) : (∀ j, j < 6 → set.testBit j = true → w.testBit j = v.testBit j) ↔ w &&& set = v := by
  constructor
  · intro h
    apply Nat.eq_of_testBit_eq
    intro i
    rw [Nat.testBit_and]
    by_cases hi : i < 6
    · cases hz : set.testBit i with
      | true => rw [Bool.and_true, h i hi hz]
      | false => rw [Bool.and_false, ← hsub, Nat.testBit_and, hz, Bool.and_false]
    · rw [tb_ge hs (by omega), tb_ge hv (by omega), Bool.and_false]
  · intro h j hj hz
    rw [← h, Nat.testBit_and, hz, Bool.and_true]
/-- how many free marks aren't in the set -/
def cn (free set : Nat) : Nat → Nat
  | 0 => 0
  | t + 1 => cn free set t + (if free.testBit t = true ∧ ¬ set.testBit t = true then 1 else 0)
def wS (way : Nat → Nat) (set v : Nat) : Nat → Nat := fun j => if set.testBit j = true then (if v.testBit j = true then 1 else 2) else way j
theorem wS_0 (way : Nat → Nat) : wS way 0 0 = way := by
  funext j
  exact if_neg (by rw [Nat.zero_testBit]; decide)
theorem fac_eq {free set v : Nat} {nbk way : Nat → Nat} {t : Nat} (ha : nbk t ≤ 100) (hsf : set.testBit t = true → free.testBit t = true) (hw : free.testBit t = true → way t = 0) : w_fc (way t) (nbk t) * (hI free set v nbk t false + hI free set v nbk t true) = 100 ^ (if free.testBit t = true ∧ ¬ set.testBit t = true then 1 else 0) * w_fc (wS way set v t) (nbk t) := by
  show w_fc (way t) (nbk t) * ((if set.testBit t = true ∧ ¬ false = v.testBit t then 0 else q_fc (free.testBit t) false (nbk t)) + (if set.testBit t = true ∧ ¬ true = v.testBit t then 0 else q_fc (free.testBit t) true (nbk t))) = _ * w_fc (if set.testBit t = true then (if v.testBit t = true then 1 else 2) else way t) (nbk t)
  cases hs : set.testBit t with
  | true =>
    have hf := hsf hs
    rw [hw hf, hf]
    cases hv : v.testBit t <;> simp [w_fc, q_fc]
  | false =>
    cases hf : free.testBit t with
    | true =>
      rw [hw hf]
      simp [w_fc, q_fc] <;> omega
    | false => simp [w_fc, q_fc]
theorem prH_wt {free set v : Nat} {nbk way : Nat → Nat} {bb : Nat} (ha : ∀ j, nbk j ≤ 100) : ∀ t, (∀ j, j < t → set.testBit j = true → free.testBit j = true) → (∀ j, j < t → free.testBit j = true → way j = 0) → w_pr nbk way bb t * prH (hI free set v nbk) 1 t = 100 ^ cn free set t * w_pr nbk (wS way set v) bb t
  | 0, _, _ => by
    show bb * 1 = 1 * bb
    omega
  | t + 1, h1, h2 => by
    have ih := prH_wt (free := free) (set := set) (v := v) (way := way) (bb := bb) ha t (fun j hj => h1 j (by omega)) (fun j hj => h2 j (by omega))
    have e := fac_eq (free := free) (set := set) (v := v) (way := way) (ha t) (h1 t (by omega)) (h2 t (by omega))
    show w_pr nbk way bb t * w_fc (way t) (nbk t) * (prH (hI free set v nbk) 1 t * (hI free set v nbk t false + hI free set v nbk t true)) = 100 ^ (cn free set t + (if free.testBit t = true ∧ ¬ set.testBit t = true then 1 else 0)) * (w_pr nbk (wS way set v) bb t * w_fc (wS way set v t) (nbk t))
    rw [Nat.pow_add, Nat.mul_mul_mul_comm, ih, e, Nat.mul_mul_mul_comm]
section MG
variable {B : Nat → Nat} {nb : Nat → Nat → Nat} {way : Nat → Nat} {free set v : Nat}
/-- what is asked of sets: the set is free, the free marks weren't looked for -/
def SOK (way : Nat → Nat) (free set : Nat) : Prop := free < 64 ∧ set < 64 ∧ (∀ j, j < 6 → set.testBit j = true → free.testBit j = true) ∧ (∀ j, j < 6 → free.testBit j = true → way j = 0)
def pk6 (B : Nat → Nat) (nb : Nat → Nat → Nat) (way : Nat → Nat) (free kt w : Nat) : Nat := prd (hq free (fun j => nb j kt)) (wt B nb way kt) w 6
/-- the class's ways -/
def wyK (B : Nat → Nat) (nb : Nat → Nat → Nat) (way : Nat → Nat) (free k w : Nat) : Nat := sN (fun y => pk6 B nb way free (30 * k + y) w) 30
theorem mg_kt (hn : ∀ j kt, nb j kt ≤ 100) (hS : SOK way free set) (hv : v < 64) (hsub : v &&& set = v) (kt : Nat) : sN (fun w => if w &&& set = v then pk6 B nb way free kt w else 0) 64 = 100 ^ cn free set 6 * wt B nb (wS way set v) kt := by
  have e : ∀ w, w < 64 → (if w &&& set = v then pk6 B nb way free kt w else 0) = prd (hI free set v (fun j => nb j kt)) (wt B nb way kt) w 6 := by
    intro w _
    obtain ⟨i1, i2⟩ := prd_ind (free := free) (set := set) (v := v) (nbk := fun j => nb j kt) (b := wt B nb way kt) (w := w) 6
    by_cases h : w &&& set = v
    · rw [if_pos h, i1 ((ind_iff hS.2.1 hv hsub).mpr h)]
      rfl
    · rw [if_neg h, i2 (fun z => h ((ind_iff hS.2.1 hv hsub).mp z))]
  rw [sN_congr e, show (64 : Nat) = 2 ^ 6 from rfl, sum_prd, prH_b]
  exact prH_wt (fun j => hn j kt) 6 hS.2.2.1 hS.2.2.2
theorem mg_k (hn : ∀ j kt, nb j kt ≤ 100) (hS : SOK way free set) (hv : v < 64) (hsub : v &&& set = v) (k : Nat) : sN (fun w => if w &&& set = v then wyK B nb way free k w else 0) 64 = 100 ^ cn free set 6 * ks B nb (wS way set v) k := by
  have e : ∀ w, w < 64 → (if w &&& set = v then wyK B nb way free k w else 0) = sN (fun y => if w &&& set = v then pk6 B nb way free (30 * k + y) w else 0) 30 := by
    intro w _
    by_cases h : w &&& set = v
    · rw [if_pos h]
      exact sN_congr (fun y _ => (if_pos h).symm)
    · rw [if_neg h]
      exact (sN_0 (fun y _ => if_neg h)).symm
  rw [sN_congr e, sN_comm (fun w y => if w &&& set = v then pk6 B nb way free (30 * k + y) w else 0), ks, ← sN_mul]
  exact sN_congr (fun y _ => mg_kt hn hS hv hsub _)
theorem mg_no (hsub : ¬ v &&& set = v) (k : Nat) : sN (fun w => if w &&& set = v then wyK B nb way free k w else 0) 64 = 0 := by
  refine sN_0 (fun w _ => if_neg (fun e => hsub ?_))
  rw [← e, Nat.and_assoc, Nat.and_self]
theorem SOK_0 (hS : SOK way free set) : SOK way free 0 := ⟨hS.1, by omega, fun j _ h => absurd h (by rw [Nat.zero_testBit]; decide), hS.2.2.2⟩
/-- all of them -/
def alC (B : Nat → Nat) (nb : Nat → Nat → Nat) (way : Nat → Nat) (free : Nat) : Nat := sN (fun k => sN (fun y => sN (fun w => pk6 B nb way free (30 * k + y) w) 64) 30) 6
theorem alC_eq (hn : ∀ j kt, nb j kt ≤ 100) (hS : SOK way free set) : alC B nb way free = 100 ^ cn free 0 6 * al B nb way := by
  have e : ∀ kt, sN (fun w => pk6 B nb way free kt w) 64 = 100 ^ cn free 0 6 * wt B nb way kt := by
    intro kt
    have := mg_kt (B := B) hn (SOK_0 hS) (v := 0) (by omega) rfl kt
    rw [wS_0] at this
    rw [← this]
    exact sN_congr (fun w _ => (if_pos (Nat.and_zero w)).symm)
  unfold alC al
  rw [← sN_mul]
  refine sN_congr (fun k _ => ?_)
  rw [ks, ← sN_mul]
  exact sN_congr (fun y _ => e _)
theorem alC_mg : alC B nb way free = sN (fun k => sN (fun w => wyK B nb way free k w) 64) 6 := by
  unfold alC
  refine sN_congr (fun k _ => ?_)
  rw [sN_comm (fun y w => pk6 B nb way free (30 * k + y) w)]
  rfl
theorem cn_add {t : Nat} : (∀ j, j < t → set.testBit j = true → free.testBit j = true) → cn free 0 t = cn free set t + cn set 0 t := by
  induction t with
  | zero => intro _; rfl
  | succ t ih =>
    intro h
    have e := ih (fun j hj => h j (by omega))
    rw [cn, cn, cn, e]
    by_cases hs : set.testBit t = true
    · have hf := h t (by omega) hs
      rw [if_pos ⟨hf, by rw [Nat.zero_testBit]; decide⟩, if_neg (fun y => y.2 hs), if_pos ⟨hs, by rw [Nat.zero_testBit]; decide⟩]
      omega
    · rw [if_neg (c := set.testBit t = true ∧ _) (fun y => hs y.1)]
      by_cases hf : free.testBit t = true
      · rw [if_pos ⟨hf, by rw [Nat.zero_testBit]; decide⟩, if_pos ⟨hf, hs⟩]
        omega
      · rw [if_neg (fun y => hf y.1), if_neg (fun y => hf y.1)]
        omega
/-- bounds -/
theorem wt_cn_le (hn : ∀ j kt, nb j kt ≤ 100) (kt : Nat) : ∀ t, (∀ j, j < t → free.testBit j = true → way j = 0) → 100 ^ cn free 0 t * w_pr (fun j => nb j kt) way (B (kt / 30)) t ≤ B (kt / 30) * 100 ^ t
  | 0, _ => by show 1 * _ ≤ _ * 1; exact Nat.le_of_eq (Nat.mul_comm _ _)
  | t + 1, h => by
    have ih := wt_cn_le hn kt t (fun j hj => h j (by omega))
    show 100 ^ (cn free 0 t + (if free.testBit t = true ∧ ¬ (0 : Nat).testBit t = true then 1 else 0)) * (w_pr (fun j => nb j kt) way (B (kt / 30)) t * w_fc (way t) (nb t kt)) ≤ _
    rw [Nat.pow_add, Nat.mul_mul_mul_comm, Nat.pow_succ, ← Nat.mul_assoc (B (kt / 30))]
    refine Nat.mul_le_mul ih ?_
    by_cases hf : free.testBit t = true
    · rw [if_pos ⟨hf, by rw [Nat.zero_testBit]; decide⟩, h t (by omega) hf]
      exact Nat.le_refl _
    · rw [if_neg (fun y => hf y.1), Nat.pow_zero, Nat.one_mul]
      exact w_fc_le (hn t kt)
theorem alC_le (hW : WOK B nb) (hS : SOK way free set) : alC B nb way free ≤ 1620000000000000 := by
  rw [alC_eq hW.2 hS, ← al_end, ← sN_mul]
  refine sN_le (n := 180) (c := 9000000000000) (fun kt _ => ?_)
  have := wt_cn_le (B := B) hW.2 kt 6 hS.2.2.2
  have h9 := hW.1 (kt / 30)
  show 100 ^ cn free 0 6 * w_pr (fun j => nb j kt) way (B (kt / 30)) 6 ≤ _
  omega
theorem wyK_le (hW : WOK B nb) (hS : SOK way free set) (k w : Nat) (hk : k < 6) (hw : w < 64) : wyK B nb way free k w ≤ 1620000000000000 := by
  have h1 := alC_le hW hS
  rw [alC_mg] at h1
  have h2 : sN (fun w => wyK B nb way free k w) 64 ≤ sN (fun k => sN (fun w => wyK B nb way free k w) 64) 6 := sN_mem (f := fun k => sN (fun w => wyK B nb way free k w) 64) hk
  have h3 : wyK B nb way free k w ≤ sN (fun w => wyK B nb way free k w) 64 := sN_mem (f := fun w => wyK B nb way free k w) hw
  omega
end MG
/-- the greatest of six -/
def mx (f : Nat → Nat) : Nat → Nat
  | 0 => 0
  | t + 1 => max (mx f t) (f t)
theorem mx_am (f : Nat → Nat) : ∀ t, mx f (t + 1) = f (am f t)
  | 0 => by show max 0 (f 0) = f 0; omega
  | t + 1 => by
    rw [mx, mx_am f t, am]
    split <;> omega
theorem mx_congr {f g : Nat → Nat} : ∀ {t : Nat}, (∀ j, j < t → f j = g j) → mx f t = mx g t
  | 0, _ => rfl
  | t + 1, h => by rw [mx, mx, mx_congr (fun j hj => h j (by omega)), h t (by omega)]
theorem mx_mul (c : Nat) (f : Nat → Nat) : ∀ t, mx (fun k => c * f k) t = c * mx f t
  | 0 => rfl
  | t + 1 => by
    rw [mx, mx, mx_mul c f t]
    exact (Nat.mul_max_mul_left ..)
theorem mx_0 {f : Nat → Nat} : ∀ {t : Nat}, (∀ j, j < t → f j = 0) → mx f t = 0
  | 0, _ => rfl
  | t + 1, h => by rw [mx, mx_0 (fun j hj => h j (by omega)), h t (by omega)]; rfl
theorem mx_sN (f : Nat → Nat) : ∀ t, mx f t ≤ sN f t
  | 0 => Nat.le_refl _
  | t + 1 => by
    have := mx_sN f t
    rw [mx, sN]
    omega
/-- named: above the line -/
def nmS (B : Nat → Nat) (nb : Nat → Nat → Nat) (way : Nat → Nat) (set : Nat) : Nat := sN (fun v => if v &&& set = v then mx (ks B nb (wS way set v)) 6 else 0) 64
def sp_nm (B : Nat → Nat) (nb : Nat → Nat → Nat) (way : Nat → Nat) (set : Nat) : Nat := nmS B nb way set * 1000 / (al B nb way * 100 ^ cn set 0 6)
section NM
variable {B : Nat → Nat} {nb : Nat → Nat → Nat} {way : Nat → Nat} {free set : Nat}
/-- what the class sums up -/
def bsC (B : Nat → Nat) (nb : Nat → Nat → Nat) (way : Nat → Nat) (free set : Nat) : Nat := sN (fun v => mx (fun k => sN (fun w => if w &&& set = v then wyK B nb way free k w else 0) 64) 6) 64
theorem bsC_eq (hn : ∀ j kt, nb j kt ≤ 100) (hS : SOK way free set) : bsC B nb way free set = 100 ^ cn free set 6 * nmS B nb way set := by
  unfold bsC nmS
  rw [← sN_mul]
  refine sN_congr (fun v hv => ?_)
  by_cases h : v &&& set = v
  · rw [if_pos h, ← mx_mul]
    exact mx_congr (fun k _ => mg_k hn hS hv h k)
  · rw [if_neg h, Nat.mul_zero]
    exact mx_0 (fun k _ => mg_no h k)
theorem nm_eq (hn : ∀ j kt, nb j kt ≤ 100) (hS : SOK way free set) : bsC B nb way free set * 1000 / alC B nb way free = sp_nm B nb way set := by
  rw [bsC_eq hn hS, alC_eq hn hS, cn_add hS.2.2.1, Nat.pow_add, Nat.mul_assoc, Nat.mul_assoc, Nat.mul_div_mul_left _ _ (Nat.pow_pos (by omega)), sp_nm, Nat.mul_comm (100 ^ cn set 0 6)]
theorem SOK_s (hS : SOK way free set) : SOK way set set := ⟨hS.2.1, hS.2.1, fun _ _ h => h, fun j hj h => hS.2.2.2 j hj (hS.2.2.1 j hj h)⟩
theorem nmS_le (hn : ∀ j kt, nb j kt ≤ 100) (hS : SOK way free set) : nmS B nb way set ≤ al B nb way * 100 ^ cn set 0 6 := by
  have hS' := SOK_s hS
  have e := alC_eq (B := B) hn hS'
  rw [alC_mg] at e
  have e2 : sN (fun k => sN (fun w => wyK B nb way set k w) 64) 6 = sN (fun w => sN (fun k => wyK B nb way set k w) 6) 64 := sN_comm (fun k w => wyK B nb way set k w) 64 6
  rw [e2] at e
  rw [Nat.mul_comm, ← e]
  have hb := bsC_eq (B := B) hn hS'
  have hc : cn set set 6 = 0 := by
    have : ∀ t, cn set set t = 0 := by
      intro t
      induction t with
      | zero => rfl
      | succ t ih => rw [cn, ih, if_neg (fun y => y.2 y.1)]
    exact this 6
  rw [hc, Nat.pow_zero, Nat.one_mul] at hb
  rw [← hb]
  unfold bsC
  have q : ∀ n, n ≤ 64 → sN (fun v => mx (fun k => sN (fun w => if w &&& set = v then wyK B nb way set k w else 0) 64) 6) n ≤ sN (fun v => sN (fun k => sN (fun w => if w &&& set = v then wyK B nb way set k w else 0) 64) 6) n := by
    intro n
    induction n with
    | zero => intro _; exact Nat.le_refl _
    | succ n ih =>
      intro h
      exact Nat.add_le_add (ih (by omega)) (mx_sN _ 6)
  refine Nat.le_trans (q 64 (Nat.le_refl _)) ?_
  rw [sN_comm (fun v k => sN (fun w => if w &&& set = v then wyK B nb way set k w else 0) 64), sN_comm (fun w k => wyK B nb way set k w)]
  refine Nat.le_of_eq (sN_congr (fun k _ => ?_))
  rw [sN_comm (fun v w => if w &&& set = v then wyK B nb way set k w else 0)]
  refine sN_congr (fun w hw => ?_)
  have : ∀ j, (if w &&& set = j then wyK B nb way set k w else 0) = if j = w &&& set then (fun _ => wyK B nb way set k w) j else 0 := by
    intro j
    by_cases h : j = w &&& set
    · rw [if_pos h, if_pos h.symm]
    · rw [if_neg h, if_neg (fun z => h z.symm)]
  rw [sN_congr (fun j _ => this j), sN_one, if_pos (Nat.lt_of_le_of_lt Nat.and_le_left hw)]
theorem sp_nm_le (hn : ∀ j kt, nb j kt ≤ 100) (hS : SOK way free set) : sp_nm B nb way set ≤ 1000 := by
  have h := nmS_le (B := B) hn hS
  unfold sp_nm
  exact Nat.div_le_of_le_mul (by omega)
theorem bsC_le (hW : WOK B nb) (hS : SOK way free set) : bsC B nb way free set ≤ 1620000000000000 := by
  have h1 := nmS_le (B := B) hW.2 hS
  have h2 := alC_le hW hS
  rw [alC_eq hW.2 hS, cn_add hS.2.2.1, Nat.pow_add] at h2
  rw [bsC_eq hW.2 hS]
  have := Nat.mul_le_mul_left (100 ^ cn free set 6) h1
  rw [Nat.mul_comm (al B nb way), ← Nat.mul_assoc] at this
  omega
end NM
