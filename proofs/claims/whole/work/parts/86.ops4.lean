/-! calls on both sides: papers, shelves, counts -/
section O4A
variable {sc : Nat × (Nat → Int32)} {x x' : XS} {m m' : OS} {P P' : List PieceS} {T : Nat → Option Tx}
theorem h_none {f t hs : Nat → Int32} {y : Int32} : ∀ r k, (∀ i, k ≤ i → i < k + r → ¬ (f i ≤ y ∧ y ≤ t i)) → sp_house f t hs y r k = -2
  | 0, _, _ => rfl
  | r + 1, k, h => by
    rw [sp_house, if_neg (h k (by omega) (by omega))]
    exact h_none r (k + 1) (fun i h1 h2 => h i (by omega) (by omega))
theorem h_some {f t hs : Nat → Int32} {y : Int32} : ∀ r k, (∀ i, k ≤ i → i < k + r → 0 ≤ hs i) → (∃ i, k ≤ i ∧ i < k + r ∧ f i ≤ y ∧ y ≤ t i) → 0 ≤ sp_house f t hs y r k
  | 0, _, _, ⟨i, h1, h2, _⟩ => absurd h1 (by omega)
  | r + 1, k, h, ⟨i, h1, h2, h3⟩ => by
    rw [sp_house]
    by_cases e : f k ≤ y ∧ y ≤ t k
    · rw [if_pos e]
      exact h k (by omega) (by omega)
    · rw [if_neg e]
      refine h_some r (k + 1) (fun i h1 h2 => h i (by omega) (by omega)) ⟨i, ?_, by omega, h3⟩
      rcases Nat.lt_or_ge k i with z | z
      · exact z
      · rw [show i = k by omega] at h3
        exact absurd h3 e
theorem g_after {hs : Nat → Int32} : ∀ r y (a b c : Int32), (∀ t, y ≤ t → t < y + r → hs t = -2) → sp_gapsX hs r y a b c = b
  | 0, _, _, _, _, _ => rfl
  | r + 1, y, a, b, c, h => by
    rw [sp_gapsX, if_pos (h y (by omega) (by omega))]
    exact g_after r (y + 1) a b (c + 1) (fun t h1 h2 => h t (by omega) (by omega))
theorem g_before {hs : Nat → Int32} (r : Nat) (a b : Int32) : ∀ d y (c : Int32), (∀ t, y ≤ t → t < y + d → hs t = -2) → ∃ c', sp_gapsX hs (d + r) y a b c = sp_gapsX hs r (y + d) a b c'
  | 0, y, c, _ => ⟨c, by rw [Nat.zero_add, Nat.add_zero]⟩
  | d + 1, y, c, h => by
    obtain ⟨c', e⟩ := g_before r a b d (y + 1) (c + 1) (fun t h1 h2 => h t (by omega) (by omega))
    refine ⟨c', ?_⟩
    rw [show d + 1 + r = d + r + 1 by omega, sp_gapsX, if_pos (h y (by omega) (by omega)), e, show y + 1 + d = y + (d + 1) by omega]
theorem g_mid {hs : Nat → Int32} {ho : Int32 → Int32} (s : Nat) (hh : ∀ t, ho (nI t) = hs t) (hv : ∀ t, hs t = -2 ∨ 0 ≤ hs t) : ∀ r y k (b c : Int32), 1 ≤ k → k + r < 1000 → 0 ≤ hs (y + r) → (∀ t, y + r < t → t < y + r + 1 + s → hs t = -2) → sp_gapsX hs (r + 1 + s) y (nI k) b c = sp_gapsO ho (r + 1) (nI y) (b + c)
  | 0, y, k, b, c, hk, hk2, h1, h2 => by
    have hy : ¬ hs y = -2 := fun z => by rw [Nat.add_zero, z] at h1; exact absurd h1 (by decide)
    have hk0 : ¬ nI k = 0 := fun z => by
      have : k = 0 := (nI_eq (by omega) (by omega)).mp z
      omega
    have h1' : ¬ hs y < 0 := Int32.not_lt.mpr h1
    rw [show 0 + 1 + s = s + 1 by omega, sp_gapsX, if_neg hy, if_neg hk0, g_after s (y + 1) _ _ _ (fun t a b => h2 t (by omega) (by omega))]
    show b + c = b + c + (if ho (nI y) < 0 then 1 else 0)
    rw [hh, if_neg h1', Int32.add_zero]
  | r + 1, y, k, b, c, hk, hk2, h1, h2 => by
    have hk0 : ¬ nI k = 0 := fun z => by
      have : k = 0 := (nI_eq (by omega) (by omega)).mp z
      omega
    rw [show r + 1 + 1 + s = r + 1 + s + 1 by omega, sp_gapsX, sp_gapsO, hh]
    have h1' : 0 ≤ hs (y + 1 + r) := by rw [show y + 1 + r = y + (r + 1) by omega]; exact h1
    have e1 : nI y + 1 = nI (y + 1) := nI_1 y
    have e2 : nI k + 1 = nI (k + 1) := nI_1 k
    rcases hv y with z | z
    · rw [if_pos z, g_mid s hh hv r (y + 1) k b (c + 1) hk (by omega) h1' (fun t a b => h2 t (by omega) (by omega)), if_pos (by rw [z]; decide), e1, Int32.add_assoc]
    · rw [if_neg (fun z2 => by rw [z2] at z; exact absurd z (by decide)), if_neg hk0, if_neg (Int32.not_lt.mpr z), e1, e2, g_mid s hh hv r (y + 1) (k + 1) (b + c) 0 (by omega) (by omega) h1' (fun t a b => h2 t (by omega) (by omega))]
theorem least_ok {f : Nat → Int32} : ∀ r k (A : Int32), (∀ i, k ≤ i → i < k + r → 0 ≤ (f i).toInt) → 0 ≤ A.toInt → 0 ≤ (sp_least f r k A).toInt ∧ (sp_least f r k A).toInt ≤ A.toInt ∧ (∀ i, k ≤ i → i < k + r → (sp_least f r k A).toInt ≤ (f i).toInt) ∧ (sp_least f r k A = A ∨ ∃ i, k ≤ i ∧ i < k + r ∧ f i = sp_least f r k A)
  | 0, k, A, _, h => ⟨h, Int.le_refl _, fun i h1 h2 => absurd h1 (by omega), Or.inl rfl⟩
  | r + 1, k, A, hf, h => by
    rw [sp_least]
    by_cases e : f k < A
    · rw [if_pos e]
      obtain ⟨g1, g2, g3, g4⟩ := least_ok r (k + 1) (f k) (fun i h1 h2 => hf i (by omega) (by omega)) (hf k (by omega) (by omega))
      rw [Int32.lt_iff_toInt_lt] at e
      refine ⟨g1, by omega, fun i h1 h2 => ?_, Or.inr ?_⟩
      · by_cases ei : i = k
        · rw [ei]; exact g2
        · exact g3 i (by omega) (by omega)
      · rcases g4 with g4 | ⟨i, i1, i2, i3⟩
        · exact ⟨k, by omega, by omega, g4.symm⟩
        · exact ⟨i, by omega, by omega, i3⟩
    · rw [if_neg e]
      obtain ⟨g1, g2, g3, g4⟩ := least_ok r (k + 1) A (fun i h1 h2 => hf i (by omega) (by omega)) h
      rw [Int32.lt_iff_toInt_lt] at e
      refine ⟨g1, g2, fun i h1 h2 => ?_, ?_⟩
      · by_cases ei : i = k
        · rw [ei]; omega
        · exact g3 i (by omega) (by omega)
      · rcases g4 with g4 | ⟨i, i1, i2, i3⟩
        · exact Or.inl g4
        · exact Or.inr ⟨i, by omega, by omega, i3⟩
theorem most_ok {f : Nat → Int32} : ∀ r k (A : Int32), (∀ i, k ≤ i → i < k + r → (f i).toInt < 30) → A.toInt < 30 → (sp_most f r k A).toInt < 30 ∧ A.toInt ≤ (sp_most f r k A).toInt ∧ (∀ i, k ≤ i → i < k + r → (f i).toInt ≤ (sp_most f r k A).toInt) ∧ (sp_most f r k A = A ∨ ∃ i, k ≤ i ∧ i < k + r ∧ f i = sp_most f r k A)
  | 0, k, A, _, h => ⟨h, Int.le_refl _, fun i h1 h2 => absurd h1 (by omega), Or.inl rfl⟩
  | r + 1, k, A, hf, h => by
    rw [sp_most]
    by_cases e : A < f k
    · rw [if_pos e]
      obtain ⟨g1, g2, g3, g4⟩ := most_ok r (k + 1) (f k) (fun i h1 h2 => hf i (by omega) (by omega)) (hf k (by omega) (by omega))
      rw [Int32.lt_iff_toInt_lt] at e
      refine ⟨g1, by omega, fun i h1 h2 => ?_, Or.inr ?_⟩
      · by_cases ei : i = k
        · rw [ei]; exact g2
        · exact g3 i (by omega) (by omega)
      · rcases g4 with g4 | ⟨i, i1, i2, i3⟩
        · exact ⟨k, by omega, by omega, g4.symm⟩
        · exact ⟨i, by omega, by omega, i3⟩
    · rw [if_neg e]
      obtain ⟨g1, g2, g3, g4⟩ := most_ok r (k + 1) A (fun i h1 h2 => hf i (by omega) (by omega)) h
      rw [Int32.lt_iff_toInt_lt] at e
      refine ⟨g1, g2, fun i h1 h2 => ?_, ?_⟩
      · by_cases ei : i = k
        · rw [ei]; omega
        · exact g3 i (by omega) (by omega)
      · rcases g4 with g4 | ⟨i, i1, i2, i3⟩
        · exact Or.inl g4
        · exact Or.inr ⟨i, by omega, by omega, i3⟩
theorem gaps_eq {f t hs : Nat → Int32} {n : Nat} (h : ∀ i, i < n → ∃ a b h, a ≤ b ∧ b ≤ 29 ∧ h ≤ 9 ∧ f i = nI a ∧ t i = nI b ∧ hs i = nI h) : (0 ≤ (sp_least f n 0 30).toInt ∧ (sp_least f n 0 30).toInt ≤ 30) ∧ (sp_most t n 0 (-1)).toInt < 30 ∧ sp_gapsX (fun y => sp_house f t hs (nI y) n 0) 30 0 0 0 0 = sp_gapsO (fun y => sp_house f t hs y n 0) (sp_turns (sp_least f n 0 30) (sp_most t n 0 (-1))) (sp_least f n 0 30) 0 := by
  have hf : ∀ i, i < n → ∃ a b : Nat, a ≤ b ∧ b ≤ 29 ∧ (f i).toInt = a ∧ (t i).toInt = b ∧ 0 ≤ hs i := by
    intro i hi
    obtain ⟨a, b, c, h1, h2, h3, h4, h5, h6⟩ := h i hi
    exact ⟨a, b, h1, h2, by rw [h4, nI_toInt (by omega)], by rw [h5, nI_toInt (by omega)], by rw [h6]; exact nI_pos' (by omega)⟩
  obtain ⟨g1, g2, g3, g4⟩ := least_ok (f := f) n 0 30 (fun i _ hi => by obtain ⟨a, b, h1, h2, h3, h4, h5⟩ := hf i (by omega); omega) (by decide)
  obtain ⟨q1, q2, q3, q4⟩ := most_ok (f := t) n 0 (-1) (fun i _ hi => by obtain ⟨a, b, h1, h2, h3, h4, h5⟩ := hf i (by omega); omega) (by decide)
  have e30 : (30 : Int32).toInt = 30 := rfl
  have e1 : (-1 : Int32).toInt = -1 := rfl
  rw [e30] at g2
  rw [e1] at q2
  refine ⟨⟨g1, g2⟩, q1, ?_⟩
  have hno : ∀ y : Nat, y < 30 → (∀ i, i < n → ¬ ((f i).toInt ≤ (y : Int) ∧ (y : Int) ≤ (t i).toInt)) → sp_house f t hs (nI y) n 0 = -2 := by
    intro y hy hi
    refine h_none n 0 (fun i _ h2 => ?_)
    rw [Int32.le_iff_toInt_le, Int32.le_iff_toInt_le, nI_toInt (by omega)]
    exact hi i (by omega)
  have hye : ∀ y : Nat, y < 30 → (∃ i, i < n ∧ (f i).toInt ≤ (y : Int) ∧ (y : Int) ≤ (t i).toInt) → 0 ≤ sp_house f t hs (nI y) n 0 := by
    intro y hy ⟨i, h1, h2, h3⟩
    refine h_some n 0 (fun i _ hi => ?_) ⟨i, by omega, by omega, ?_⟩
    · obtain ⟨a, b, _, _, _, _, h5⟩ := hf i (by omega)
      exact h5
    · rw [Int32.le_iff_toInt_le, Int32.le_iff_toInt_le, nI_toInt (by omega)]
      exact ⟨h2, h3⟩
  have hv : ∀ y, sp_house f t hs (nI y) n 0 = -2 ∨ 0 ≤ sp_house f t hs (nI y) n 0 := by
    intro y
    by_cases e : ∃ i, 0 ≤ i ∧ i < 0 + n ∧ f i ≤ nI y ∧ nI y ≤ t i
    · refine Or.inr (h_some n 0 (fun i _ hi => ?_) e)
      obtain ⟨a, b, _, _, _, _, h5⟩ := hf i (by omega)
      exact h5
    · exact Or.inl (h_none n 0 (fun i h1 h2 z => e ⟨i, h1, h2, z⟩))
  by_cases hn : n = 0
  · subst hn
    exact g_after (hs := fun y => sp_house f t hs (nI y) 0 0) 30 0 0 0 0 (fun t _ _ => rfl)
  · obtain ⟨i0, b0, c0, d0⟩ : ∃ i, 0 ≤ i ∧ i < 0 + n ∧ f i = sp_least f n 0 30 := by
      rcases g4 with g4 | g4
      · obtain ⟨a, b, h1, h2, h3, h4, h5⟩ := hf 0 (by omega)
        have := g3 0 (by omega) (by omega)
        rw [g4, e30] at this
        omega
      · exact g4
    obtain ⟨i1, b1, c1, d1⟩ : ∃ i, 0 ≤ i ∧ i < 0 + n ∧ t i = sp_most t n 0 (-1) := by
      rcases q4 with q4 | q4
      · obtain ⟨a, b, h1, h2, h3, h4, h5⟩ := hf 0 (by omega)
        have := q3 0 (by omega) (by omega)
        rw [q4, e1] at this
        omega
      · exact q4
    obtain ⟨L, bb, k1, k2, k3, k4, k5⟩ := hf i0 (by omega)
    obtain ⟨aa, M, r1, r2, r3, r4, r5⟩ := hf i1 (by omega)
    rw [d0] at k3
    rw [d1] at r4
    have eL : sp_least f n 0 30 = nI L := Int32.toInt_inj.mp (by rw [k3, nI_toInt (by omega)])
    have eM : sp_most t n 0 (-1) = nI M := Int32.toInt_inj.mp (by rw [r4, nI_toInt (by omega)])
    have hLM : L ≤ M := by
      have := q3 i0 (by omega) (by omega)
      omega
    have et : sp_turns (sp_least f n 0 30) (sp_most t n 0 (-1)) = M - L + 1 := by
      unfold sp_turns
      rw [k3, r4]
      omega
    have covL : 0 ≤ sp_house f t hs (nI L) n 0 := hye L (by omega) ⟨i0, by omega, by rw [d0, k3]; exact Int.le_refl _, by omega⟩
    have covM : 0 ≤ sp_house f t hs (nI M) n 0 := hye M (by omega) ⟨i1, by omega, by omega, by rw [d1, r4]; exact Int.le_refl _⟩
    have low : ∀ y, y < L → sp_house f t hs (nI y) n 0 = -2 := fun y hy => hno y (by omega) (fun i hi z => by
      have := g3 i (by omega) (by omega)
      omega)
    have high : ∀ y, M < y → y < 30 → sp_house f t hs (nI y) n 0 = -2 := fun y hy hy2 => hno y hy2 (fun i hi z => by
      have := q3 i (by omega) (by omega)
      omega)
    rw [et, eL]
    obtain ⟨c', e⟩ := g_before (hs := fun y => sp_house f t hs (nI y) n 0) (30 - L) 0 0 L 0 0 (fun y _ hy => low y (by omega))
    rw [show L + (30 - L) = 30 by omega] at e
    rw [e, show 0 + L = L by omega, show 30 - L = (29 - L) + 1 by omega, sp_gapsX, if_neg (fun z => by rw [z] at covL; exact absurd covL (by decide)), if_pos rfl]
    rw [show M - L + 1 = (M - L) + 1 from rfl, sp_gapsO]
    rw [if_neg (Int32.not_lt.mpr covL)]
    by_cases hm : M = L
    · rw [g_after (29 - L) (L + 1) _ _ _ (fun y h1 h2 => high y (by omega) (by omega)), show M - L = 0 by omega]
      rfl
    · have := g_mid (hs := fun y => sp_house f t hs (nI y) n 0) (ho := fun y => sp_house f t hs y n 0) (29 - M) (fun _ => rfl) hv (M - L - 1) (L + 1) 1 0 0 (by omega) (by omega) (by rw [show L + 1 + (M - L - 1) = M by omega]; exact covM) (fun y h1 h2 => high y (by omega) (by omega))
      rw [show M - L - 1 + 1 + (29 - M) = 29 - L by omega, show M - L - 1 + 1 = M - L by omega] at this
      rw [nI_1]
      exact this
theorem op_papers (h : Inv x m P) (w : Int32) : OPi sc x m P M_C_papers M_O_papers 2 3 0 0 [.int w] := by
  obtain ⟨a1, a2, a3, a4, ⟨p1, p2, p3, p4, n, hn, en, hp⟩, a6, a7, a8⟩ := id h
  obtain ⟨⟨g1, g2⟩, g3, g4⟩ := gaps_eq hp
  by_cases h0 : w = 0
  · subst h0
    refine OPi_bad h (c_C_papers0 en hn) ?_
    rw [p1, p2, p3]
    exact c_O_papers0 (p4.symm.trans en) hn
  · by_cases h1 : w = 1
    · subst h1
      refine OPi_bad h (c_C_papers1 en hn) ?_
      rw [g4]
      rw [p1, p2, p3] at *
      exact c_O_papers1 (p4.symm.trans en) hn g1 g2 g3
    · refine OPi_bad h (c_C_papers_bad w (fun z => ?_)) (c_O_papers_bad w h0 h1)
      obtain ⟨j, hj, e⟩ := rng (by decide) z
      rcases (show j = 0 ∨ j = 1 by omega) with rfl | rfl
      · exact h0 e
      · exact h1 e
theorem op_keep (h : Inv x m P) (d w : Int32) : OPi sc x m P M_C_keep M_O_keep 3 2 0 0 [.int d, .int w] := by
  obtain ⟨a1, a2, a3, a4, a5, a6, ⟨s1, s2, n, en, hn, s3⟩, a8⟩ := id h
  have eb : zb_bodies m = nI n := a6.2.1.symm.trans en
  have iff : (-1 ≤ w ∧ w ≤ xB_many x - 1) ↔ (w = -1 ∨ (0 ≤ w ∧ w ≤ zb_bodies m - 1)) := by
    rw [en, eb]
    have hn1 : (nI n - 1).toInt = (n : Int) - 1 := by
      rw [Int32.toInt_sub, nI_toInt (by omega), show (1 : Int32).toInt = 1 from rfl]
      exact Int.bmod_eq_of_le (by omega) (by omega)
    have e1 : w = -1 ↔ w.toInt = -1 := by
      rw [← Int32.toInt_inj]
      exact Iff.rfl
    rw [e1, Int32.le_iff_toInt_le, Int32.le_iff_toInt_le, Int32.le_iff_toInt_le, hn1, show (-1 : Int32).toInt = -1 from rfl, Int32.toInt_zero]
    omega
  by_cases hd : 0 ≤ d ∧ d ≤ nI 5
  · by_cases hw : -1 ≤ w ∧ w ≤ xB_many x - 1
    · have hw2 := iff.mp hw
      obtain ⟨a, ha, rfl⟩ := rng (by decide) hd
      refine ⟨_, _, _, P, c_C_keep a w ha hw, c_O_keep a w ha hw2, a1, a2, a3, a4, a5, a6, ⟨?_, s2, n, en, hn, fun b hb => ?_⟩, a8⟩
      · show upd (xH_lens x) a 0 = upd (zs_many m) a 0
        rw [s1]
      · show shR n (upd (xH_sorts x) a (if w < 0 then -2 else -1) b) (upd (xH_held x) a w b) (upd (zs_shelf m) a w b) ∧ ∃ len, len ≤ 60 ∧ upd (xH_lens x) a 0 b = nI len
        by_cases e : b = a
        · rw [e, upd_at, upd_at, upd_at, upd_at]
          refine ⟨?_, 0, by omega, rfl⟩
          rcases hw2 with rfl | hw2
          · exact Or.inl ⟨rfl, rfl⟩
          · rw [eb] at hw2
            obtain ⟨j, hj, rfl⟩ := n_predN (by omega) hw2
            rw [if_neg (nI_pos (by omega))]
            exact Or.inr (Or.inl ⟨j, hj, by omega, rfl, rfl, rfl⟩)
        · rw [upd_ne e, upd_ne e, upd_ne e, upd_ne e]
          exact s3 b hb
    · exact OPi_bad h (c_C_keep_bad d w (fun z => hw z.2)) (c_O_keep_bad d w (fun z => hw (iff.mpr z.2)))
  · exact OPi_bad h (c_C_keep_bad d w (fun z => hd z.1)) (c_O_keep_bad d w (fun z => hd z.1))
theorem op_row (h : Inv x m P) (d s k : Int32) : OPi sc x m P M_C_row M_O_row 3 2 0 0 [.int d, .int s, .int k] := by
  obtain ⟨a1, a2, a3, a4, a5, a6, ⟨s1, s2, n, en, hn, s3⟩, a8⟩ := id h
  by_cases hb : sp_rowOk d s k
  · by_cases hk : k < 0
    · exact OPi_bad h (c_C_row_neg d s k hb hk) (c_O_row_neg d s k hb hk)
    · obtain ⟨h1, h2, h3⟩ := hb
      obtain ⟨a, ha, rfl⟩ := rng (by decide) h1
      obtain ⟨k, hk6, rfl⟩ := rng (n := 60) (by decide) ⟨Int32.not_lt.mp hk, Int32.not_lt.mp h3⟩
      refine ⟨_, _, _, P, c_C_row a k s ha h2 hk6, c_O_row a k s ha h2 hk6, a1, a2, a3, a4, a5, a6, ⟨?_, ?_, n, en, hn, fun b hb => ?_⟩, a8⟩
      · show upd (xH_lens x) a (nI k) = upd (zs_many m) a (nI k)
        rw [s1]
      · show sp_fill (xH_cells x) (a * 60) ((a + 1) * 60) 0 = sp_fill (zs_items m) (60 * a) (60 * a + 60) 0
        rw [s2, show a * 60 = 60 * a by omega, show (a + 1) * 60 = 60 * a + 60 by omega]
      · show shR n (upd (xH_sorts x) a s b) (xH_held x b) (upd (zs_shelf m) a (50 + s) b) ∧ ∃ len, len ≤ 60 ∧ upd (xH_lens x) a (nI k) b = nI len
        by_cases e : b = a
        · rw [e, upd_at, upd_at, upd_at]
          obtain ⟨q, hq, rfl⟩ := rng (by decide) h2
          exact ⟨Or.inr (Or.inr ⟨q, hq, rfl, nI_add 50 q⟩), k, hk6, rfl⟩
        · rw [upd_ne e, upd_ne e, upd_ne e]
          exact s3 b hb
  · exact OPi_bad h (c_C_row_bad d s k hb) (c_O_row_bad d s k hb)
theorem nI_nn {q : Nat} (h : q < 2 ^ 31) : ¬ nI q = -2 ∧ ¬ nI q = -1 := by
  constructor <;> intro z <;> have := congrArg Int32.toInt z
  · rw [nI_toInt h, show (-2 : Int32).toInt = -2 from rfl] at this
    omega
  · rw [nI_toInt h, show (-1 : Int32).toInt = -1 from rfl] at this
    omega
theorem lt50 {b : Nat} (h : b < 50) : nI b < (50 : Int32) := n_lt (b := 50) h (by omega)
theorem nlt50 {q : Nat} (h : q ≤ 4) : ¬ nI (50 + q) < (50 : Int32) := n_nlt (b := 50) (by omega) (by omega)
theorem ref_eq {n len : Nat} {s hh z : Int32} (h : shR n s hh z) (hl : len ≤ 60) (i : Int32) : sp_refO z (nI len) i = sp_refX s (nI len) i := by
  unfold sp_refO sp_refX
  rcases h with ⟨rfl, rfl⟩ | ⟨b, b1, b2, rfl, rfl, rfl⟩ | ⟨q, q1, rfl, rfl⟩
  · rfl
  · rw [if_neg (nI_pos (by omega)), if_pos (lt50 b2), if_neg (by decide), if_pos rfl]
  · rw [if_neg (nI_pos (by omega)), if_neg (nlt50 q1), if_neg (nI_nn (by omega)).1, if_neg (nI_nn (by omega)).2]
    have hn1 : (nI len - 1).toInt = (len : Int) - 1 := by
      rw [Int32.toInt_sub, nI_toInt (by omega), show (1 : Int32).toInt = 1 from rfl]
      exact Int.bmod_eq_of_le (by omega) (by omega)
    by_cases h1 : i < 0
    · rw [if_pos h1, if_neg (fun z => absurd h1 (Int32.not_lt.mpr z.1))]
    · rw [if_neg h1]
      by_cases h2 : i < nI len
      · have g : i ≤ nI len - 1 := by
          rw [Int32.lt_iff_toInt_lt, nI_toInt (by omega)] at h2
          rw [Int32.le_iff_toInt_le, hn1]
          omega
        have g2 : 0 ≤ i ∧ i ≤ nI len - 1 := ⟨Int32.not_lt.mp h1, g⟩
        rw [if_pos h2, if_pos g2]
      · have g : ¬ (0 ≤ i ∧ i ≤ nI len - 1) := by
          intro z
          have := z.2
          rw [Int32.le_iff_toInt_le, hn1] at this
          rw [Int32.lt_iff_toInt_lt, nI_toInt (by omega)] at h2
          omega
        rw [if_neg h2, if_neg g]
theorem ref_0 {n len : Nat} {s hh z : Int32} (h : shR n s hh z) (hl : len ≤ 60) (i : Int32) (h0 : sp_refX s (nI len) i = 0) : (∃ j, j < len ∧ i = nI j) ∧ ∃ q, q ≤ 4 ∧ s = nI q ∧ z = nI (50 + q) := by
  unfold sp_refX at h0
  rcases h with ⟨rfl, rfl⟩ | ⟨b, b1, b2, rfl, rfl, rfl⟩ | ⟨q, q1, rfl, rfl⟩
  · rw [if_pos rfl] at h0
    exact absurd h0 (by decide)
  · rw [if_neg (by decide), if_pos rfl] at h0
    exact absurd h0 (by decide)
  · rw [if_neg (nI_nn (by omega)).1, if_neg (nI_nn (by omega)).2] at h0
    refine ⟨?_, q, q1, rfl, rfl⟩
    by_cases e : 0 ≤ i ∧ i ≤ nI len - 1
    · exact n_predN (by omega) e
    · rw [if_neg e] at h0
      exact absurd h0 (by decide)
theorem op_put (h : Inv x m P) (d i : Int32) (v : Int64) : OPi sc x m P M_C_put M_O_put 4 3 0 0 [.int d, .int i, .long v] := by
  obtain ⟨a1, a2, a3, a4, a5, a6, ⟨s1, s2, n, en, hn, s3⟩, a8⟩ := id h
  by_cases hd : 0 ≤ d ∧ d ≤ nI 5
  · obtain ⟨a, ha, rfl⟩ := rng (by decide) hd
    obtain ⟨hr, len, hl, el⟩ := s3 a ha
    have er := ref_eq hr hl i
    rw [← el] at er
    have er2 : sp_refO (zs_shelf m a) (zs_many m a) i = sp_refX (xH_sorts x a) (xH_lens x a) i := by rw [← s1]; exact er
    by_cases h0 : sp_refX (xH_sorts x a) (xH_lens x a) i = 0
    · obtain ⟨⟨j, hj, rfl⟩, q, hq, e1, e2⟩ := ref_0 hr hl i (by rw [← el]; exact h0)
      have C := c_C_put (N := P.length) (sc := sc) (m := m) (tl := pcells 67 P) a j q ha (by omega) hq e1 v h0
      have D := c_O_put (N := P.length) (sc := sc) (x := xH_cells_s x (vp_updL (xH_cells x) (a * 60 + j) (sp_low (nI q) v))) (m := m) (tl := pcells 67 P) a j ha (by omega) v (er2.trans h0)
      refine ⟨_, _, _, P, C, D, a1, a2, a3, a4, a5, a6, ⟨s1, ?_, n, en, hn, s3⟩, a8⟩
      show vp_updL (xH_cells x) (a * 60 + j) (sp_low (nI q) v) = vp_updL (zs_items m) (60 * a + j) (sp_low (zs_shelf m a - 50) v)
      have e3 : zs_shelf m a - 50 = nI q := by
        rw [e2]
        rcases (show q = 0 ∨ q = 1 ∨ q = 2 ∨ q = 3 ∨ q = 4 by omega) with rfl | rfl | rfl | rfl | rfl <;> decide
      rw [e3, s2, Nat.mul_comm]
    · refine OPi_bad h (c_C_put_ref a ha i v h0) ?_
      have D := c_O_put_ref (N := P.length) (sc := sc) (x := x) (m := m) (tl := pcells 67 P) a ha i v (fun z => h0 (er2.symm.trans z))
      rw [er2] at D
      exact D
  · exact OPi_bad h (c_C_put_bad d i v hd) (c_O_put_bad d i v hd)
theorem op_element (h : Inv x m P) (d i : Int32) : OPl sc x m P M_C_element M_O_element 4 3 0 0 [.int d, .int i] := by
  obtain ⟨a1, a2, a3, a4, a5, a6, ⟨s1, s2, n, en, hn, s3⟩, a8⟩ := id h
  by_cases hd : 0 ≤ d ∧ d ≤ nI 5
  · obtain ⟨a, ha, rfl⟩ := rng (by decide) hd
    obtain ⟨hr, len, hl, el⟩ := s3 a ha
    have er := ref_eq hr hl i
    rw [← el] at er
    have er2 : sp_refO (zs_shelf m a) (zs_many m a) i = sp_refX (xH_sorts x a) (xH_lens x a) i := by rw [← s1]; exact er
    by_cases h0 : sp_refX (xH_sorts x a) (xH_lens x a) i = 0
    · obtain ⟨⟨j, hj, rfl⟩, q, hq, e1, e2⟩ := ref_0 hr hl i (by rw [← el]; exact h0)
      have C := c_C_el (N := P.length) (sc := sc) (m := m) (tl := pcells 67 P) a j ha (by omega) h0
      have D := c_O_el (N := P.length) (sc := sc) (x := x) (m := m) (tl := pcells 67 P) a j ha (by omega) (er2.trans h0)
      rw [← s2, Nat.mul_comm] at D
      exact ⟨_, x, m, P, C, D, h⟩
    · exact ⟨_, x, m, P, c_C_el_ref a ha i h0, c_O_el_ref a ha i (fun z => h0 (er2.symm.trans z)), h⟩
  · exact ⟨_, x, m, P, c_C_el_bad d i hd, c_O_el_bad d i hd, h⟩
theorem sh_eq {n : Nat} {s1 h1 z1 s2 h2 z2 : Int32} (r1 : shR n s1 h1 z1) (r2 : shR n s2 h2 z2) (l1 l2 i j k : Int32) : sp_shO z1 z2 l1 l2 i j k = sp_shX s1 s2 l1 l2 i j k := by
  unfold sp_shO sp_shX
  have hneg : ∀ {s h z : Int32}, shR n s h z → (z < 0 ↔ s = -2) := by
    intro s h z r
    rcases r with ⟨rfl, rfl⟩ | ⟨b, b1, b2, rfl, rfl, rfl⟩ | ⟨q, q1, rfl, rfl⟩
    · exact ⟨fun _ => rfl, fun _ => by decide⟩
    · exact ⟨fun z => absurd z (nI_pos (by omega)), fun z => absurd z (by decide)⟩
    · exact ⟨fun z => absurd z (nI_pos (by omega)), fun z => absurd z (nI_nn (by omega)).1⟩
  by_cases a1 : s1 = -2
  · rw [if_pos a1, if_pos ((hneg r1).mpr a1)]
  rw [if_neg a1, if_neg (fun z => a1 ((hneg r1).mp z))]
  by_cases a2 : s2 = -2
  · rw [if_pos a2, if_pos ((hneg r2).mpr a2)]
  rw [if_neg a2, if_neg (fun z => a2 ((hneg r2).mp z))]
  rcases r1 with ⟨rfl, rfl⟩ | ⟨b, b1, b2, rfl, rfl, rfl⟩ | ⟨q, q1, rfl, rfl⟩
  · exact absurd rfl a1
  · rw [if_pos (lt50 b2), if_pos rfl]
  · rw [if_neg (nlt50 q1), if_neg (nI_nn (by omega)).2]
    rcases r2 with ⟨rfl, rfl⟩ | ⟨b, b1, b2, rfl, rfl, rfl⟩ | ⟨q', q1', rfl, rfl⟩
    · exact absurd rfl a2
    · rw [if_neg (nI_nn (by omega)).2, if_neg (fun z => ?_)]
      have : 50 + q = b := (nI_eq (by omega) (by omega)).mp z
      omega
    · by_cases e : q = q'
      · subst e
        rw [if_pos rfl, if_pos rfl]
        by_cases k0 : k < 0
        · rw [if_pos k0, if_pos k0]
        rw [if_neg k0, if_neg k0]
        by_cases i0 : i < 0
        · rw [if_pos i0, if_neg (fun z => z.1 i0)]
        rw [if_neg i0]
        by_cases j0 : j < 0
        · rw [if_pos j0, if_neg (c := ¬ j < 0 ∧ ¬ l2 - k < j) (fun z => z.1 j0)]
          split <;> rfl
        rw [if_neg j0]
        by_cases i1 : l1 - k < i
        · rw [if_pos i1, if_neg (fun z => z.2 i1)]
        have g1 : ¬ i < 0 ∧ ¬ l1 - k < i := ⟨i0, i1⟩
        rw [if_neg i1, if_pos g1]
        by_cases j1 : l2 - k < j
        · rw [if_pos j1, if_neg (fun z => z.2 j1)]
        have g2 : ¬ j < 0 ∧ ¬ l2 - k < j := ⟨j0, j1⟩
        rw [if_neg j1, if_pos g2]
      · rw [if_neg (fun z => e ((nI_eq (by omega) (by omega)).mp z)), if_neg (fun z => ?_)]
        have : 50 + q = 50 + q' := (nI_eq (by omega) (by omega)).mp z
        omega
theorem sh_1 {s1 s2 i j k : Int32} {l1 l2 : Nat} (h1 : l1 ≤ 60) (h2 : l2 ≤ 60) (h : sp_shX s1 s2 (nI l1) (nI l2) i j k = 1) : ∃ i' j' k', i = nI i' ∧ j = nI j' ∧ k = nI k' ∧ i' + k' ≤ 60 ∧ j' + k' ≤ 60 := by
  unfold sp_shX at h
  have hx : ∀ v : Int32, ¬ v = 1 → v = 1 → False := fun v a b => a b
  split at h
  · exact absurd h (by decide)
  split at h
  · exact absurd h (by decide)
  split at h
  · exact absurd h (by decide)
  split at h
  · split at h
    · exact absurd h (by decide)
    rename_i hk
    split at h
    · rename_i hi
      split at h
      · rename_i hj
        obtain ⟨k, hk2, rfl⟩ := nI_of hk
        obtain ⟨i, hi2, rfl⟩ := nI_of hi.1
        obtain ⟨j, hj2, rfl⟩ := nI_of hj.1
        have e : ∀ l : Nat, l ≤ 60 → (nI l - nI k).toInt = (l : Int) - k := by
          intro l hl
          rw [Int32.toInt_sub, nI_toInt (by omega), nI_toInt hk2]
          exact Int.bmod_eq_of_le (by omega) (by omega)
        have q1 := hi.2
        have q2 := hj.2
        rw [Int32.lt_iff_toInt_lt, e _ h1, nI_toInt hi2] at q1
        rw [Int32.lt_iff_toInt_lt, e _ h2, nI_toInt hj2] at q2
        exact ⟨i, j, k, rfl, rfl, rfl, by omega, by omega⟩
      · exact absurd h (by decide)
    · exact absurd h (by decide)
  · exact absurd h (by decide)
theorem op_shift (h : Inv x m P) (d i e j k : Int32) : OPi sc x m P M_C_shift M_O_shift 5 2 0 0 [.int d, .int i, .int e, .int j, .int k] := by
  obtain ⟨a1, a2, a3, a4, a5, a6, ⟨s1, s2, n, en, hn, s3⟩, a8⟩ := id h
  by_cases hd : (0 ≤ d ∧ d ≤ nI 5) ∧ (0 ≤ e ∧ e ≤ nI 5)
  · obtain ⟨a, ha, rfl⟩ := rng (by decide) hd.1
    obtain ⟨b, hb, rfl⟩ := rng (by decide) hd.2
    obtain ⟨r1, len1, hl1, el1⟩ := s3 a ha
    obtain ⟨r2, len2, hl2, el2⟩ := s3 b hb
    have er : sp_shO (zs_shelf m a) (zs_shelf m b) (zs_many m a) (zs_many m b) i j k = sp_shX (xH_sorts x a) (xH_sorts x b) (xH_lens x a) (xH_lens x b) i j k := by
      rw [← s1]
      exact sh_eq r1 r2 _ _ i j k
    by_cases h1 : sp_shX (xH_sorts x a) (xH_sorts x b) (xH_lens x a) (xH_lens x b) i j k = 1
    · obtain ⟨i, j, k, rfl, rfl, rfl, hi, hj⟩ := sh_1 hl1 hl2 (by rw [← el1, ← el2]; exact h1)
      have C := c_C_shift (N := P.length) (sc := sc) (m := m) (tl := pcells 67 P) ha hb (c_H_copy a b i j k ha hb hi hj h1)
      have D := c_O_shift (N := P.length) (sc := sc) (x := xH_cells_s x (va_cpy (xH_cells x) (xH_cells x) (a * 60 + i) (b * 60 + j) k)) (m := m) (tl := pcells 67 P) a b i j k ha hb hi hj (er.trans h1)
      refine ⟨_, _, _, P, C, D, a1, a2, a3, a4, a5, a6, ⟨s1, ?_, n, en, hn, s3⟩, a8⟩
      show va_cpy (xH_cells x) (xH_cells x) (a * 60 + i) (b * 60 + j) k = va_cpy (zs_items m) (zs_items m) (60 * a + i) (60 * b + j) k
      rw [s2, Nat.mul_comm a, Nat.mul_comm b]
    · refine OPi_bad h (c_C_shift ha hb (c_H_copy_ref a b ha hb i j k h1)) ?_
      have D := c_O_shift_ref (N := P.length) (sc := sc) (x := x) (m := m) (tl := pcells 67 P) a b ha hb i j k (fun z => h1 (er.symm.trans z))
      rw [er] at D
      exact D
  · exact OPi_bad h (c_C_shift_bad d e i j k hd) (c_O_shift_bad d e i j k hd)
theorem und_eq : ∀ a, a < 8 → ∀ k, k < 8 → sp_und (nI a) 8 (nI k) = sp_undO (nI a) 8 k := by decide
theorem op_taken (h : Inv x m P) (d k : Int32) : OPi sc x m P M_C_taken M_O_taken 3 2 0 0 [.int d, .int k] := by
  obtain ⟨a1, a2, a3, a4, a5, ⟨b1, b2, b3, b4, n', r, hn', en', hr, er, hk⟩, ⟨s1, s2, n, en, hn, s3⟩, a8⟩ := id h
  by_cases hd : (0 ≤ d ∧ d ≤ nI 5) ∧ (0 ≤ k ∧ k ≤ nI 7)
  · obtain ⟨a, ha, rfl⟩ := rng (by decide) hd.1
    obtain ⟨r1, len1, hl1, el1⟩ := s3 a ha
    rcases r1 with ⟨e1, e2⟩ | ⟨b, c1, c2, e1, e2, e3⟩ | ⟨q, q1, e1, e2⟩
    · exact OPi_bad h (c_C_taken_0 a k ha hd.2 e1) (c_O_taken_0 a k ha hd.2 (by rw [e2]; decide))
    · have e : n' = n := (nI_eq (by omega) (by omega)).mp (en'.symm.trans en)
      obtain ⟨o, ho, eo⟩ := hk b (by omega)
      have C := c_C_taken_b (N := P.length) (sc := sc) (m := m) (tl := pcells 67 P) a b k ha hd.2 e1 e2 en hn c1
      have D := c_O_taken_b (N := P.length) (sc := sc) (x := x) (tl := pcells 67 P) a b o k ha hd.2 e3 c2 ((congrFun b1 b).symm.trans eo) ho
      obtain ⟨kk, hkk, rfl⟩ := rng (by decide) hd.2
      rw [eo, und_eq kk (by omega) o (by omega)] at C
      exact ⟨_, x, m, P, C, D, h⟩
    · exact OPi_bad h (c_C_taken_row a k ha hd.2 (by rw [e1]; exact (nI_nn (by omega)).1) (by rw [e1]; exact (nI_nn (by omega)).2)) (c_O_taken_row a k ha hd.2 (by rw [e2]; exact nI_pos (by omega)) (by rw [e2]; exact n_nlt (b := 50) (by omega) (by omega)))
  · exact OPi_bad h (c_C_taken_bad d k hd) (c_O_taken_bad d k hd)
theorem bits_eq : ∀ l, l < 64 → sp_bits (nI l) = (if l.testBit 0 = true then 1 else 0) + (if l.testBit 1 = true then 1 else 0) + (if l.testBit 2 = true then 1 else 0) + (if l.testBit 3 = true then 1 else 0) + (if l.testBit 4 = true then 1 else 0) + (if l.testBit 5 = true then 1 else 0) := by decide
theorem way_pos (lk th j : Nat) : (if 0 < nI (wayB lk th j) then (1 : Int32) else 0) = if lk.testBit j = true then 1 else 0 := by
  unfold wayB
  by_cases h : lk.testBit j = true
  · rw [if_pos h, if_pos h]
    by_cases h2 : th.testBit j = true
    · rw [if_pos h2]; decide
    · rw [if_neg h2]; decide
  · rw [if_neg h, if_neg h]; decide
theorem cnt_eq (h : IvP m P) : ∀ t, t ≤ P.length → sp_cntO (zp_found m) (6 * t) = sp_cntP P t
  | 0, _ => rfl
  | t + 1, ht => by
    obtain ⟨c1, c2, lk, th, c3, c4, c5, c6, c7⟩ := h.2.2 t P[t] (at_some (by omega))
    rw [show 6 * (t + 1) = 6 * t + 0 + 1 + 1 + 1 + 1 + 1 + 1 by omega, sp_cntO, sp_cntO, sp_cntO, sp_cntO, sp_cntO, sp_cntO, Nat.add_zero, cnt_eq h t (by omega), sp_cntP, List.getD_eq_getElem?_getD, at_some (by omega), show (some P[t]).getD pz = P[t] from rfl, c5, bits_eq lk c3]
    have g0 : zp_found m (6 * t) = _ := (c7 0 (by omega)).1
    rw [g0, (c7 1 (by omega)).1, (c7 2 (by omega)).1, (c7 3 (by omega)).1, (c7 4 (by omega)).1, (c7 5 (by omega)).1, way_pos, way_pos, way_pos, way_pos, way_pos, way_pos]
    rw [← Int32.add_assoc, ← Int32.add_assoc, ← Int32.add_assoc, ← Int32.add_assoc, ← Int32.add_assoc]
theorem op_count (h : Inv x m P) (w : Int32) : OPi sc x m P M_C_count M_O_count 3 1 0 0 [.int w] := by
  obtain ⟨a1, a2, a3, a4, a5, a6, a7, a8⟩ := id h
  have D := c_O_count (N := P.length) (sc := sc) (x := x) (m := m) (tl := pcells 67 P) P.length a2.2.1 a2.1 w
  rw [cnt_eq a2 P.length (Nat.le_refl _), ← a5.2.2.2.1, ← a4.2.1, done_eq a1, ← a6.2.1, ← a6.2.2.2.1] at D
  exact OPi_bad h (c_C_count a2.2.1 w) D
end O4A
