/-! texts: what they say, and how they are read -/
abbrev Ex : Type := List Int32 × ((Nat → Int32) → Int32)
def x_num (v : Nat) : Ex := ([nI v], fun _ => nI v)
def x_nam (c : Nat) : Ex := ([-nI c], fun v => v c)
def x_neg (e : Ex) : Ex := (e.1 ++ [-126], fun v => -e.2 v)
def x_no (e : Ex) : Ex := (e.1 ++ [-33], fun v => bI (e.2 v = 0))
def x_bin (s : Nat) (l r : Ex) : Ex := (l.1 ++ (r.1 ++ [-nI s]), fun v => sp_join s (l.2 v) (r.2 v))
abbrev x_code (e : Ex) : List Int32 := e.1
def x_env (y k w p : Int32) (c : Nat) : Int32 := if c = 121 then y else if c = 107 then k else if c = 119 then w else p
def x_at (cd : Nat → Int32) : Nat → List Int32 → Prop
  | _, [] => True
  | a, c :: L => cd a = c ∧ x_at cd (a + 1) L
theorem x_at_app {cd : Nat → Int32} : ∀ (L : List Int32) {R : List Int32} {a : Nat}, x_at cd a (L ++ R) → x_at cd a L ∧ x_at cd (a + L.length) R
  | [], R, a, h => ⟨trivial, h⟩
  | c :: L, R, a, h => by
    obtain ⟨h1, h2⟩ := x_at_app L h.2
    refine ⟨⟨h.1, h1⟩, ?_⟩
    rw [List.length_cons, show a + (L.length + 1) = a + 1 + L.length by omega]
    exact h2
/-- the code works the value out -/
def x_runs (e : Ex) : Prop := ∀ (cd : Nat → Int32) (y k w p : Int32) (r at_ top : Nat) (stk : Nat → Int32), x_at cd at_ e.1 → top + e.1.length ≤ 120 → ∃ stk' : Nat → Int32, (∀ j, j < top → stk' j = stk j) ∧ stk' top = e.2 (x_env y k w p) ∧ sp_wk cd y k w p (r + e.1.length) at_ top false stk = sp_wk cd y k w p r (at_ + e.1.length) (top + 1) false stk'
def x_ok (e : Ex) : Prop := (∀ c ∈ e.1, sp_cok c ∧ ¬ c = -59) ∧ x_runs e
theorem wk_push {cd : Nat → Int32} {y k w p : Int32} {r at_ top u : Nat} {stk : Nat → Int32} {z : Int32} (h1 : ¬ cd at_ = -59) (h2 : ¬ cd at_ = -63) (hu : sp_uv (cd at_) y k w p top stk = (u, z)) (ht : top - u < 120) : sp_wk cd y k w p (r + 1) at_ top false stk = sp_wk cd y k w p r (at_ + 1) (top - u + 1) false (upd stk (top - u) z) := by
  rw [sp_wk, if_neg (show ¬ (false = true) by decide), if_neg h1, if_neg h2, hu, if_pos ht]
theorem upd_at (f : Nat → Int32) (i : Nat) (z : Int32) : upd f i z i = z := if_pos rfl
theorem upd_ne {f : Nat → Int32} {i j : Nat} {z : Int32} (h : ¬ j = i) : upd f i z j = f j := if_neg h
theorem x_num_ok (v : Nat) (hv : v < 10000) : x_ok (x_num v) := by
  refine ⟨fun c hc => ?_, fun cd y k w p r at_ top stk ha ht => ⟨upd stk top (nI v), fun j hj => upd_ne (by omega), upd_at _ _ _, ?_⟩⟩
  · rw [List.mem_singleton.mp hc]
    exact ⟨Or.inl ⟨v, hv, rfl⟩, n_neq (by omega) (by decide)⟩
  · have e := ha.1
    have ht : top + 1 ≤ 120 := ht
    exact wk_push (u := 0) (by rw [e]; exact n_neq (by omega) (by decide)) (by rw [e]; exact n_neq (by omega) (by decide)) (by rw [e]; exact sp_uv_num v hv) (by omega)
theorem x_nam_ok (c : Nat) (hc : c = 121 ∨ c = 107 ∨ c = 119 ∨ c = 112) : x_ok (x_nam c) := by
  refine ⟨fun q hq => ?_, fun cd y k w p r at_ top stk ha ht => ⟨upd stk top (x_env y k w p c), fun j hj => upd_ne (by omega), upd_at _ _ _, ?_⟩⟩
  · rw [List.mem_singleton.mp hq]
    rcases hc with rfl | rfl | rfl | rfl
    · exact ⟨Or.inr (Or.inr (Or.inr (Or.inl rfl))), by decide⟩
    · exact ⟨Or.inr (Or.inr (Or.inr (Or.inr (Or.inl rfl)))), by decide⟩
    · exact ⟨Or.inr (Or.inr (Or.inr (Or.inr (Or.inr (Or.inl rfl))))), by decide⟩
    · exact ⟨Or.inr (Or.inr (Or.inr (Or.inr (Or.inr (Or.inr (Or.inl rfl)))))), by decide⟩
  · have e := ha.1
    have ht : top + 1 ≤ 120 := ht
    refine wk_push (u := 0) ?_ ?_ ?_ (by omega)
    · rw [e]; rcases hc with rfl | rfl | rfl | rfl <;> decide
    · rw [e]; rcases hc with rfl | rfl | rfl | rfl <;> decide
    · rw [e]; rcases hc with rfl | rfl | rfl | rfl <;> rfl
theorem x_un_ok {e : Ex} (he : x_ok e) (c : Int32) (f : Int32 → Int32) (hc : c = -126 ∧ (∀ z, f z = -z) ∨ c = -33 ∧ (∀ z, f z = bI (z = 0))) : x_ok (e.1 ++ [c], fun v => f (e.2 v)) := by
  have c1 : ¬ c = -59 := by rcases hc with ⟨rfl, _⟩ | ⟨rfl, _⟩ <;> decide
  have c2 : ¬ c = -63 := by rcases hc with ⟨rfl, _⟩ | ⟨rfl, _⟩ <;> decide
  refine ⟨fun q hq => ?_, fun cd y k w p r at_ top stk ha ht => ?_⟩
  · rcases List.mem_append.mp hq with hq | hq
    · exact he.1 q hq
    · rw [List.mem_singleton.mp hq]
      rcases hc with ⟨rfl, _⟩ | ⟨rfl, _⟩
      · exact ⟨Or.inr (Or.inr (Or.inr (Or.inr (Or.inr (Or.inr (Or.inr (Or.inr (Or.inl rfl)))))))), c1⟩
      · exact ⟨Or.inr (Or.inr (Or.inr (Or.inr (Or.inr (Or.inr (Or.inr (Or.inl rfl))))))), c1⟩
  · obtain ⟨a1, a2⟩ := x_at_app e.1 ha
    have ht : top + (e.1 ++ [c]).length ≤ 120 := ht
    rw [List.length_append, List.length_singleton] at ht
    obtain ⟨s1, q1, q2, q3⟩ := he.2 cd y k w p (r + 1) at_ top stk a1 (by omega)
    refine ⟨upd s1 top (f (e.2 (x_env y k w p))), fun j hj => by rw [upd_ne (by omega), q1 j hj], upd_at _ _ _, ?_⟩
    show sp_wk cd y k w p (r + (e.1 ++ [c]).length) at_ top false stk = sp_wk cd y k w p r (at_ + (e.1 ++ [c]).length) _ _ _
    rw [List.length_append, List.length_singleton, show r + (e.1.length + 1) = r + 1 + e.1.length by omega, q3]
    have hr : sp_rt (top + 1) s1 = e.2 (x_env y k w p) := by rw [sp_rt, if_pos (by omega), show top + 1 - 1 = top by omega, q2]
    have := wk_push (cd := cd) (y := y) (k := k) (w := w) (p := p) (r := r) (at_ := at_ + e.1.length) (top := top + 1) (u := 1) (stk := s1) (z := f (e.2 (x_env y k w p))) (by rw [a2.1]; exact c1) (by rw [a2.1]; exact c2) (by
      rw [a2.1]
      rcases hc with ⟨rfl, hf⟩ | ⟨rfl, hf⟩
      · rw [hf, ← hr]; rfl
      · rw [hf, ← hr]; rfl) (by omega)
    rw [show top + 1 - 1 = top by omega] at this
    rw [this, show at_ + e.1.length + 1 = at_ + (e.1.length + 1) by omega]
theorem x_neg_ok {e : Ex} (he : x_ok e) : x_ok (x_neg e) := x_un_ok he (-126) (fun z => -z) (Or.inl ⟨rfl, fun _ => rfl⟩)
theorem x_no_ok {e : Ex} (he : x_ok e) : x_ok (x_no e) := x_un_ok he (-33) (fun z => bI (z = 0)) (Or.inr ⟨rfl, fun _ => rfl⟩)
theorem op_59 {s : Nat} (hs : sp_isOp s) : ¬ -nI s = -59 ∧ ¬ -nI s = -63 := by
  rcases hs with rfl | rfl | rfl | rfl | rfl | rfl | rfl | rfl | rfl | rfl <;> decide
theorem x_bin_ok {s : Nat} {l r : Ex} (hs : sp_isOp s) (hl : x_ok l) (hr : x_ok r) : x_ok (x_bin s l r) := by
  refine ⟨fun q hq => ?_, fun cd y k w p n at_ top stk ha ht => ?_⟩
  · rcases List.mem_append.mp hq with hq | hq
    · exact hl.1 q hq
    · rcases List.mem_append.mp hq with hq | hq
      · exact hr.1 q hq
      · rw [List.mem_singleton.mp hq]
        exact ⟨Or.inr (Or.inr (Or.inr (Or.inr (Or.inr (Or.inr (Or.inr (Or.inr (Or.inr ⟨s, hs, rfl⟩)))))))), (op_59 hs).1⟩
  · obtain ⟨a1, a2⟩ := x_at_app l.1 ha
    obtain ⟨a2, a3⟩ := x_at_app r.1 a2
    have ht : top + (l.1 ++ (r.1 ++ [-nI s])).length ≤ 120 := ht
    rw [List.length_append, List.length_append, List.length_singleton] at ht
    obtain ⟨s1, q1, q2, q3⟩ := hl.2 cd y k w p (n + 1 + r.1.length) at_ top stk a1 (by omega)
    obtain ⟨s2, u1, u2, u3⟩ := hr.2 cd y k w p (n + 1) (at_ + l.1.length) (top + 1) s1 a2 (by omega)
    refine ⟨upd s2 top (sp_join s (l.2 (x_env y k w p)) (r.2 (x_env y k w p))), fun j hj => by rw [upd_ne (by omega), u1 j (by omega), q1 j hj], upd_at _ _ _, ?_⟩
    show sp_wk cd y k w p (n + (l.1 ++ (r.1 ++ [-nI s])).length) at_ top false stk = sp_wk cd y k w p n (at_ + (l.1 ++ (r.1 ++ [-nI s])).length) _ _ _
    rw [List.length_append, List.length_append, List.length_singleton, show n + (l.1.length + (r.1.length + 1)) = n + 1 + r.1.length + l.1.length by omega, q3, u3]
    have e1 : sp_rt (top + 1 + 1) s2 = r.2 (x_env y k w p) := by rw [sp_rt, if_pos (by omega), show top + 1 + 1 - 1 = top + 1 by omega, u2]
    have e2 : sp_lf (top + 1 + 1) s2 = l.2 (x_env y k w p) := by rw [sp_lf, if_pos (by omega), show top + 1 + 1 - 2 = top by omega, u1 top (by omega), q2]
    have := wk_push (cd := cd) (y := y) (k := k) (w := w) (p := p) (r := n) (at_ := at_ + l.1.length + r.1.length) (top := top + 1 + 1) (u := 2) (stk := s2) (z := sp_join s (l.2 (x_env y k w p)) (r.2 (x_env y k w p))) (by rw [a3.1]; exact (op_59 hs).1) (by rw [a3.1]; exact (op_59 hs).2) (by rw [a3.1, sp_uv_op s hs, e1, e2]) (by omega)
    rw [show top + 1 + 1 - 2 = top by omega] at this
    rw [this, show at_ + l.1.length + r.1.length + 1 = at_ + (l.1.length + (r.1.length + 1)) by omega]
abbrev PR : Type := Nat ⊕ (Nat × Ex)
def p_clos (c : Int32) : Nat := if c = 124 then 0 else if c = 38 then 1 else if c = 60 ∨ c = 61 ∨ c = 62 then 2 else if c = 43 ∨ c = 45 then 3 else if c = 42 ∨ c = 47 ∨ c = 37 then 4 else 5
abbrev p_isD (c : Int32) : Prop := 48 ≤ c ∧ c ≤ 57
abbrev p_isN (c : Int32) : Prop := c = 121 ∨ c = 107 ∨ c = 119 ∨ c = 112
def p_dig (tx : Nat → Int32) : Nat → Nat → Nat → Nat × Nat
  | 0, a, v => (a, v)
  | r + 1, a, v => if p_isD (tx a) then p_dig tx r (a + 1) (v * 10 + ((tx a).toNatClampNeg - 48)) else (a, v)
def p_base (tx : Nat → Int32) (a : Nat) : PR := if p_isD (tx a) then .inr ((p_dig tx 4 a 0).1, x_num (p_dig tx 4 a 0).2) else if p_isN (tx a) then .inr (a + 1, x_nam (tx a).toNatClampNeg) else .inl a
def p_loop (tx : Nat → Int32) (F : Nat → PR) (lev : Nat) : Nat → Nat → Ex → PR
  | 0, a, e => .inr (a, e)
  | r + 1, a, e => if p_clos (tx a) = lev then (match F (a + 1) with
    | .inl f => .inl f
    | .inr (b, e2) => p_loop tx F lev r b (x_bin (tx a).toNatClampNeg e e2)) else .inr (a, e)
def p_most (lev : Nat) : Nat := if lev = 2 then 1 else 120
def p_lv (tx : Nat → Int32) (F : Nat → PR) : Nat → Nat → PR
  | 0, a => F a
  | k + 1, a => match p_lv tx F k a with
    | .inl f => .inl f
    | .inr (b, e) => p_loop tx (p_lv tx F k) (4 - k) (p_most (4 - k)) b e
def p_step (tx : Nat → Int32) (F : Nat → PR) (a : Nat) : PR := if tx a = 40 then (match p_lv tx F 5 (a + 1) with
      | .inl f => .inl f
      | .inr (b, e) => if tx b = 41 then .inr (b + 1, e) else .inl b)
    else if tx a = 33 then (match F (a + 1) with
      | .inl f => .inl f
      | .inr (b, e) => .inr (b, x_no e))
    else if tx a = 45 then (match F (a + 1) with
      | .inl f => .inl f
      | .inr (b, e) => .inr (b, x_neg e))
    else p_base tx a
def p_op (tx : Nat → Int32) : Nat → Nat → PR
  | 0 => p_base tx
  | q + 1 => p_step tx (p_op tx q)
/-- what a good reading keeps -/
def PRok (n a : Nat) (r : PR) : Prop := match r with
  | .inl f => f ≤ n
  | .inr (b, e) => a < b ∧ b ≤ n ∧ x_ok e ∧ (x_code e).length ≤ b - a
def TXok (n : Nat) (tx : Nat → Int32) : Prop := n ≤ 120 ∧ ∀ a, n ≤ a → tx a = 0
theorem p_clos_op {c : Int32} (h : p_clos c ≤ 4) : sp_isOp c.toNatClampNeg ∧ nI c.toNatClampNeg = c ∧ ¬ c = 0 := by
  unfold p_clos at h
  by_cases h1 : c = 124
  · subst h1; exact ⟨by unfold sp_isOp; decide, by decide, by decide⟩
  rw [if_neg h1] at h
  by_cases h2 : c = 38
  · subst h2; exact ⟨by unfold sp_isOp; decide, by decide, by decide⟩
  rw [if_neg h2] at h
  by_cases h3 : c = 60 ∨ c = 61 ∨ c = 62
  · rcases h3 with rfl | rfl | rfl <;> exact ⟨by unfold sp_isOp; decide, by decide, by decide⟩
  rw [if_neg h3] at h
  by_cases h4 : c = 43 ∨ c = 45
  · rcases h4 with rfl | rfl <;> exact ⟨by unfold sp_isOp; decide, by decide, by decide⟩
  rw [if_neg h4] at h
  by_cases h5 : c = 42 ∨ c = 47 ∨ c = 37
  · rcases h5 with rfl | rfl | rfl <;> exact ⟨by unfold sp_isOp; decide, by decide, by decide⟩
  rw [if_neg h5] at h
  omega
theorem p_isD_at {c : Int32} (h : p_isD c) : ∃ j : Nat, 48 ≤ j ∧ j ≤ 57 ∧ c = nI j := by
  have h0 : (0 : Int32) ≤ c := by
    have := h.1
    rw [Int32.le_iff_toInt_le] at this ⊢
    have e : (48 : Int32).toInt = 48 := rfl
    rw [Int32.toInt_zero]
    omega
  obtain ⟨j, hj, rfl⟩ := rng (n := 57) (by decide) ⟨h0, h.2⟩
  exact ⟨j, (nI_leI (a := 48) (by omega) (by omega)).mp h.1, hj, rfl⟩
theorem tx_lt {n : Nat} {tx : Nat → Int32} (h : TXok n tx) {a : Nat} (h0 : ¬ tx a = 0) : a < n := by
  rcases Nat.lt_or_ge a n with z | z
  · exact z
  · exact absurd (h.2 a z) h0
theorem p_isD_0 {c : Int32} (h : p_isD c) : ¬ c = 0 := fun e => absurd h (by rw [e]; decide)
theorem p_isN_0 {c : Int32} (h : p_isN c) : ¬ c = 0 := fun e => absurd h (by rw [e]; decide)
theorem p_dig_ok {n : Nat} {tx : Nat → Int32} (h : TXok n tx) : ∀ r a v, a ≤ n → a ≤ (p_dig tx r a v).1 ∧ (p_dig tx r a v).1 ≤ n ∧ (p_dig tx r a v).2 < (v + 1) * 10 ^ r := by
  intro r
  induction r with
  | zero => intro a v ha; exact ⟨Nat.le_refl _, ha, by rw [p_dig]; omega⟩
  | succ r ih =>
    intro a v ha
    rw [p_dig]
    by_cases hd : p_isD (tx a)
    · rw [if_pos hd]
      obtain ⟨j, h1, h2, e⟩ := p_isD_at hd
      have L := ih (a + 1) (v * 10 + ((tx a).toNatClampNeg - 48)) (tx_lt h (p_isD_0 hd))
      refine ⟨by omega, L.2.1, Nat.lt_of_lt_of_le L.2.2 ?_⟩
      rw [e, nI_clamp (by omega), Nat.pow_succ, Nat.mul_comm (10 ^ r) 10, ← Nat.mul_assoc]
      exact Nat.mul_le_mul_right _ (by omega)
    · rw [if_neg hd]
      refine ⟨Nat.le_refl _, ha, ?_⟩
      have : 0 < 10 ^ (r + 1) := Nat.pow_pos (by decide)
      exact Nat.lt_of_lt_of_le (Nat.lt_succ_self v) (Nat.le_mul_of_pos_right _ this)
theorem p_base_ok {n : Nat} {tx : Nat → Int32} (h : TXok n tx) (a : Nat) (ha : a ≤ n) : PRok n a (p_base tx a) := by
  unfold p_base
  by_cases hd : p_isD (tx a)
  · rw [if_pos hd]
    have L := p_dig_ok h 3 (a + 1) (0 * 10 + ((tx a).toNatClampNeg - 48)) (tx_lt h (p_isD_0 hd))
    have L2 := p_dig_ok h 4 a 0 ha
    have e : p_dig tx 4 a 0 = p_dig tx 3 (a + 1) (0 * 10 + ((tx a).toNatClampNeg - 48)) := by rw [p_dig, if_pos hd]
    refine ⟨by rw [e]; omega, L2.2.1, x_num_ok _ (by omega), ?_⟩
    show 1 ≤ (p_dig tx 4 a 0).1 - a
    rw [e]
    omega
  · rw [if_neg hd]
    by_cases hn : p_isN (tx a)
    · rw [if_pos hn]
      refine ⟨by omega, tx_lt h (p_isN_0 hn), x_nam_ok _ ?_, by show 1 ≤ a + 1 - a; omega⟩
      rcases hn with e | e | e | e <;> rw [e] <;> decide
    · rw [if_neg hn]
      exact ha
theorem PRok_mono {n a a' : Nat} {r : PR} (h : PRok n a r) (ha : a' ≤ a) : PRok n a' r := by
  unfold PRok at h ⊢
  split at h
  · exact h
  · exact ⟨by omega, h.2.1, h.2.2.1, by omega⟩
theorem p_loop_ok {n : Nat} {tx : Nat → Int32} (h : TXok n tx) {F : Nat → PR} {lev : Nat} (hl : lev ≤ 4) (hF : ∀ a, a ≤ n → PRok n a (F a)) (a0 : Nat) : ∀ r a e, PRok n a0 (.inr (a, e)) → PRok n a0 (p_loop tx F lev r a e) := by
  intro r
  induction r with
  | zero => intro a e ha; exact ha
  | succ r ih =>
    intro a e ha
    rw [p_loop]
    by_cases hc : p_clos (tx a) = lev
    · rw [if_pos hc]
      obtain ⟨o1, o2, o3⟩ := p_clos_op (c := tx a) (by omega)
      have hlt := tx_lt h o3
      have L := hF (a + 1) hlt
      split
      · next f e1 => rw [e1] at L; exact L
      · next b e2 e1 =>
        rw [e1] at L
        refine ih _ _ ⟨by have := L.1; have := ha.1; omega, L.2.1, x_bin_ok o1 ha.2.2.1 L.2.2.1, ?_⟩
        show (x_code e ++ (x_code e2 ++ [-nI (tx a).toNatClampNeg])).length ≤ _
        rw [List.length_append, List.length_append, List.length_singleton]
        have := L.2.2.2
        have := ha.2.2.2
        have := L.1
        have := ha.1
        omega
    · rw [if_neg hc]
      exact ha
theorem p_lv_ok {n : Nat} {tx : Nat → Int32} (h : TXok n tx) {F : Nat → PR} (hF : ∀ a, a ≤ n → PRok n a (F a)) : ∀ k a, a ≤ n → PRok n a (p_lv tx F k a) := by
  intro k
  induction k with
  | zero => intro a ha; exact hF a ha
  | succ k ih =>
    intro a ha
    rw [p_lv]
    have L := ih a ha
    split
    · next f e1 => rw [e1] at L; exact L
    · next b e e1 =>
      rw [e1] at L
      exact p_loop_ok h (by omega) ih a _ b e L
theorem p_op_ok {n : Nat} {tx : Nat → Int32} (h : TXok n tx) : ∀ q a, a ≤ n → PRok n a (p_op tx q a) := by
  intro q
  induction q with
  | zero => intro a ha; exact p_base_ok h a ha
  | succ q ih =>
    intro a ha
    rw [p_op, p_step]
    by_cases h1 : tx a = 40
    · rw [if_pos h1]
      have hlt := tx_lt h (show ¬ tx a = 0 by rw [h1]; decide)
      have L := p_lv_ok h ih 5 (a + 1) hlt
      split
      · next f e1 => rw [e1] at L; exact L
      · next b e e1 =>
        rw [e1] at L
        by_cases h2 : tx b = 41
        · rw [if_pos h2]
          have hlt2 := tx_lt h (show ¬ tx b = 0 by rw [h2]; decide)
          exact ⟨by have := L.1; omega, hlt2, L.2.2.1, by have := L.2.2.2; omega⟩
        · rw [if_neg h2]
          exact L.2.1
    · rw [if_neg h1]
      by_cases h2 : tx a = 33
      · rw [if_pos h2]
        have hlt := tx_lt h (show ¬ tx a = 0 by rw [h2]; decide)
        have L := ih (a + 1) hlt
        split
        · next f e1 => rw [e1] at L; exact L
        · next b e e1 =>
          rw [e1] at L
          refine ⟨by have := L.1; omega, L.2.1, x_no_ok L.2.2.1, ?_⟩
          show (x_code e ++ [-33]).length ≤ _
          rw [List.length_append, List.length_singleton]
          have := L.1
          have := L.2.2.2
          omega
      · rw [if_neg h2]
        by_cases h3 : tx a = 45
        · rw [if_pos h3]
          have hlt := tx_lt h (show ¬ tx a = 0 by rw [h3]; decide)
          have L := ih (a + 1) hlt
          split
          · next f e1 => rw [e1] at L; exact L
          · next b e e1 =>
            rw [e1] at L
            refine ⟨by have := L.1; omega, L.2.1, x_neg_ok L.2.2.1, ?_⟩
            show (x_code e ++ [-126]).length ≤ _
            rw [List.length_append, List.length_singleton]
            have := L.1
            have := L.2.2.2
            omega
        · rw [if_neg h3]
          exact p_base_ok h a ha
/-- lines and texts -/
abbrev Ln : Type := Option Ex × Ex
def p_E (tx : Nat → Int32) : Nat → PR := p_lv tx (p_op tx 6) 5
def p_line (tx : Nat → Int32) (a : Nat) : Nat ⊕ (Nat × Ln) := match p_E tx a with
  | .inl f => .inl f
  | .inr (b, e) => if tx b = 63 then (match p_E tx (b + 1) with
    | .inl f => .inl f
    | .inr (c, e2) => .inr (c, (some e, e2))) else .inr (b, (none, e))
def l_code (l : Ln) : List Int32 := match l with
  | (none, e) => x_code e
  | (some c, e) => x_code c ++ (-63 :: x_code e)
def l_ok (l : Ln) : Prop := match l with
  | (none, e) => x_ok e
  | (some c, e) => x_ok c ∧ x_ok e
abbrev Tx : Type := Ln × List Ln
def t_code : List Ln → List Int32
  | [] => []
  | l :: r => -59 :: (l_code l ++ t_code r)
def T_code (t : Tx) : List Int32 := l_code t.1 ++ t_code t.2
def T_ok (t : Tx) : Prop := l_ok t.1 ∧ ∀ l ∈ t.2, l_ok l
/-- further lines; then the end -/
def p_rest (tx : Nat → Int32) : Nat → Nat → Nat ⊕ (Nat × List Ln)
  | 0, a => .inr (a, [])
  | r + 1, a => if tx a = 59 then (match p_line tx (a + 1) with
    | .inl f => .inl f
    | .inr (b, l) => match p_rest tx r b with
      | .inl f => .inl f
      | .inr (c, ls) => .inr (c, l :: ls)) else .inr (a, [])
def p_text (tx : Nat → Int32) (n : Nat) : Nat ⊕ Tx := match p_line tx 0 with
  | .inl f => .inl f
  | .inr (a, l) => match p_rest tx 120 a with
    | .inl f => .inl f
    | .inr (b, ls) => if b < n then .inl b else .inr (l, ls)
def LNok (n a : Nat) (r : Nat ⊕ (Nat × Ln)) : Prop := match r with
  | .inl f => f ≤ n
  | .inr (b, l) => a < b ∧ b ≤ n ∧ l_ok l ∧ (l_code l).length ≤ b - a
theorem p_E_ok {n : Nat} {tx : Nat → Int32} (h : TXok n tx) : ∀ a, a ≤ n → PRok n a (p_E tx a) := p_lv_ok h (p_op_ok h 6) 5
theorem p_line_ok {n : Nat} {tx : Nat → Int32} (h : TXok n tx) (a : Nat) (ha : a ≤ n) : LNok n a (p_line tx a) := by
  have L := p_E_ok h a ha
  unfold p_line
  split
  · next f e1 => rw [e1] at L; exact L
  · next b e e1 =>
    rw [e1] at L
    by_cases h1 : tx b = 63
    · rw [if_pos h1]
      have hlt := tx_lt h (show ¬ tx b = 0 by rw [h1]; decide)
      have L2 := p_E_ok h (b + 1) hlt
      split
      · next f e2 => rw [e2] at L2; exact L2
      · next c e2 e3 =>
        rw [e3] at L2
        refine ⟨by have := L.1; have := L2.1; omega, L2.2.1, ⟨L.2.2.1, L2.2.2.1⟩, ?_⟩
        show (x_code e ++ (-63 :: x_code e2)).length ≤ _
        rw [List.length_append, List.length_cons]
        have := L.2.2.2
        have := L2.2.2.2
        have := L.1
        have := L2.1
        omega
    · rw [if_neg h1]
      exact L
def LRok (n a : Nat) (r : Nat ⊕ (Nat × List Ln)) : Prop := match r with
  | .inl f => f ≤ n
  | .inr (b, ls) => a ≤ b ∧ b ≤ n ∧ (∀ l ∈ ls, l_ok l) ∧ (t_code ls).length ≤ b - a
theorem p_rest_ok {n : Nat} {tx : Nat → Int32} (h : TXok n tx) : ∀ r a, a ≤ n → LRok n a (p_rest tx r a) := by
  intro r
  induction r with
  | zero => intro a ha; exact ⟨Nat.le_refl _, ha, (fun l hl => absurd hl List.not_mem_nil), Nat.zero_le _⟩
  | succ r ih =>
    intro a ha
    rw [p_rest]
    by_cases h1 : tx a = 59
    · rw [if_pos h1]
      have hlt := tx_lt h (show ¬ tx a = 0 by rw [h1]; decide)
      have L := p_line_ok h (a + 1) hlt
      split
      · next f e1 => rw [e1] at L; exact L
      · next b l e1 =>
        rw [e1] at L
        have L2 := ih b L.2.1
        split
        · next f e2 => rw [e2] at L2; exact L2
        · next c ls e2 =>
          rw [e2] at L2
          refine ⟨by have := L.1; have := L2.1; omega, L2.2.1, ?_, ?_⟩
          · intro l' hl
            rcases List.mem_cons.mp hl with rfl | hl
            · exact L.2.2.1
            · exact L2.2.2.1 l' hl
          · show (-59 :: (l_code l ++ t_code ls)).length ≤ _
            rw [List.length_cons, List.length_append]
            have := L.2.2.2
            have := L2.2.2.2
            have := L.1
            have := L2.1
            omega
    · rw [if_neg h1]
      exact ⟨Nat.le_refl _, ha, (fun l hl => absurd hl List.not_mem_nil), Nat.zero_le _⟩
