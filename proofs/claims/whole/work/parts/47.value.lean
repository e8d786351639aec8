/-! what a text gives -/
def T_val (v : Nat → Int32) : List Ln → Int32
  | [] => 0
  | (none, e) :: _ => e.2 v
  | (some c, e) :: r => if c.2 v = 0 then T_val v r else e.2 v
section TV
variable {cd : Nat → Int32} {y k w p : Int32}
theorem wk_skip : ∀ (L : List Int32) (r at_ top : Nat) (stk : Nat → Int32), x_at cd at_ L → (∀ c ∈ L, ¬ c = -59) → sp_wk cd y k w p (r + L.length) at_ top true stk = sp_wk cd y k w p r (at_ + L.length) top true stk
  | [], r, at_, top, stk, _, _ => rfl
  | c :: L, r, at_, top, stk, ha, h => by
    rw [List.length_cons, show r + (L.length + 1) = r + L.length + 1 by omega, sp_wk, if_pos rfl, ha.1, show decide (¬ c = -59) = true from decide_eq_true (h c List.mem_cons_self), wk_skip L r (at_ + 1) top stk ha.2 (fun c hc => h c (List.mem_cons_of_mem _ hc)), show at_ + 1 + L.length = at_ + (L.length + 1) by omega]
theorem wk_end (ls : List Ln) (at_ : Nat) (stk : Nat → Int32) (h : x_at cd at_ (t_code ls)) : (sp_wk cd y k w p (t_code ls).length at_ 1 false stk).1 = stk 0 := by
  cases ls with
  | nil => rfl
  | cons l r =>
    have e : cd at_ = -59 := h.1
    show (sp_wk cd y k w p ((l_code l ++ t_code r).length + 1) at_ 1 false stk).1 = stk 0
    rw [sp_wk, if_neg (show ¬ (false = true) by decide), if_pos e]
    rfl
theorem wk_text : ∀ (ls : List Ln) (l : Ln) (at_ : Nat) (stk : Nat → Int32), l_ok l → (∀ q ∈ ls, l_ok q) → x_at cd at_ (l_code l ++ t_code ls) → (l_code l ++ t_code ls).length ≤ 120 → (sp_wk cd y k w p (l_code l ++ t_code ls).length at_ 0 false stk).1 = T_val (x_env y k w p) (l :: ls) := by
  intro ls
  induction ls with
  | nil =>
    intro l at_ stk hl hls ha hn
    obtain ⟨a1, a2⟩ := x_at_app _ ha
    rw [List.length_append] at hn ⊢
    obtain ⟨o, e⟩ := l
    cases o with
    | none =>
      obtain ⟨s1, q1, q2, q3⟩ := hl.2 cd y k w p (t_code []).length at_ 0 stk a1 (by have : (l_code (none, e)).length = e.1.length := rfl; omega)
      rw [Nat.add_comm]
      exact (congrArg Prod.fst q3).trans ((wk_end [] _ s1 a2).trans q2)
    | some c =>
      obtain ⟨b1, b2⟩ := x_at_app c.1 a1
      have hlen : (l_code (some c, e)).length = c.1.length + (e.1.length + 1) := by show (c.1 ++ (-63 :: e.1)).length = _; rw [List.length_append, List.length_cons]
      rw [hlen] at hn ⊢
      obtain ⟨s1, q1, q2, q3⟩ := hl.1.2 cd y k w p ((t_code []).length + e.1.length + 1) at_ 0 stk b1 (by omega)
      rw [show c.1.length + (e.1.length + 1) + (t_code []).length = (t_code []).length + e.1.length + 1 + c.1.length by omega, q3, sp_wk, if_neg (show ¬ (false = true) by decide), b2.1, if_neg (by decide), if_pos rfl, show sp_rt (0 + 1) s1 = s1 0 from rfl, q2]
      by_cases hz : c.2 (x_env y k w p) = 0
      · rw [show decide (c.2 (x_env y k w p) = 0) = true from decide_eq_true hz, wk_skip e.1 _ _ _ _ b2.2 (fun q hq => (hl.2.1 q hq).2)]
        show (0 : Int32) = if c.2 (x_env y k w p) = 0 then T_val (x_env y k w p) [] else _
        rw [if_pos hz]
        rfl
      · rw [show decide (c.2 (x_env y k w p) = 0) = false from decide_eq_false hz]
        obtain ⟨s2, u1, u2, u3⟩ := hl.2.2 cd y k w p (t_code []).length (at_ + c.1.length + 1) 0 s1 b2.2 (by omega)
        rw [u3]
        show _ = if c.2 (x_env y k w p) = 0 then _ else _
        rw [if_neg hz]
        exact (wk_end [] _ s2 trivial).trans u2
  | cons l2 ls ih =>
    intro l at_ stk hl hls ha hn
    obtain ⟨a1, a2⟩ := x_at_app _ ha
    rw [List.length_append] at hn ⊢
    obtain ⟨o, e⟩ := l
    cases o with
    | none =>
      obtain ⟨s1, q1, q2, q3⟩ := hl.2 cd y k w p (t_code (l2 :: ls)).length at_ 0 stk a1 (by have : (l_code (none, e)).length = e.1.length := rfl; omega)
      rw [Nat.add_comm]
      exact (congrArg Prod.fst q3).trans ((wk_end (l2 :: ls) _ s1 a2).trans q2)
    | some c =>
      obtain ⟨b1, b2⟩ := x_at_app c.1 a1
      have hlen : (l_code (some c, e)).length = c.1.length + (e.1.length + 1) := by show (c.1 ++ (-63 :: e.1)).length = _; rw [List.length_append, List.length_cons]
      rw [hlen] at hn a2 ⊢
      obtain ⟨s1, q1, q2, q3⟩ := hl.1.2 cd y k w p ((t_code (l2 :: ls)).length + e.1.length + 1) at_ 0 stk b1 (by omega)
      rw [show c.1.length + (e.1.length + 1) + (t_code (l2 :: ls)).length = (t_code (l2 :: ls)).length + e.1.length + 1 + c.1.length by omega, q3, sp_wk, if_neg (show ¬ (false = true) by decide), b2.1, if_neg (by decide), if_pos rfl, show sp_rt (0 + 1) s1 = s1 0 from rfl, q2]
      have a2 : x_at cd (at_ + c.1.length + 1 + e.1.length) (-59 :: (l_code l2 ++ t_code ls)) := by
        rw [show at_ + c.1.length + 1 + e.1.length = at_ + (c.1.length + (e.1.length + 1)) by omega]
        exact a2
      by_cases hz : c.2 (x_env y k w p) = 0
      · rw [show decide (c.2 (x_env y k w p) = 0) = true from decide_eq_true hz, wk_skip e.1 _ _ _ _ b2.2 (fun q hq => (hl.2.1 q hq).2)]
        show (sp_wk cd y k w p ((l_code l2 ++ t_code ls).length + 1) (at_ + c.1.length + 1 + e.1.length) 0 true s1).1 = if c.2 (x_env y k w p) = 0 then T_val (x_env y k w p) (l2 :: ls) else _
        rw [if_pos hz, sp_wk, if_pos rfl, a2.1]
        exact ih l2 _ s1 (hls l2 List.mem_cons_self) (fun q hq => hls q (List.mem_cons_of_mem _ hq)) a2.2 (by
          have : (t_code (l2 :: ls)).length = (l_code l2 ++ t_code ls).length + 1 := rfl
          omega)
      · rw [show decide (c.2 (x_env y k w p) = 0) = false from decide_eq_false hz]
        obtain ⟨s2, u1, u2, u3⟩ := hl.2.2 cd y k w p (t_code (l2 :: ls)).length (at_ + c.1.length + 1) 0 s1 b2.2 (by omega)
        rw [u3]
        show _ = if c.2 (x_env y k w p) = 0 then _ else _
        rw [if_neg hz]
        exact (wk_end (l2 :: ls) _ s2 a2).trans u2
end TV
theorem x_at_mem {cd : Nat → Int32} : ∀ (L : List Int32) (a j : Nat), x_at cd a L → a ≤ j → j < a + L.length → cd j ∈ L
  | [], a, j, _, h1, h2 => absurd h2 (by rw [List.length_nil]; omega)
  | c :: L, a, j, h, h1, h2 => by
    rw [List.length_cons] at h2
    by_cases e : j = a
    · subst e
      rw [h.1]
      exact List.mem_cons_self
    · exact List.mem_cons_of_mem _ (x_at_mem L (a + 1) j h.2 (by omega) (by omega))
theorem l_cok {l : Ln} (h : l_ok l) : ∀ c ∈ l_code l, sp_cok c := by
  obtain ⟨o, e⟩ := l
  cases o with
  | none => exact fun c hc => (h.1 c hc).1
  | some c =>
    intro q hq
    rcases List.mem_append.mp hq with z | z
    · exact (h.1.1 q z).1
    · rcases List.mem_cons.mp z with rfl | z
      · exact Or.inr (Or.inr (Or.inl rfl))
      · exact (h.2.1 q z).1
theorem t_cok : ∀ {ls : List Ln}, (∀ l ∈ ls, l_ok l) → ∀ c ∈ t_code ls, sp_cok c
  | [], _, c, hc => absurd hc List.not_mem_nil
  | l :: r, h, c, hc => by
    rcases List.mem_cons.mp hc with rfl | z
    · exact Or.inr (Or.inl rfl)
    · rcases List.mem_append.mp z with z | z
      · exact l_cok (h l List.mem_cons_self) c z
      · exact t_cok (fun q hq => h q (List.mem_cons_of_mem _ hq)) c z
theorem l_code_pos (l : Ln) (h : l_ok l) (hl : ∀ e : Ex, x_ok e → 0 < e.1.length) : 0 < (l_code l).length := by
  obtain ⟨o, e⟩ := l
  cases o with
  | none => exact hl e h
  | some c =>
    show 0 < (c.1 ++ (-63 :: e.1)).length
    rw [List.length_append, List.length_cons]
    omega
/-- a law as the class keeps it -/
def lawAt (x : XS) (a : Nat) (T : Option Tx) : Prop := match T with
  | none => xW_sizes x a = 0
  | some t => T_ok t ∧ xW_sizes x a = nI (T_code t).length ∧ 1 ≤ (T_code t).length ∧ (T_code t).length ≤ 120 ∧ x_at (xW_code x) (a * 120) (T_code t)
def lawV (T : Option Tx) (k y w p : Int32) : Int32 := match T with
  | none => 50
  | some t => T_val (x_env y k w p) (t.1 :: t.2)
theorem c_L_law {N : Nat} {sc : Nat × (Nat → Int32)} {x : XS} {m : OS} {tl : MH} (a : Nat) (ha : a < 6) (T : Option Tx) (hT : lawAt x a T) (k y w p : Int32) : ∃ stk, MC M_L_worth 2 0 0 [.ref 11, .int (nI a), .int k, .int y, .int w, .int p] (heapN N sc x m tl) (some (.int (lawV T k y w p))) (heapN N sc (xW_stack_s x stk) m tl) := by
  cases T with
  | none => exact ⟨xW_stack x, c_L_worth0 a ha hT k y w p⟩
  | some t =>
    obtain ⟨h1, h2, h3, h4, h5⟩ := hT
    refine ⟨(sp_wk (xW_code x) y k w p (T_code t).length (a * 120) 0 false (xW_stack x)).2, ?_⟩
    have e : lawV (some t) k y w p = (sp_wk (xW_code x) y k w p (T_code t).length (a * 120) 0 false (xW_stack x)).1 := (wk_text t.2 t.1 (a * 120) (xW_stack x) h1.1 h1.2 h5 h4).symm
    rw [e]
    refine c_L_worth a (T_code t).length ha h2 h3 h4 (fun j q1 q2 => ?_) k y w p
    rcases List.mem_append.mp (x_at_mem _ _ j h5 q1 q2) with z | z
    · exact l_cok h1.1 _ z
    · exact t_cok h1.2 _ z
