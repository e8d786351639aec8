/-! first contracts -/
def bI (p : Prop) [Decidable p] : Int32 := if p then 1 else 0
theorem bI_0 {p : Prop} [Decidable p] : bI p = 0 ↔ ¬ p := by
  unfold bI
  by_cases h : p
  · rw [if_pos h]; exact ⟨fun e => absurd e (by decide), fun e => absurd h e⟩
  · rw [if_neg h]; exact ⟨fun _ => h, fun _ => rfl⟩
theorem bI_t {p : Prop} [Decidable p] (h : p) : bI p = 1 := if_pos h
theorem bI_f {p : Prop} [Decidable p] (h : ¬ p) : bI p = 0 := if_neg h
theorem bI_nar {p : Prop} [Decidable p] : narrow .boolean (.int (bI p)) = .int (bI p) := by
  unfold bI
  split <;> rfl
theorem mw_r1 {M : MD} {d mc ms : Nat} {v : Option Value} {hT : MH} {cells slots pc : Nat} {l : ML} {h : MH} {x : Value} (hr : m_ret M pc (some x) = true) (hb : m_bool M (some x)) (hc : cells ≤ mc) (hs : slots ≤ ms) (hv : v = some x) (hh : hT = h) : MW M d mc ms v hT cells slots pc l [x] h := by
  subst hv
  subst hh
  exact mw_ret hr hb hc hs
theorem mw_r0 {M : MD} {d mc ms : Nat} {v : Option Value} {hT : MH} {cells slots pc : Nat} {l : ML} {h : MH} (hr : m_ret M pc none = true) (hc : cells ≤ mc) (hs : slots ≤ ms) (hv : v = none) (hh : hT = h) : MW M d mc ms v hT cells slots pc l [] h := by
  subst hv
  subst hh
  exact mw_ret hr (by unfold m_bool; split <;> first | trivial | contradiction) hc hs
theorem c_within (h : MH) (x lo hi : Int32) : MC M_C_within 0 0 0 [.int x, .int lo, .int hi] h (some (.int (bI (lo ≤ x ∧ x ≤ hi)))) h := by
  refine mc_of k1_C_within k2_C_within (Nat.le_of_ble_eq_true rfl) ?_
  repeat (refine mw_step rfl ?_)
  refine mw_br rfl (fun h1 => ?_) (fun h1 => ?_)
  · repeat (refine mw_step rfl ?_)
    exact mw_r1 rfl rfl (Nat.le_refl _) (Nat.le_refl _) (by rw [bI_f]; intro z; exact m_nlt z.1 h1) rfl
  · repeat (refine mw_step rfl ?_)
    refine mw_br rfl (fun h2 => ?_) (fun h2 => ?_)
    · repeat (refine mw_step rfl ?_)
      exact mw_r1 rfl rfl (Nat.le_refl _) (Nat.le_refl _) (by rw [bI_f]; intro z; exact m_nlt z.2 h2) rfl
    · repeat (refine mw_step rfl ?_)
      exact mw_r1 rfl rfl (Nat.le_refl _) (Nat.le_refl _) (by rw [bI_t]; exact ⟨Int32.not_lt.mp h1, Int32.not_lt.mp h2⟩) rfl
