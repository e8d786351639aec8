/-! the world -/
abbrev xTS : Type := (Nat → Int32) × (Nat → Int32) × (Nat → Int32) × (Nat → Int32) × Int32 × Int32
abbrev xWS : Type := (Nat → Int32) × (Nat → Int32) × (Nat → Int32)
abbrev xRS : Type := (Nat → Int32) × Int32 × (Nat → Int32) × Int32 × Int32 × Int32
abbrev xSS : Type := (Nat → Int64) × (Nat → Int64) × (Nat → Int64) × (Nat → Int64)
abbrev xPS : Type := (Nat → Int32) × (Nat → Int32) × (Nat → Int32) × Int32
abbrev xBS : Type := (Nat → Int32) × Int32 × (Nat → Int32) × Int32
abbrev xHS : Type := (Nat → Int32) × (Nat → Int32) × (Nat → Int32) × (Nat → Int64)
abbrev xCS : Type := (Nat → Int32) × (Nat → Int32) × (Nat → Int32) × Int32 × Int32
abbrev XS : Type := xTS × xWS × xRS × xSS × xPS × xBS × xHS × xCS
abbrev xT_now (x : XS) : (Nat → Int32) := x.1.1
abbrev xT_cells (x : XS) : (Nat → Int32) := x.1.2.1
abbrev xT_before (x : XS) : (Nat → Int32) := x.1.2.2.1
abbrev xT_after (x : XS) : (Nat → Int32) := x.1.2.2.2.1
abbrev xT_done (x : XS) : Int32 := x.1.2.2.2.2.1
abbrev xT_kept (x : XS) : Int32 := x.1.2.2.2.2.2
abbrev xT_s (x : XS) (v : xTS) : XS := (v, x.2.1, x.2.2.1, x.2.2.2.1, x.2.2.2.2.1, x.2.2.2.2.2.1, x.2.2.2.2.2.2.1, x.2.2.2.2.2.2.2)
abbrev xT_now_s (x : XS) (v : (Nat → Int32)) : XS := ((v, x.1.2.1, x.1.2.2.1, x.1.2.2.2.1, x.1.2.2.2.2.1, x.1.2.2.2.2.2), x.2.1, x.2.2.1, x.2.2.2.1, x.2.2.2.2.1, x.2.2.2.2.2.1, x.2.2.2.2.2.2.1, x.2.2.2.2.2.2.2)
abbrev xT_cells_s (x : XS) (v : (Nat → Int32)) : XS := ((x.1.1, v, x.1.2.2.1, x.1.2.2.2.1, x.1.2.2.2.2.1, x.1.2.2.2.2.2), x.2.1, x.2.2.1, x.2.2.2.1, x.2.2.2.2.1, x.2.2.2.2.2.1, x.2.2.2.2.2.2.1, x.2.2.2.2.2.2.2)
abbrev xT_before_s (x : XS) (v : (Nat → Int32)) : XS := ((x.1.1, x.1.2.1, v, x.1.2.2.2.1, x.1.2.2.2.2.1, x.1.2.2.2.2.2), x.2.1, x.2.2.1, x.2.2.2.1, x.2.2.2.2.1, x.2.2.2.2.2.1, x.2.2.2.2.2.2.1, x.2.2.2.2.2.2.2)
abbrev xT_after_s (x : XS) (v : (Nat → Int32)) : XS := ((x.1.1, x.1.2.1, x.1.2.2.1, v, x.1.2.2.2.2.1, x.1.2.2.2.2.2), x.2.1, x.2.2.1, x.2.2.2.1, x.2.2.2.2.1, x.2.2.2.2.2.1, x.2.2.2.2.2.2.1, x.2.2.2.2.2.2.2)
abbrev xT_done_s (x : XS) (v : Int32) : XS := ((x.1.1, x.1.2.1, x.1.2.2.1, x.1.2.2.2.1, v, x.1.2.2.2.2.2), x.2.1, x.2.2.1, x.2.2.2.1, x.2.2.2.2.1, x.2.2.2.2.2.1, x.2.2.2.2.2.2.1, x.2.2.2.2.2.2.2)
abbrev xT_kept_s (x : XS) (v : Int32) : XS := ((x.1.1, x.1.2.1, x.1.2.2.1, x.1.2.2.2.1, x.1.2.2.2.2.1, v), x.2.1, x.2.2.1, x.2.2.2.1, x.2.2.2.2.1, x.2.2.2.2.2.1, x.2.2.2.2.2.2.1, x.2.2.2.2.2.2.2)
abbrev xW_code (x : XS) : (Nat → Int32) := x.2.1.1
abbrev xW_sizes (x : XS) : (Nat → Int32) := x.2.1.2.1
abbrev xW_stack (x : XS) : (Nat → Int32) := x.2.1.2.2
abbrev xW_s (x : XS) (v : xWS) : XS := (x.1, v, x.2.2.1, x.2.2.2.1, x.2.2.2.2.1, x.2.2.2.2.2.1, x.2.2.2.2.2.2.1, x.2.2.2.2.2.2.2)
abbrev xW_code_s (x : XS) (v : (Nat → Int32)) : XS := (x.1, (v, x.2.1.2.1, x.2.1.2.2), x.2.2.1, x.2.2.2.1, x.2.2.2.2.1, x.2.2.2.2.2.1, x.2.2.2.2.2.2.1, x.2.2.2.2.2.2.2)
abbrev xW_sizes_s (x : XS) (v : (Nat → Int32)) : XS := (x.1, (x.2.1.1, v, x.2.1.2.2), x.2.2.1, x.2.2.2.1, x.2.2.2.2.1, x.2.2.2.2.2.1, x.2.2.2.2.2.2.1, x.2.2.2.2.2.2.2)
abbrev xW_stack_s (x : XS) (v : (Nat → Int32)) : XS := (x.1, (x.2.1.1, x.2.1.2.1, v), x.2.2.1, x.2.2.2.1, x.2.2.2.2.1, x.2.2.2.2.2.1, x.2.2.2.2.2.2.1, x.2.2.2.2.2.2.2)
abbrev xR_tape (x : XS) : (Nat → Int32) := x.2.2.1.1
abbrev xR_len (x : XS) : Int32 := x.2.2.1.2.1
abbrev xR_code (x : XS) : (Nat → Int32) := x.2.2.1.2.2.1
abbrev xR_size (x : XS) : Int32 := x.2.2.1.2.2.2.1
abbrev xR_at (x : XS) : Int32 := x.2.2.1.2.2.2.2.1
abbrev xR_fault (x : XS) : Int32 := x.2.2.1.2.2.2.2.2
abbrev xR_s (x : XS) (v : xRS) : XS := (x.1, x.2.1, v, x.2.2.2.1, x.2.2.2.2.1, x.2.2.2.2.2.1, x.2.2.2.2.2.2.1, x.2.2.2.2.2.2.2)
abbrev xR_tape_s (x : XS) (v : (Nat → Int32)) : XS := (x.1, x.2.1, (v, x.2.2.1.2.1, x.2.2.1.2.2.1, x.2.2.1.2.2.2.1, x.2.2.1.2.2.2.2.1, x.2.2.1.2.2.2.2.2), x.2.2.2.1, x.2.2.2.2.1, x.2.2.2.2.2.1, x.2.2.2.2.2.2.1, x.2.2.2.2.2.2.2)
abbrev xR_len_s (x : XS) (v : Int32) : XS := (x.1, x.2.1, (x.2.2.1.1, v, x.2.2.1.2.2.1, x.2.2.1.2.2.2.1, x.2.2.1.2.2.2.2.1, x.2.2.1.2.2.2.2.2), x.2.2.2.1, x.2.2.2.2.1, x.2.2.2.2.2.1, x.2.2.2.2.2.2.1, x.2.2.2.2.2.2.2)
abbrev xR_code_s (x : XS) (v : (Nat → Int32)) : XS := (x.1, x.2.1, (x.2.2.1.1, x.2.2.1.2.1, v, x.2.2.1.2.2.2.1, x.2.2.1.2.2.2.2.1, x.2.2.1.2.2.2.2.2), x.2.2.2.1, x.2.2.2.2.1, x.2.2.2.2.2.1, x.2.2.2.2.2.2.1, x.2.2.2.2.2.2.2)
abbrev xR_size_s (x : XS) (v : Int32) : XS := (x.1, x.2.1, (x.2.2.1.1, x.2.2.1.2.1, x.2.2.1.2.2.1, v, x.2.2.1.2.2.2.2.1, x.2.2.1.2.2.2.2.2), x.2.2.2.1, x.2.2.2.2.1, x.2.2.2.2.2.1, x.2.2.2.2.2.2.1, x.2.2.2.2.2.2.2)
abbrev xR_at_s (x : XS) (v : Int32) : XS := (x.1, x.2.1, (x.2.2.1.1, x.2.2.1.2.1, x.2.2.1.2.2.1, x.2.2.1.2.2.2.1, v, x.2.2.1.2.2.2.2.2), x.2.2.2.1, x.2.2.2.2.1, x.2.2.2.2.2.1, x.2.2.2.2.2.2.1, x.2.2.2.2.2.2.2)
abbrev xR_fault_s (x : XS) (v : Int32) : XS := (x.1, x.2.1, (x.2.2.1.1, x.2.2.1.2.1, x.2.2.1.2.2.1, x.2.2.1.2.2.2.1, x.2.2.1.2.2.2.2.1, v), x.2.2.2.1, x.2.2.2.2.1, x.2.2.2.2.2.1, x.2.2.2.2.2.2.1, x.2.2.2.2.2.2.2)
abbrev xS_sums (x : XS) : (Nat → Int64) := x.2.2.2.1.1
abbrev xS_ways (x : XS) : (Nat → Int64) := x.2.2.2.1.2.1
abbrev xS_merged (x : XS) : (Nat → Int64) := x.2.2.2.1.2.2.1
abbrev xS_prod (x : XS) : (Nat → Int64) := x.2.2.2.1.2.2.2
abbrev xS_s (x : XS) (v : xSS) : XS := (x.1, x.2.1, x.2.2.1, v, x.2.2.2.2.1, x.2.2.2.2.2.1, x.2.2.2.2.2.2.1, x.2.2.2.2.2.2.2)
abbrev xS_sums_s (x : XS) (v : (Nat → Int64)) : XS := (x.1, x.2.1, x.2.2.1, (v, x.2.2.2.1.2.1, x.2.2.2.1.2.2.1, x.2.2.2.1.2.2.2), x.2.2.2.2.1, x.2.2.2.2.2.1, x.2.2.2.2.2.2.1, x.2.2.2.2.2.2.2)
abbrev xS_ways_s (x : XS) (v : (Nat → Int64)) : XS := (x.1, x.2.1, x.2.2.1, (x.2.2.2.1.1, v, x.2.2.2.1.2.2.1, x.2.2.2.1.2.2.2), x.2.2.2.2.1, x.2.2.2.2.2.1, x.2.2.2.2.2.2.1, x.2.2.2.2.2.2.2)
abbrev xS_merged_s (x : XS) (v : (Nat → Int64)) : XS := (x.1, x.2.1, x.2.2.1, (x.2.2.2.1.1, x.2.2.2.1.2.1, v, x.2.2.2.1.2.2.2), x.2.2.2.2.1, x.2.2.2.2.2.1, x.2.2.2.2.2.2.1, x.2.2.2.2.2.2.2)
abbrev xS_prod_s (x : XS) (v : (Nat → Int64)) : XS := (x.1, x.2.1, x.2.2.1, (x.2.2.2.1.1, x.2.2.2.1.2.1, x.2.2.2.1.2.2.1, v), x.2.2.2.2.1, x.2.2.2.2.2.1, x.2.2.2.2.2.2.1, x.2.2.2.2.2.2.2)
abbrev xP_from (x : XS) : (Nat → Int32) := x.2.2.2.2.1.1
abbrev xP_to (x : XS) : (Nat → Int32) := x.2.2.2.2.1.2.1
abbrev xP_houses (x : XS) : (Nat → Int32) := x.2.2.2.2.1.2.2.1
abbrev xP_many (x : XS) : Int32 := x.2.2.2.2.1.2.2.2
abbrev xP_s (x : XS) (v : xPS) : XS := (x.1, x.2.1, x.2.2.1, x.2.2.2.1, v, x.2.2.2.2.2.1, x.2.2.2.2.2.2.1, x.2.2.2.2.2.2.2)
abbrev xP_from_s (x : XS) (v : (Nat → Int32)) : XS := (x.1, x.2.1, x.2.2.1, x.2.2.2.1, (v, x.2.2.2.2.1.2.1, x.2.2.2.2.1.2.2.1, x.2.2.2.2.1.2.2.2), x.2.2.2.2.2.1, x.2.2.2.2.2.2.1, x.2.2.2.2.2.2.2)
abbrev xP_to_s (x : XS) (v : (Nat → Int32)) : XS := (x.1, x.2.1, x.2.2.1, x.2.2.2.1, (x.2.2.2.2.1.1, v, x.2.2.2.2.1.2.2.1, x.2.2.2.2.1.2.2.2), x.2.2.2.2.2.1, x.2.2.2.2.2.2.1, x.2.2.2.2.2.2.2)
abbrev xP_houses_s (x : XS) (v : (Nat → Int32)) : XS := (x.1, x.2.1, x.2.2.1, x.2.2.2.1, (x.2.2.2.2.1.1, x.2.2.2.2.1.2.1, v, x.2.2.2.2.1.2.2.2), x.2.2.2.2.2.1, x.2.2.2.2.2.2.1, x.2.2.2.2.2.2.2)
abbrev xP_many_s (x : XS) (v : Int32) : XS := (x.1, x.2.1, x.2.2.1, x.2.2.2.1, (x.2.2.2.2.1.1, x.2.2.2.2.1.2.1, x.2.2.2.2.1.2.2.1, v), x.2.2.2.2.2.1, x.2.2.2.2.2.2.1, x.2.2.2.2.2.2.2)
abbrev xB_kinds (x : XS) : (Nat → Int32) := x.2.2.2.2.2.1.1
abbrev xB_many (x : XS) : Int32 := x.2.2.2.2.2.1.2.1
abbrev xB_ran (x : XS) : (Nat → Int32) := x.2.2.2.2.2.1.2.2.1
abbrev xB_runs (x : XS) : Int32 := x.2.2.2.2.2.1.2.2.2
abbrev xB_s (x : XS) (v : xBS) : XS := (x.1, x.2.1, x.2.2.1, x.2.2.2.1, x.2.2.2.2.1, v, x.2.2.2.2.2.2.1, x.2.2.2.2.2.2.2)
abbrev xB_kinds_s (x : XS) (v : (Nat → Int32)) : XS := (x.1, x.2.1, x.2.2.1, x.2.2.2.1, x.2.2.2.2.1, (v, x.2.2.2.2.2.1.2.1, x.2.2.2.2.2.1.2.2.1, x.2.2.2.2.2.1.2.2.2), x.2.2.2.2.2.2.1, x.2.2.2.2.2.2.2)
abbrev xB_many_s (x : XS) (v : Int32) : XS := (x.1, x.2.1, x.2.2.1, x.2.2.2.1, x.2.2.2.2.1, (x.2.2.2.2.2.1.1, v, x.2.2.2.2.2.1.2.2.1, x.2.2.2.2.2.1.2.2.2), x.2.2.2.2.2.2.1, x.2.2.2.2.2.2.2)
abbrev xB_ran_s (x : XS) (v : (Nat → Int32)) : XS := (x.1, x.2.1, x.2.2.1, x.2.2.2.1, x.2.2.2.2.1, (x.2.2.2.2.2.1.1, x.2.2.2.2.2.1.2.1, v, x.2.2.2.2.2.1.2.2.2), x.2.2.2.2.2.2.1, x.2.2.2.2.2.2.2)
abbrev xB_runs_s (x : XS) (v : Int32) : XS := (x.1, x.2.1, x.2.2.1, x.2.2.2.1, x.2.2.2.2.1, (x.2.2.2.2.2.1.1, x.2.2.2.2.2.1.2.1, x.2.2.2.2.2.1.2.2.1, v), x.2.2.2.2.2.2.1, x.2.2.2.2.2.2.2)
abbrev xH_sorts (x : XS) : (Nat → Int32) := x.2.2.2.2.2.2.1.1
abbrev xH_held (x : XS) : (Nat → Int32) := x.2.2.2.2.2.2.1.2.1
abbrev xH_lens (x : XS) : (Nat → Int32) := x.2.2.2.2.2.2.1.2.2.1
abbrev xH_cells (x : XS) : (Nat → Int64) := x.2.2.2.2.2.2.1.2.2.2
abbrev xH_s (x : XS) (v : xHS) : XS := (x.1, x.2.1, x.2.2.1, x.2.2.2.1, x.2.2.2.2.1, x.2.2.2.2.2.1, v, x.2.2.2.2.2.2.2)
abbrev xH_sorts_s (x : XS) (v : (Nat → Int32)) : XS := (x.1, x.2.1, x.2.2.1, x.2.2.2.1, x.2.2.2.2.1, x.2.2.2.2.2.1, (v, x.2.2.2.2.2.2.1.2.1, x.2.2.2.2.2.2.1.2.2.1, x.2.2.2.2.2.2.1.2.2.2), x.2.2.2.2.2.2.2)
abbrev xH_held_s (x : XS) (v : (Nat → Int32)) : XS := (x.1, x.2.1, x.2.2.1, x.2.2.2.1, x.2.2.2.2.1, x.2.2.2.2.2.1, (x.2.2.2.2.2.2.1.1, v, x.2.2.2.2.2.2.1.2.2.1, x.2.2.2.2.2.2.1.2.2.2), x.2.2.2.2.2.2.2)
abbrev xH_lens_s (x : XS) (v : (Nat → Int32)) : XS := (x.1, x.2.1, x.2.2.1, x.2.2.2.1, x.2.2.2.2.1, x.2.2.2.2.2.1, (x.2.2.2.2.2.2.1.1, x.2.2.2.2.2.2.1.2.1, v, x.2.2.2.2.2.2.1.2.2.2), x.2.2.2.2.2.2.2)
abbrev xH_cells_s (x : XS) (v : (Nat → Int64)) : XS := (x.1, x.2.1, x.2.2.1, x.2.2.2.1, x.2.2.2.2.1, x.2.2.2.2.2.1, (x.2.2.2.2.2.2.1.1, x.2.2.2.2.2.2.1.2.1, x.2.2.2.2.2.2.1.2.2.1, v), x.2.2.2.2.2.2.2)
abbrev xC_whens (x : XS) : (Nat → Int32) := x.2.2.2.2.2.2.2.1
abbrev xC_kl (x : XS) : (Nat → Int32) := x.2.2.2.2.2.2.2.2.1
abbrev xC_kt (x : XS) : (Nat → Int32) := x.2.2.2.2.2.2.2.2.2.1
abbrev xC_kc (x : XS) : Int32 := x.2.2.2.2.2.2.2.2.2.2.1
abbrev xC_has (x : XS) : Int32 := x.2.2.2.2.2.2.2.2.2.2.2
abbrev xC_s (x : XS) (v : xCS) : XS := (x.1, x.2.1, x.2.2.1, x.2.2.2.1, x.2.2.2.2.1, x.2.2.2.2.2.1, x.2.2.2.2.2.2.1, v)
abbrev xC_whens_s (x : XS) (v : (Nat → Int32)) : XS := (x.1, x.2.1, x.2.2.1, x.2.2.2.1, x.2.2.2.2.1, x.2.2.2.2.2.1, x.2.2.2.2.2.2.1, (v, x.2.2.2.2.2.2.2.2.1, x.2.2.2.2.2.2.2.2.2.1, x.2.2.2.2.2.2.2.2.2.2.1, x.2.2.2.2.2.2.2.2.2.2.2))
abbrev xC_kl_s (x : XS) (v : (Nat → Int32)) : XS := (x.1, x.2.1, x.2.2.1, x.2.2.2.1, x.2.2.2.2.1, x.2.2.2.2.2.1, x.2.2.2.2.2.2.1, (x.2.2.2.2.2.2.2.1, v, x.2.2.2.2.2.2.2.2.2.1, x.2.2.2.2.2.2.2.2.2.2.1, x.2.2.2.2.2.2.2.2.2.2.2))
abbrev xC_kt_s (x : XS) (v : (Nat → Int32)) : XS := (x.1, x.2.1, x.2.2.1, x.2.2.2.1, x.2.2.2.2.1, x.2.2.2.2.2.1, x.2.2.2.2.2.2.1, (x.2.2.2.2.2.2.2.1, x.2.2.2.2.2.2.2.2.1, v, x.2.2.2.2.2.2.2.2.2.2.1, x.2.2.2.2.2.2.2.2.2.2.2))
abbrev xC_kc_s (x : XS) (v : Int32) : XS := (x.1, x.2.1, x.2.2.1, x.2.2.2.1, x.2.2.2.2.1, x.2.2.2.2.2.1, x.2.2.2.2.2.2.1, (x.2.2.2.2.2.2.2.1, x.2.2.2.2.2.2.2.2.1, x.2.2.2.2.2.2.2.2.2.1, v, x.2.2.2.2.2.2.2.2.2.2.2))
abbrev xC_has_s (x : XS) (v : Int32) : XS := (x.1, x.2.1, x.2.2.1, x.2.2.2.1, x.2.2.2.2.1, x.2.2.2.2.2.1, x.2.2.2.2.2.2.1, (x.2.2.2.2.2.2.2.1, x.2.2.2.2.2.2.2.2.1, x.2.2.2.2.2.2.2.2.2.1, x.2.2.2.2.2.2.2.2.2.2.1, v))
abbrev zaS : Type := (Nat → Int32) × (Nat → Int32) × (Nat → Int32) × (Nat → Int32) × Int32 × Int32
abbrev zpS : Type := Int32 × (Nat → Int32) × (Nat → Int32) × (Nat → Int32)
abbrev ztS : Type := (Nat → Int32) × Int32 × (Nat → Int32) × (Nat → Int32) × Int32 × Int32 × Int32 × Int32 × Int32 × (Nat → Int32)
abbrev zwS : Type := (Nat → Int32) × (Nat → Int32) × (Nat → Int64) × (Nat → Int64) × Int64
abbrev zoS : Type := (Nat → Int32) × (Nat → Int32)
abbrev zqS : Type := Int32 × (Nat → Int32) × (Nat → Int32) × (Nat → Int32)
abbrev ziS : Type := (Nat → Int32) × Int32 × Int32
abbrev zbS : Type := Int32 × (Nat → Int32) × (Nat → Int32) × Int32 × Int32 × Int32
abbrev zsS : Type := (Nat → Int32) × (Nat → Int32) × (Nat → Int64) × (Nat → Int64)
abbrev OS : Type := zaS × zpS × ztS × zwS × zoS × zqS × ziS × zbS × zsS
abbrev za_may (x : OS) : (Nat → Int32) := x.1.1
abbrev za_chAt (x : OS) : (Nat → Int32) := x.1.2.1
abbrev za_chWas (x : OS) : (Nat → Int32) := x.1.2.2.1
abbrev za_chIs (x : OS) : (Nat → Int32) := x.1.2.2.2.1
abbrev za_keptMany (x : OS) : Int32 := x.1.2.2.2.2.1
abbrev za_done (x : OS) : Int32 := x.1.2.2.2.2.2
abbrev za_s (x : OS) (v : zaS) : OS := (v, x.2.1, x.2.2.1, x.2.2.2.1, x.2.2.2.2.1, x.2.2.2.2.2.1, x.2.2.2.2.2.2.1, x.2.2.2.2.2.2.2.1, x.2.2.2.2.2.2.2.2)
abbrev za_may_s (x : OS) (v : (Nat → Int32)) : OS := ((v, x.1.2.1, x.1.2.2.1, x.1.2.2.2.1, x.1.2.2.2.2.1, x.1.2.2.2.2.2), x.2.1, x.2.2.1, x.2.2.2.1, x.2.2.2.2.1, x.2.2.2.2.2.1, x.2.2.2.2.2.2.1, x.2.2.2.2.2.2.2.1, x.2.2.2.2.2.2.2.2)
abbrev za_chAt_s (x : OS) (v : (Nat → Int32)) : OS := ((x.1.1, v, x.1.2.2.1, x.1.2.2.2.1, x.1.2.2.2.2.1, x.1.2.2.2.2.2), x.2.1, x.2.2.1, x.2.2.2.1, x.2.2.2.2.1, x.2.2.2.2.2.1, x.2.2.2.2.2.2.1, x.2.2.2.2.2.2.2.1, x.2.2.2.2.2.2.2.2)
abbrev za_chWas_s (x : OS) (v : (Nat → Int32)) : OS := ((x.1.1, x.1.2.1, v, x.1.2.2.2.1, x.1.2.2.2.2.1, x.1.2.2.2.2.2), x.2.1, x.2.2.1, x.2.2.2.1, x.2.2.2.2.1, x.2.2.2.2.2.1, x.2.2.2.2.2.2.1, x.2.2.2.2.2.2.2.1, x.2.2.2.2.2.2.2.2)
abbrev za_chIs_s (x : OS) (v : (Nat → Int32)) : OS := ((x.1.1, x.1.2.1, x.1.2.2.1, v, x.1.2.2.2.2.1, x.1.2.2.2.2.2), x.2.1, x.2.2.1, x.2.2.2.1, x.2.2.2.2.1, x.2.2.2.2.2.1, x.2.2.2.2.2.2.1, x.2.2.2.2.2.2.2.1, x.2.2.2.2.2.2.2.2)
abbrev za_keptMany_s (x : OS) (v : Int32) : OS := ((x.1.1, x.1.2.1, x.1.2.2.1, x.1.2.2.2.1, v, x.1.2.2.2.2.2), x.2.1, x.2.2.1, x.2.2.2.1, x.2.2.2.2.1, x.2.2.2.2.2.1, x.2.2.2.2.2.2.1, x.2.2.2.2.2.2.2.1, x.2.2.2.2.2.2.2.2)
abbrev za_done_s (x : OS) (v : Int32) : OS := ((x.1.1, x.1.2.1, x.1.2.2.1, x.1.2.2.2.1, x.1.2.2.2.2.1, v), x.2.1, x.2.2.1, x.2.2.2.1, x.2.2.2.2.1, x.2.2.2.2.2.1, x.2.2.2.2.2.2.1, x.2.2.2.2.2.2.2.1, x.2.2.2.2.2.2.2.2)
abbrev zp_parts (x : OS) : Int32 := x.2.1.1
abbrev zp_wood (x : OS) : (Nat → Int32) := x.2.1.2.1
abbrev zp_place (x : OS) : (Nat → Int32) := x.2.1.2.2.1
abbrev zp_found (x : OS) : (Nat → Int32) := x.2.1.2.2.2
abbrev zp_s (x : OS) (v : zpS) : OS := (x.1, v, x.2.2.1, x.2.2.2.1, x.2.2.2.2.1, x.2.2.2.2.2.1, x.2.2.2.2.2.2.1, x.2.2.2.2.2.2.2.1, x.2.2.2.2.2.2.2.2)
abbrev zp_parts_s (x : OS) (v : Int32) : OS := (x.1, (v, x.2.1.2.1, x.2.1.2.2.1, x.2.1.2.2.2), x.2.2.1, x.2.2.2.1, x.2.2.2.2.1, x.2.2.2.2.2.1, x.2.2.2.2.2.2.1, x.2.2.2.2.2.2.2.1, x.2.2.2.2.2.2.2.2)
abbrev zp_wood_s (x : OS) (v : (Nat → Int32)) : OS := (x.1, (x.2.1.1, v, x.2.1.2.2.1, x.2.1.2.2.2), x.2.2.1, x.2.2.2.1, x.2.2.2.2.1, x.2.2.2.2.2.1, x.2.2.2.2.2.2.1, x.2.2.2.2.2.2.2.1, x.2.2.2.2.2.2.2.2)
abbrev zp_place_s (x : OS) (v : (Nat → Int32)) : OS := (x.1, (x.2.1.1, x.2.1.2.1, v, x.2.1.2.2.2), x.2.2.1, x.2.2.2.1, x.2.2.2.2.1, x.2.2.2.2.2.1, x.2.2.2.2.2.2.1, x.2.2.2.2.2.2.2.1, x.2.2.2.2.2.2.2.2)
abbrev zp_found_s (x : OS) (v : (Nat → Int32)) : OS := (x.1, (x.2.1.1, x.2.1.2.1, x.2.1.2.2.1, v), x.2.2.1, x.2.2.2.1, x.2.2.2.2.1, x.2.2.2.2.2.1, x.2.2.2.2.2.2.1, x.2.2.2.2.2.2.2.1, x.2.2.2.2.2.2.2.2)
abbrev zt_tape (x : OS) : (Nat → Int32) := x.2.2.1.1
abbrev zt_tapeMany (x : OS) : Int32 := x.2.2.1.2.1
abbrev zt_text (x : OS) : (Nat → Int32) := x.2.2.1.2.2.1
abbrev zt_textMany (x : OS) : (Nat → Int32) := x.2.2.1.2.2.2.1
abbrev zt_base (x : OS) : Int32 := x.2.2.1.2.2.2.2.1
abbrev zt_at (x : OS) : Int32 := x.2.2.1.2.2.2.2.2.1
abbrev zt_ends (x : OS) : Int32 := x.2.2.1.2.2.2.2.2.2.1
abbrev zt_fault (x : OS) : Int32 := x.2.2.1.2.2.2.2.2.2.2.1
abbrev zt_opened (x : OS) : Int32 := x.2.2.1.2.2.2.2.2.2.2.2.1
abbrev zt_names (x : OS) : (Nat → Int32) := x.2.2.1.2.2.2.2.2.2.2.2.2
abbrev zt_s (x : OS) (v : ztS) : OS := (x.1, x.2.1, v, x.2.2.2.1, x.2.2.2.2.1, x.2.2.2.2.2.1, x.2.2.2.2.2.2.1, x.2.2.2.2.2.2.2.1, x.2.2.2.2.2.2.2.2)
abbrev zt_tape_s (x : OS) (v : (Nat → Int32)) : OS := (x.1, x.2.1, (v, x.2.2.1.2.1, x.2.2.1.2.2.1, x.2.2.1.2.2.2.1, x.2.2.1.2.2.2.2.1, x.2.2.1.2.2.2.2.2.1, x.2.2.1.2.2.2.2.2.2.1, x.2.2.1.2.2.2.2.2.2.2.1, x.2.2.1.2.2.2.2.2.2.2.2.1, x.2.2.1.2.2.2.2.2.2.2.2.2), x.2.2.2.1, x.2.2.2.2.1, x.2.2.2.2.2.1, x.2.2.2.2.2.2.1, x.2.2.2.2.2.2.2.1, x.2.2.2.2.2.2.2.2)
abbrev zt_tapeMany_s (x : OS) (v : Int32) : OS := (x.1, x.2.1, (x.2.2.1.1, v, x.2.2.1.2.2.1, x.2.2.1.2.2.2.1, x.2.2.1.2.2.2.2.1, x.2.2.1.2.2.2.2.2.1, x.2.2.1.2.2.2.2.2.2.1, x.2.2.1.2.2.2.2.2.2.2.1, x.2.2.1.2.2.2.2.2.2.2.2.1, x.2.2.1.2.2.2.2.2.2.2.2.2), x.2.2.2.1, x.2.2.2.2.1, x.2.2.2.2.2.1, x.2.2.2.2.2.2.1, x.2.2.2.2.2.2.2.1, x.2.2.2.2.2.2.2.2)
abbrev zt_text_s (x : OS) (v : (Nat → Int32)) : OS := (x.1, x.2.1, (x.2.2.1.1, x.2.2.1.2.1, v, x.2.2.1.2.2.2.1, x.2.2.1.2.2.2.2.1, x.2.2.1.2.2.2.2.2.1, x.2.2.1.2.2.2.2.2.2.1, x.2.2.1.2.2.2.2.2.2.2.1, x.2.2.1.2.2.2.2.2.2.2.2.1, x.2.2.1.2.2.2.2.2.2.2.2.2), x.2.2.2.1, x.2.2.2.2.1, x.2.2.2.2.2.1, x.2.2.2.2.2.2.1, x.2.2.2.2.2.2.2.1, x.2.2.2.2.2.2.2.2)
abbrev zt_textMany_s (x : OS) (v : (Nat → Int32)) : OS := (x.1, x.2.1, (x.2.2.1.1, x.2.2.1.2.1, x.2.2.1.2.2.1, v, x.2.2.1.2.2.2.2.1, x.2.2.1.2.2.2.2.2.1, x.2.2.1.2.2.2.2.2.2.1, x.2.2.1.2.2.2.2.2.2.2.1, x.2.2.1.2.2.2.2.2.2.2.2.1, x.2.2.1.2.2.2.2.2.2.2.2.2), x.2.2.2.1, x.2.2.2.2.1, x.2.2.2.2.2.1, x.2.2.2.2.2.2.1, x.2.2.2.2.2.2.2.1, x.2.2.2.2.2.2.2.2)
abbrev zt_base_s (x : OS) (v : Int32) : OS := (x.1, x.2.1, (x.2.2.1.1, x.2.2.1.2.1, x.2.2.1.2.2.1, x.2.2.1.2.2.2.1, v, x.2.2.1.2.2.2.2.2.1, x.2.2.1.2.2.2.2.2.2.1, x.2.2.1.2.2.2.2.2.2.2.1, x.2.2.1.2.2.2.2.2.2.2.2.1, x.2.2.1.2.2.2.2.2.2.2.2.2), x.2.2.2.1, x.2.2.2.2.1, x.2.2.2.2.2.1, x.2.2.2.2.2.2.1, x.2.2.2.2.2.2.2.1, x.2.2.2.2.2.2.2.2)
abbrev zt_at_s (x : OS) (v : Int32) : OS := (x.1, x.2.1, (x.2.2.1.1, x.2.2.1.2.1, x.2.2.1.2.2.1, x.2.2.1.2.2.2.1, x.2.2.1.2.2.2.2.1, v, x.2.2.1.2.2.2.2.2.2.1, x.2.2.1.2.2.2.2.2.2.2.1, x.2.2.1.2.2.2.2.2.2.2.2.1, x.2.2.1.2.2.2.2.2.2.2.2.2), x.2.2.2.1, x.2.2.2.2.1, x.2.2.2.2.2.1, x.2.2.2.2.2.2.1, x.2.2.2.2.2.2.2.1, x.2.2.2.2.2.2.2.2)
abbrev zt_ends_s (x : OS) (v : Int32) : OS := (x.1, x.2.1, (x.2.2.1.1, x.2.2.1.2.1, x.2.2.1.2.2.1, x.2.2.1.2.2.2.1, x.2.2.1.2.2.2.2.1, x.2.2.1.2.2.2.2.2.1, v, x.2.2.1.2.2.2.2.2.2.2.1, x.2.2.1.2.2.2.2.2.2.2.2.1, x.2.2.1.2.2.2.2.2.2.2.2.2), x.2.2.2.1, x.2.2.2.2.1, x.2.2.2.2.2.1, x.2.2.2.2.2.2.1, x.2.2.2.2.2.2.2.1, x.2.2.2.2.2.2.2.2)
abbrev zt_fault_s (x : OS) (v : Int32) : OS := (x.1, x.2.1, (x.2.2.1.1, x.2.2.1.2.1, x.2.2.1.2.2.1, x.2.2.1.2.2.2.1, x.2.2.1.2.2.2.2.1, x.2.2.1.2.2.2.2.2.1, x.2.2.1.2.2.2.2.2.2.1, v, x.2.2.1.2.2.2.2.2.2.2.2.1, x.2.2.1.2.2.2.2.2.2.2.2.2), x.2.2.2.1, x.2.2.2.2.1, x.2.2.2.2.2.1, x.2.2.2.2.2.2.1, x.2.2.2.2.2.2.2.1, x.2.2.2.2.2.2.2.2)
abbrev zt_opened_s (x : OS) (v : Int32) : OS := (x.1, x.2.1, (x.2.2.1.1, x.2.2.1.2.1, x.2.2.1.2.2.1, x.2.2.1.2.2.2.1, x.2.2.1.2.2.2.2.1, x.2.2.1.2.2.2.2.2.1, x.2.2.1.2.2.2.2.2.2.1, x.2.2.1.2.2.2.2.2.2.2.1, v, x.2.2.1.2.2.2.2.2.2.2.2.2), x.2.2.2.1, x.2.2.2.2.1, x.2.2.2.2.2.1, x.2.2.2.2.2.2.1, x.2.2.2.2.2.2.2.1, x.2.2.2.2.2.2.2.2)
abbrev zt_names_s (x : OS) (v : (Nat → Int32)) : OS := (x.1, x.2.1, (x.2.2.1.1, x.2.2.1.2.1, x.2.2.1.2.2.1, x.2.2.1.2.2.2.1, x.2.2.1.2.2.2.2.1, x.2.2.1.2.2.2.2.2.1, x.2.2.1.2.2.2.2.2.2.1, x.2.2.1.2.2.2.2.2.2.2.1, x.2.2.1.2.2.2.2.2.2.2.2.1, v), x.2.2.2.1, x.2.2.2.2.1, x.2.2.2.2.2.1, x.2.2.2.2.2.2.1, x.2.2.2.2.2.2.2.1, x.2.2.2.2.2.2.2.2)
abbrev zw_numbers (x : OS) : (Nat → Int32) := x.2.2.2.1.1
abbrev zw_way (x : OS) : (Nat → Int32) := x.2.2.2.1.2.1
abbrev zw_weight (x : OS) : (Nat → Int64) := x.2.2.2.1.2.2.1
abbrev zw_kindSum (x : OS) : (Nat → Int64) := x.2.2.2.1.2.2.2.1
abbrev zw_allSum (x : OS) : Int64 := x.2.2.2.1.2.2.2.2
abbrev zw_s (x : OS) (v : zwS) : OS := (x.1, x.2.1, x.2.2.1, v, x.2.2.2.2.1, x.2.2.2.2.2.1, x.2.2.2.2.2.2.1, x.2.2.2.2.2.2.2.1, x.2.2.2.2.2.2.2.2)
abbrev zw_numbers_s (x : OS) (v : (Nat → Int32)) : OS := (x.1, x.2.1, x.2.2.1, (v, x.2.2.2.1.2.1, x.2.2.2.1.2.2.1, x.2.2.2.1.2.2.2.1, x.2.2.2.1.2.2.2.2), x.2.2.2.2.1, x.2.2.2.2.2.1, x.2.2.2.2.2.2.1, x.2.2.2.2.2.2.2.1, x.2.2.2.2.2.2.2.2)
abbrev zw_way_s (x : OS) (v : (Nat → Int32)) : OS := (x.1, x.2.1, x.2.2.1, (x.2.2.2.1.1, v, x.2.2.2.1.2.2.1, x.2.2.2.1.2.2.2.1, x.2.2.2.1.2.2.2.2), x.2.2.2.2.1, x.2.2.2.2.2.1, x.2.2.2.2.2.2.1, x.2.2.2.2.2.2.2.1, x.2.2.2.2.2.2.2.2)
abbrev zw_weight_s (x : OS) (v : (Nat → Int64)) : OS := (x.1, x.2.1, x.2.2.1, (x.2.2.2.1.1, x.2.2.2.1.2.1, v, x.2.2.2.1.2.2.2.1, x.2.2.2.1.2.2.2.2), x.2.2.2.2.1, x.2.2.2.2.2.1, x.2.2.2.2.2.2.1, x.2.2.2.2.2.2.2.1, x.2.2.2.2.2.2.2.2)
abbrev zw_kindSum_s (x : OS) (v : (Nat → Int64)) : OS := (x.1, x.2.1, x.2.2.1, (x.2.2.2.1.1, x.2.2.2.1.2.1, x.2.2.2.1.2.2.1, v, x.2.2.2.1.2.2.2.2), x.2.2.2.2.1, x.2.2.2.2.2.1, x.2.2.2.2.2.2.1, x.2.2.2.2.2.2.2.1, x.2.2.2.2.2.2.2.2)
abbrev zw_allSum_s (x : OS) (v : Int64) : OS := (x.1, x.2.1, x.2.2.1, (x.2.2.2.1.1, x.2.2.2.1.2.1, x.2.2.2.1.2.2.1, x.2.2.2.1.2.2.2.1, v), x.2.2.2.2.1, x.2.2.2.2.2.1, x.2.2.2.2.2.2.1, x.2.2.2.2.2.2.2.1, x.2.2.2.2.2.2.2.2)
abbrev zo_trueWhen (x : OS) : (Nat → Int32) := x.2.2.2.2.1.1
abbrev zo_sorted (x : OS) : (Nat → Int32) := x.2.2.2.2.1.2
abbrev zo_s (x : OS) (v : zoS) : OS := (x.1, x.2.1, x.2.2.1, x.2.2.2.1, v, x.2.2.2.2.2.1, x.2.2.2.2.2.2.1, x.2.2.2.2.2.2.2.1, x.2.2.2.2.2.2.2.2)
abbrev zo_trueWhen_s (x : OS) (v : (Nat → Int32)) : OS := (x.1, x.2.1, x.2.2.1, x.2.2.2.1, (v, x.2.2.2.2.1.2), x.2.2.2.2.2.1, x.2.2.2.2.2.2.1, x.2.2.2.2.2.2.2.1, x.2.2.2.2.2.2.2.2)
abbrev zo_sorted_s (x : OS) (v : (Nat → Int32)) : OS := (x.1, x.2.1, x.2.2.1, x.2.2.2.1, (x.2.2.2.2.1.1, v), x.2.2.2.2.2.1, x.2.2.2.2.2.2.1, x.2.2.2.2.2.2.2.1, x.2.2.2.2.2.2.2.2)
abbrev zq_papers (x : OS) : Int32 := x.2.2.2.2.2.1.1
abbrev zq_from (x : OS) : (Nat → Int32) := x.2.2.2.2.2.1.2.1
abbrev zq_to (x : OS) : (Nat → Int32) := x.2.2.2.2.2.1.2.2.1
abbrev zq_house (x : OS) : (Nat → Int32) := x.2.2.2.2.2.1.2.2.2
abbrev zq_s (x : OS) (v : zqS) : OS := (x.1, x.2.1, x.2.2.1, x.2.2.2.1, x.2.2.2.2.1, v, x.2.2.2.2.2.2.1, x.2.2.2.2.2.2.2.1, x.2.2.2.2.2.2.2.2)
abbrev zq_papers_s (x : OS) (v : Int32) : OS := (x.1, x.2.1, x.2.2.1, x.2.2.2.1, x.2.2.2.2.1, (v, x.2.2.2.2.2.1.2.1, x.2.2.2.2.2.1.2.2.1, x.2.2.2.2.2.1.2.2.2), x.2.2.2.2.2.2.1, x.2.2.2.2.2.2.2.1, x.2.2.2.2.2.2.2.2)
abbrev zq_from_s (x : OS) (v : (Nat → Int32)) : OS := (x.1, x.2.1, x.2.2.1, x.2.2.2.1, x.2.2.2.2.1, (x.2.2.2.2.2.1.1, v, x.2.2.2.2.2.1.2.2.1, x.2.2.2.2.2.1.2.2.2), x.2.2.2.2.2.2.1, x.2.2.2.2.2.2.2.1, x.2.2.2.2.2.2.2.2)
abbrev zq_to_s (x : OS) (v : (Nat → Int32)) : OS := (x.1, x.2.1, x.2.2.1, x.2.2.2.1, x.2.2.2.2.1, (x.2.2.2.2.2.1.1, x.2.2.2.2.2.1.2.1, v, x.2.2.2.2.2.1.2.2.2), x.2.2.2.2.2.2.1, x.2.2.2.2.2.2.2.1, x.2.2.2.2.2.2.2.2)
abbrev zq_house_s (x : OS) (v : (Nat → Int32)) : OS := (x.1, x.2.1, x.2.2.1, x.2.2.2.1, x.2.2.2.2.1, (x.2.2.2.2.2.1.1, x.2.2.2.2.2.1.2.1, x.2.2.2.2.2.1.2.2.1, v), x.2.2.2.2.2.2.1, x.2.2.2.2.2.2.2.1, x.2.2.2.2.2.2.2.2)
abbrev zi_image (x : OS) : (Nat → Int32) := x.2.2.2.2.2.2.1.1
abbrev zi_parts (x : OS) : Int32 := x.2.2.2.2.2.2.1.2.1
abbrev zi_isKept (x : OS) : Int32 := x.2.2.2.2.2.2.1.2.2
abbrev zi_s (x : OS) (v : ziS) : OS := (x.1, x.2.1, x.2.2.1, x.2.2.2.1, x.2.2.2.2.1, x.2.2.2.2.2.1, v, x.2.2.2.2.2.2.2.1, x.2.2.2.2.2.2.2.2)
abbrev zi_image_s (x : OS) (v : (Nat → Int32)) : OS := (x.1, x.2.1, x.2.2.1, x.2.2.2.1, x.2.2.2.2.1, x.2.2.2.2.2.1, (v, x.2.2.2.2.2.2.1.2.1, x.2.2.2.2.2.2.1.2.2), x.2.2.2.2.2.2.2.1, x.2.2.2.2.2.2.2.2)
abbrev zi_parts_s (x : OS) (v : Int32) : OS := (x.1, x.2.1, x.2.2.1, x.2.2.2.1, x.2.2.2.2.1, x.2.2.2.2.2.1, (x.2.2.2.2.2.2.1.1, v, x.2.2.2.2.2.2.1.2.2), x.2.2.2.2.2.2.2.1, x.2.2.2.2.2.2.2.2)
abbrev zi_isKept_s (x : OS) (v : Int32) : OS := (x.1, x.2.1, x.2.2.1, x.2.2.2.1, x.2.2.2.2.1, x.2.2.2.2.2.1, (x.2.2.2.2.2.2.1.1, x.2.2.2.2.2.2.1.2.1, v), x.2.2.2.2.2.2.2.1, x.2.2.2.2.2.2.2.2)
abbrev zb_bodies (x : OS) : Int32 := x.2.2.2.2.2.2.2.1.1
abbrev zb_kind (x : OS) : (Nat → Int32) := x.2.2.2.2.2.2.2.1.2.1
abbrev zb_trace (x : OS) : (Nat → Int32) := x.2.2.2.2.2.2.2.1.2.2.1
abbrev zb_ran (x : OS) : Int32 := x.2.2.2.2.2.2.2.1.2.2.2.1
abbrev zb_ownKind (x : OS) : Int32 := x.2.2.2.2.2.2.2.1.2.2.2.2.1
abbrev zb_ownNumber (x : OS) : Int32 := x.2.2.2.2.2.2.2.1.2.2.2.2.2
abbrev zb_s (x : OS) (v : zbS) : OS := (x.1, x.2.1, x.2.2.1, x.2.2.2.1, x.2.2.2.2.1, x.2.2.2.2.2.1, x.2.2.2.2.2.2.1, v, x.2.2.2.2.2.2.2.2)
abbrev zb_bodies_s (x : OS) (v : Int32) : OS := (x.1, x.2.1, x.2.2.1, x.2.2.2.1, x.2.2.2.2.1, x.2.2.2.2.2.1, x.2.2.2.2.2.2.1, (v, x.2.2.2.2.2.2.2.1.2.1, x.2.2.2.2.2.2.2.1.2.2.1, x.2.2.2.2.2.2.2.1.2.2.2.1, x.2.2.2.2.2.2.2.1.2.2.2.2.1, x.2.2.2.2.2.2.2.1.2.2.2.2.2), x.2.2.2.2.2.2.2.2)
abbrev zb_kind_s (x : OS) (v : (Nat → Int32)) : OS := (x.1, x.2.1, x.2.2.1, x.2.2.2.1, x.2.2.2.2.1, x.2.2.2.2.2.1, x.2.2.2.2.2.2.1, (x.2.2.2.2.2.2.2.1.1, v, x.2.2.2.2.2.2.2.1.2.2.1, x.2.2.2.2.2.2.2.1.2.2.2.1, x.2.2.2.2.2.2.2.1.2.2.2.2.1, x.2.2.2.2.2.2.2.1.2.2.2.2.2), x.2.2.2.2.2.2.2.2)
abbrev zb_trace_s (x : OS) (v : (Nat → Int32)) : OS := (x.1, x.2.1, x.2.2.1, x.2.2.2.1, x.2.2.2.2.1, x.2.2.2.2.2.1, x.2.2.2.2.2.2.1, (x.2.2.2.2.2.2.2.1.1, x.2.2.2.2.2.2.2.1.2.1, v, x.2.2.2.2.2.2.2.1.2.2.2.1, x.2.2.2.2.2.2.2.1.2.2.2.2.1, x.2.2.2.2.2.2.2.1.2.2.2.2.2), x.2.2.2.2.2.2.2.2)
abbrev zb_ran_s (x : OS) (v : Int32) : OS := (x.1, x.2.1, x.2.2.1, x.2.2.2.1, x.2.2.2.2.1, x.2.2.2.2.2.1, x.2.2.2.2.2.2.1, (x.2.2.2.2.2.2.2.1.1, x.2.2.2.2.2.2.2.1.2.1, x.2.2.2.2.2.2.2.1.2.2.1, v, x.2.2.2.2.2.2.2.1.2.2.2.2.1, x.2.2.2.2.2.2.2.1.2.2.2.2.2), x.2.2.2.2.2.2.2.2)
abbrev zb_ownKind_s (x : OS) (v : Int32) : OS := (x.1, x.2.1, x.2.2.1, x.2.2.2.1, x.2.2.2.2.1, x.2.2.2.2.2.1, x.2.2.2.2.2.2.1, (x.2.2.2.2.2.2.2.1.1, x.2.2.2.2.2.2.2.1.2.1, x.2.2.2.2.2.2.2.1.2.2.1, x.2.2.2.2.2.2.2.1.2.2.2.1, v, x.2.2.2.2.2.2.2.1.2.2.2.2.2), x.2.2.2.2.2.2.2.2)
abbrev zb_ownNumber_s (x : OS) (v : Int32) : OS := (x.1, x.2.1, x.2.2.1, x.2.2.2.1, x.2.2.2.2.1, x.2.2.2.2.2.1, x.2.2.2.2.2.2.1, (x.2.2.2.2.2.2.2.1.1, x.2.2.2.2.2.2.2.1.2.1, x.2.2.2.2.2.2.2.1.2.2.1, x.2.2.2.2.2.2.2.1.2.2.2.1, x.2.2.2.2.2.2.2.1.2.2.2.2.1, v), x.2.2.2.2.2.2.2.2)
abbrev zs_shelf (x : OS) : (Nat → Int32) := x.2.2.2.2.2.2.2.2.1
abbrev zs_many (x : OS) : (Nat → Int32) := x.2.2.2.2.2.2.2.2.2.1
abbrev zs_items (x : OS) : (Nat → Int64) := x.2.2.2.2.2.2.2.2.2.2.1
abbrev zs_carried (x : OS) : (Nat → Int64) := x.2.2.2.2.2.2.2.2.2.2.2
abbrev zs_s (x : OS) (v : zsS) : OS := (x.1, x.2.1, x.2.2.1, x.2.2.2.1, x.2.2.2.2.1, x.2.2.2.2.2.1, x.2.2.2.2.2.2.1, x.2.2.2.2.2.2.2.1, v)
abbrev zs_shelf_s (x : OS) (v : (Nat → Int32)) : OS := (x.1, x.2.1, x.2.2.1, x.2.2.2.1, x.2.2.2.2.1, x.2.2.2.2.2.1, x.2.2.2.2.2.2.1, x.2.2.2.2.2.2.2.1, (v, x.2.2.2.2.2.2.2.2.2.1, x.2.2.2.2.2.2.2.2.2.2.1, x.2.2.2.2.2.2.2.2.2.2.2))
abbrev zs_many_s (x : OS) (v : (Nat → Int32)) : OS := (x.1, x.2.1, x.2.2.1, x.2.2.2.1, x.2.2.2.2.1, x.2.2.2.2.2.1, x.2.2.2.2.2.2.1, x.2.2.2.2.2.2.2.1, (x.2.2.2.2.2.2.2.2.1, v, x.2.2.2.2.2.2.2.2.2.2.1, x.2.2.2.2.2.2.2.2.2.2.2))
abbrev zs_items_s (x : OS) (v : (Nat → Int64)) : OS := (x.1, x.2.1, x.2.2.1, x.2.2.2.1, x.2.2.2.2.1, x.2.2.2.2.2.1, x.2.2.2.2.2.2.1, x.2.2.2.2.2.2.2.1, (x.2.2.2.2.2.2.2.2.1, x.2.2.2.2.2.2.2.2.2.1, v, x.2.2.2.2.2.2.2.2.2.2.2))
abbrev zs_carried_s (x : OS) (v : (Nat → Int64)) : OS := (x.1, x.2.1, x.2.2.1, x.2.2.2.1, x.2.2.2.2.1, x.2.2.2.2.2.1, x.2.2.2.2.2.2.1, x.2.2.2.2.2.2.2.1, (x.2.2.2.2.2.2.2.2.1, x.2.2.2.2.2.2.2.2.2.1, x.2.2.2.2.2.2.2.2.2.2.1, v))
abbrev PieceS : Type := Int32 × Int32 × Int32 × Int32 × Int32 × (Nat → Int32)
abbrev i_wood (p : PieceS) : Int32 := p.1
abbrev i_place (p : PieceS) : Int32 := p.2.1
abbrev i_looked (p : PieceS) : Int32 := p.2.2.1
abbrev i_there (p : PieceS) : Int32 := p.2.2.2.1
abbrev i_known (p : PieceS) : Int32 := p.2.2.2.2.1
abbrev i_num (p : PieceS) : (Nat → Int32) := p.2.2.2.2.2
def pcells : Nat → List PieceS → MH
  | _, [] => []
  | i, p :: r => .inr (3, [.int (i_wood p), .int (i_place p), .int (i_looked p), .int (i_there p), .int (i_known p), .ref (i + 1)]) :: .inl (.int, 1080, .inl (i_num p)) :: pcells (i + 2) r
def k_least : Nat → Int32 := fun j => [0, 0, 1, 0].getD j 0
def k_most : Nat → Int32 := fun j => [9, 99, 9, 99].getD j 0
def k_above : Nat → Int32 := fun j => [-1, 0, 0, 2, 1, 3, 0, 4].getD j 0
def k_own : Nat → Int32 := fun j => [1, 10, 11, 2, 20, 0, 0, 0, 0, 30, 0, 0, 0, 41, 40, 0, 0, 0, 50, 0, 0, 0, 0, 60, 70, 0, 0, 0, 0, 80, 0, 81].getD j 0
def k_pcs (n : Nat) : Nat → Option Nat := fun j => if j < n then some (2 * j + 67) else none
/-- all cells: statics, script, the class (n parts), the reference, then what follows -/
def heapN (n : Nat) (sc : Nat × (Nat → Int32)) (x : XS) (m : OS) (tl : MH) : MH :=
  .inl (.int, 4, .inl k_least) :: -- 0
  .inl (.int, 4, .inl k_most) :: -- 1
  .inl (.int, 8, .inl k_above) :: -- 2
  .inl (.int, 32, .inl k_own) :: -- 3
  .inl (.int, sc.1, .inl sc.2) :: -- 4
  .inr (8, [.ref 6, .ref 11, .ref 15, .ref 18, .ref 23, .ref 27, .ref 30, .ref 35, .int (nI n), .ref 36, .ref 37, .ref 38, .int (xC_kc x), .int (xC_has x)]) :: -- 5
  .inr (7, [.ref 7, .ref 8, .ref 9, .ref 10, .int (xT_done x), .int (xT_kept x)]) :: -- 6
  .inl (.int, 24, .inl (xT_now x)) :: -- 7
  .inl (.int, 40, .inl (xT_cells x)) :: -- 8
  .inl (.int, 40, .inl (xT_before x)) :: -- 9
  .inl (.int, 40, .inl (xT_after x)) :: -- 10
  .inr (1, [.ref 12, .ref 13, .ref 14]) :: -- 11
  .inl (.int, 720, .inl (xW_code x)) :: -- 12
  .inl (.int, 6, .inl (xW_sizes x)) :: -- 13
  .inl (.int, 120, .inl (xW_stack x)) :: -- 14
  .inr (4, [.ref 16, .int (xR_len x), .ref 17, .int (xR_size x), .int (xR_at x), .int (xR_fault x)]) :: -- 15
  .inl (.int, 120, .inl (xR_tape x)) :: -- 16
  .inl (.int, 120, .inl (xR_code x)) :: -- 17
  .inr (5, [.ref 6, .ref 11, .ref 19, .ref 20, .ref 21, .ref 22]) :: -- 18
  .inl (.long, 6, .inr (.inl (xS_sums x))) :: -- 19
  .inl (.long, 384, .inr (.inl (xS_ways x))) :: -- 20
  .inl (.long, 384, .inr (.inl (xS_merged x))) :: -- 21
  .inl (.long, 64, .inr (.inl (xS_prod x))) :: -- 22
  .inr (2, [.ref 24, .ref 25, .ref 26, .int (xP_many x)]) :: -- 23
  .inl (.int, 10, .inl (xP_from x)) :: -- 24
  .inl (.int, 10, .inl (xP_to x)) :: -- 25
  .inl (.int, 10, .inl (xP_houses x)) :: -- 26
  .inr (0, [.ref 28, .int (xB_many x), .ref 29, .int (xB_runs x)]) :: -- 27
  .inl (.int, 50, .inl (xB_kinds x)) :: -- 28
  .inl (.int, 24, .inl (xB_ran x)) :: -- 29
  .inr (6, [.ref 31, .ref 32, .ref 33, .ref 34]) :: -- 30
  .inl (.int, 6, .inl (xH_sorts x)) :: -- 31
  .inl (.int, 6, .inl (xH_held x)) :: -- 32
  .inl (.int, 6, .inl (xH_lens x)) :: -- 33
  .inl (.long, 360, .inr (.inl (xH_cells x))) :: -- 34
  .inl (.object "ChairOld$Piece", 8, .inr (.inr (.inr (.inr (k_pcs n))))) :: -- 35
  .inl (.int, 8, .inl (xC_whens x)) :: -- 36
  .inl (.int, 8, .inl (xC_kl x)) :: -- 37
  .inl (.int, 8, .inl (xC_kt x)) :: -- 38
  .inr (9, [.ref 40, .ref 41, .ref 42, .ref 43, .int (za_keptMany m), .int (za_done m), .int (zp_parts m), .ref 44, .ref 45, .ref 46, .ref 47, .int (zt_tapeMany m), .ref 48, .ref 49, .int (zt_base m), .int (zt_at m), .int (zt_ends m), .int (zt_fault m), .int (zt_opened m), .ref 50, .ref 51, .ref 52, .ref 53, .ref 54, .long (zw_allSum m), .ref 55, .ref 56, .int (zq_papers m), .ref 57, .ref 58, .ref 59, .ref 60, .int (zi_parts m), .int (zi_isKept m), .int (zb_bodies m), .ref 61, .ref 62, .int (zb_ran m), .int (zb_ownKind m), .int (zb_ownNumber m), .ref 63, .ref 64, .ref 65, .ref 66]) :: -- 39
  .inl (.int, 24, .inl (za_may m)) :: -- 40
  .inl (.int, 40, .inl (za_chAt m)) :: -- 41
  .inl (.int, 40, .inl (za_chWas m)) :: -- 42
  .inl (.int, 40, .inl (za_chIs m)) :: -- 43
  .inl (.int, 8, .inl (zp_wood m)) :: -- 44
  .inl (.int, 8, .inl (zp_place m)) :: -- 45
  .inl (.int, 48, .inl (zp_found m)) :: -- 46
  .inl (.int, 120, .inl (zt_tape m)) :: -- 47
  .inl (.int, 720, .inl (zt_text m)) :: -- 48
  .inl (.int, 6, .inl (zt_textMany m)) :: -- 49
  .inl (.int, 4, .inl (zt_names m)) :: -- 50
  .inl (.int, 1080, .inl (zw_numbers m)) :: -- 51
  .inl (.int, 6, .inl (zw_way m)) :: -- 52
  .inl (.long, 180, .inr (.inl (zw_weight m))) :: -- 53
  .inl (.long, 6, .inr (.inl (zw_kindSum m))) :: -- 54
  .inl (.int, 8, .inl (zo_trueWhen m)) :: -- 55
  .inl (.int, 8, .inl (zo_sorted m)) :: -- 56
  .inl (.int, 10, .inl (zq_from m)) :: -- 57
  .inl (.int, 10, .inl (zq_to m)) :: -- 58
  .inl (.int, 10, .inl (zq_house m)) :: -- 59
  .inl (.int, 48, .inl (zi_image m)) :: -- 60
  .inl (.int, 50, .inl (zb_kind m)) :: -- 61
  .inl (.int, 24, .inl (zb_trace m)) :: -- 62
  .inl (.int, 6, .inl (zs_shelf m)) :: -- 63
  .inl (.int, 6, .inl (zs_many m)) :: -- 64
  .inl (.long, 360, .inr (.inl (zs_items m))) :: -- 65
  .inl (.long, 60, .inr (.inl (zs_carried m))) :: -- 66
  tl
def heap (sc : Nat × (Nat → Int32)) (x : XS) (m : OS) (P : List PieceS) : MH := heapN P.length sc x m (pcells 67 P)
theorem heapN_get (n : Nat) (sc : Nat × (Nat → Int32)) (x : XS) (m : OS) (tl : MH) (j : Nat) : (heapN n sc x m tl)[j + 67]? = tl[j]? := rfl
theorem heapN_set (n : Nat) (sc : Nat × (Nat → Int32)) (x : XS) (m : OS) (tl : MH) (j : Nat) (c : MCell) : (heapN n sc x m tl).set (j + 67) c = heapN n sc x m (tl.set j c) := rfl
theorem heapN_len (n : Nat) (sc : Nat × (Nat → Int32)) (x : XS) (m : OS) (tl : MH) : (heapN n sc x m tl).length = tl.length + 67 := rfl
theorem heapN_app (n : Nat) (sc : Nat × (Nat → Int32)) (x : XS) (m : OS) (tl : MH) (c : MCell) : heapN n sc x m tl ++ [c] = heapN n sc x m (tl ++ [c]) := rfl
theorem pcells_len : ∀ (P : List PieceS) (i : Nat), (pcells i P).length = 2 * P.length
  | [], _ => rfl
  | p :: r, i => by
    simp only [pcells, List.length_cons, pcells_len r (i + 2)]
    omega
theorem pcells_get : ∀ (P : List PieceS) (i k : Nat) (p : PieceS), P[k]? = some p → (pcells i P)[2 * k]? = some (.inr (3, [.int (i_wood p), .int (i_place p), .int (i_looked p), .int (i_there p), .int (i_known p), .ref (2 * k + i + 1)])) ∧ (pcells i P)[2 * k + 1]? = some (.inl (.int, 1080, .inl (i_num p)))
  | [], i, k, p, h => by simp at h
  | q :: r, i, 0, p, h => by
    simp at h
    subst h
    simp [pcells]
  | q :: r, i, k + 1, p, h => by
    obtain ⟨h1, h2⟩ := pcells_get r (i + 2) k p (by simpa using h)
    simp only [pcells, show 2 * (k + 1) = 2 * k + 1 + 1 by omega, List.getElem?_cons_succ]
    exact ⟨by rw [h1]; rw [show 2 * k + (i + 2) + 1 = 2 * k + 1 + 1 + i + 1 by omega], h2⟩
theorem pcells_set : ∀ (P : List PieceS) (i k : Nat) (p : PieceS), k < P.length → pcells i (P.set k p) = ((pcells i P).set (2 * k) (.inr (3, [.int (i_wood p), .int (i_place p), .int (i_looked p), .int (i_there p), .int (i_known p), .ref (2 * k + i + 1)]))).set (2 * k + 1) (.inl (.int, 1080, .inl (i_num p)))
  | [], i, k, p, h => by simp at h
  | q :: r, i, 0, p, h => by simp [pcells]
  | q :: r, i, k + 1, p, h => by
    simp only [pcells, show 2 * (k + 1) = 2 * k + 1 + 1 by omega, List.set_cons_succ]
    rw [pcells_set r (i + 2) k p (by simpa using h)]
    rw [show 2 * k + (i + 2) + 1 = 2 * k + 1 + 1 + i + 1 by omega]
theorem pcells_app : ∀ (P : List PieceS) (i : Nat) (p : PieceS), pcells i (P ++ [p]) = pcells i P ++ [.inr (3, [.int (i_wood p), .int (i_place p), .int (i_looked p), .int (i_there p), .int (i_known p), .ref (2 * P.length + i + 1)]), .inl (.int, 1080, .inl (i_num p))]
  | [], i, p => by simp [pcells]
  | q :: r, i, p => by
    simp only [List.cons_append, pcells, pcells_app r (i + 2) p, List.length_cons]
    rw [show 2 * r.length + (i + 2) + 1 = 2 * (r.length + 1) + i + 1 by omega]
