/-! the ten classes: their fields in the order of the slots -/
def m_T0 : u_T := fun k => match k with
  | 0 => ("ChairOld$Bodies", "kinds", "[I", true)
  | 1 => ("ChairOld$Bodies", "many", "I", false)
  | 2 => ("ChairOld$Bodies", "ran", "[I", true)
  | _ => ("ChairOld$Bodies", "runs", "I", false)
def m_T1 : u_T := fun k => match k with
  | 0 => ("ChairOld$Laws", "code", "[I", true)
  | 1 => ("ChairOld$Laws", "sizes", "[I", true)
  | _ => ("ChairOld$Laws", "stack", "[I", true)
def m_T2 : u_T := fun k => match k with
  | 0 => ("ChairOld$Papers", "from", "[I", true)
  | 1 => ("ChairOld$Papers", "to", "[I", true)
  | 2 => ("ChairOld$Papers", "houses", "[I", true)
  | _ => ("ChairOld$Papers", "many", "I", false)
def m_T3 : u_T := fun k => match k with
  | 0 => ("ChairOld$Piece", "wood", "I", true)
  | 1 => ("ChairOld$Piece", "place", "I", true)
  | 2 => ("ChairOld$Piece", "looked", "I", false)
  | 3 => ("ChairOld$Piece", "there", "I", false)
  | 4 => ("ChairOld$Piece", "known", "I", false)
  | _ => ("ChairOld$Piece", "numbers", "[I", true)
def m_T4 : u_T := fun k => match k with
  | 0 => ("ChairOld$Reader", "tape", "[I", true)
  | 1 => ("ChairOld$Reader", "length", "I", false)
  | 2 => ("ChairOld$Reader", "code", "[I", true)
  | 3 => ("ChairOld$Reader", "size", "I", false)
  | 4 => ("ChairOld$Reader", "at", "I", false)
  | _ => ("ChairOld$Reader", "fault", "I", false)
def m_T5 : u_T := fun k => match k with
  | 0 => ("ChairOld$Scale", "told", "LChairOld$Told;", true)
  | 1 => ("ChairOld$Scale", "laws", "LChairOld$Laws;", true)
  | 2 => ("ChairOld$Scale", "sums", "[J", true)
  | 3 => ("ChairOld$Scale", "ways", "[J", true)
  | 4 => ("ChairOld$Scale", "merged", "[J", true)
  | _ => ("ChairOld$Scale", "products", "[J", true)
def m_T6 : u_T := fun k => match k with
  | 0 => ("ChairOld$Shelves", "sorts", "[I", true)
  | 1 => ("ChairOld$Shelves", "held", "[I", true)
  | 2 => ("ChairOld$Shelves", "lengths", "[I", true)
  | _ => ("ChairOld$Shelves", "cells", "[J", true)
def m_T7 : u_T := fun k => match k with
  | 0 => ("ChairOld$Told", "now", "[I", true)
  | 1 => ("ChairOld$Told", "cells", "[I", true)
  | 2 => ("ChairOld$Told", "before", "[I", true)
  | 3 => ("ChairOld$Told", "after", "[I", true)
  | 4 => ("ChairOld$Told", "done", "I", false)
  | _ => ("ChairOld$Told", "kept", "I", false)
def m_T8 : u_T := fun k => match k with
  | 0 => ("ChairOld", "told", "LChairOld$Told;", true)
  | 1 => ("ChairOld", "laws", "LChairOld$Laws;", true)
  | 2 => ("ChairOld", "reader", "LChairOld$Reader;", true)
  | 3 => ("ChairOld", "scale", "LChairOld$Scale;", true)
  | 4 => ("ChairOld", "papers", "LChairOld$Papers;", true)
  | 5 => ("ChairOld", "bodies", "LChairOld$Bodies;", true)
  | 6 => ("ChairOld", "shelves", "LChairOld$Shelves;", true)
  | 7 => ("ChairOld", "pieces", "[LChairOld$Piece;", true)
  | 8 => ("ChairOld", "pieceCount", "I", false)
  | 9 => ("ChairOld", "whens", "[I", true)
  | 10 => ("ChairOld", "keptLooked", "[I", true)
  | 11 => ("ChairOld", "keptThere", "[I", true)
  | 12 => ("ChairOld", "keptCount", "I", false)
  | _ => ("ChairOld", "hasImage", "Z", false)
def m_T9 : u_T := fun k => match k with
  | 0 => ("ChairOldModel", "may", "[I", true)
  | 1 => ("ChairOldModel", "changeAt", "[I", true)
  | 2 => ("ChairOldModel", "changeWas", "[I", true)
  | 3 => ("ChairOldModel", "changeIs", "[I", true)
  | 4 => ("ChairOldModel", "keptMany", "I", false)
  | 5 => ("ChairOldModel", "done", "I", false)
  | 6 => ("ChairOldModel", "parts", "I", false)
  | 7 => ("ChairOldModel", "wood", "[I", true)
  | 8 => ("ChairOldModel", "place", "[I", true)
  | 9 => ("ChairOldModel", "found", "[I", true)
  | 10 => ("ChairOldModel", "tape", "[I", true)
  | 11 => ("ChairOldModel", "tapeMany", "I", false)
  | 12 => ("ChairOldModel", "text", "[I", true)
  | 13 => ("ChairOldModel", "textMany", "[I", true)
  | 14 => ("ChairOldModel", "base", "I", false)
  | 15 => ("ChairOldModel", "at", "I", false)
  | 16 => ("ChairOldModel", "ends", "I", false)
  | 17 => ("ChairOldModel", "fault", "I", false)
  | 18 => ("ChairOldModel", "opened", "I", false)
  | 19 => ("ChairOldModel", "names", "[I", true)
  | 20 => ("ChairOldModel", "numbers", "[I", true)
  | 21 => ("ChairOldModel", "way", "[I", true)
  | 22 => ("ChairOldModel", "weight", "[J", true)
  | 23 => ("ChairOldModel", "kindSum", "[J", true)
  | 24 => ("ChairOldModel", "allSum", "J", false)
  | 25 => ("ChairOldModel", "trueWhen", "[I", true)
  | 26 => ("ChairOldModel", "sorted", "[I", true)
  | 27 => ("ChairOldModel", "papers", "I", false)
  | 28 => ("ChairOldModel", "paperFrom", "[I", true)
  | 29 => ("ChairOldModel", "paperTo", "[I", true)
  | 30 => ("ChairOldModel", "paperHouse", "[I", true)
  | 31 => ("ChairOldModel", "image", "[I", true)
  | 32 => ("ChairOldModel", "imageParts", "I", false)
  | 33 => ("ChairOldModel", "isKept", "Z", false)
  | 34 => ("ChairOldModel", "bodies", "I", false)
  | 35 => ("ChairOldModel", "bodyKind", "[I", true)
  | 36 => ("ChairOldModel", "trace", "[I", true)
  | 37 => ("ChairOldModel", "ran", "I", false)
  | 38 => ("ChairOldModel", "ownKind", "I", false)
  | 39 => ("ChairOldModel", "ownNumber", "I", false)
  | 40 => ("ChairOldModel", "shelf", "[I", true)
  | 41 => ("ChairOldModel", "many", "[I", true)
  | 42 => ("ChairOldModel", "items", "[J", true)
  | _ => ("ChairOldModel", "carried", "[J", true)
def m_cls : List vw_C := [("ChairOld$Bodies", m_T0, 4), ("ChairOld$Laws", m_T1, 3), ("ChairOld$Papers", m_T2, 4), ("ChairOld$Piece", m_T3, 6), ("ChairOld$Reader", m_T4, 6), ("ChairOld$Scale", m_T5, 6), ("ChairOld$Shelves", m_T6, 4), ("ChairOld$Told", m_T7, 6), ("ChairOld", m_T8, 14), ("ChairOldModel", m_T9, 44)]
/-- static arrays that nobody writes: class, name, descriptor -/
def m_stat : List (String × String × String) := [("ChairOld", "LEAST_TOLD", "[I"), ("ChairOld", "MOST_TOLD", "[I"), ("ChairOld$Bodies", "ABOVE", "[I"), ("ChairOld$Bodies", "OWN", "[I")]
def m_good : List Cond := lw_tbl.filter goodWord
def m_isNest : Cond → Bool
  | .methodLinkNest .. => true
  | _ => false
def m_nest : List Cond := lw_tbl.filter m_isNest
def m_ty0 (T : u_T) (k : Nat) : FieldType := (parseFieldDescriptor (T k).2.2.1).getD .int
def m_cok (q : vw_C) : Prop := (∀ w ∈ u_ws q.1 q.2.1 q.2.2, w ∈ m_good) ∧ (∀ a, a < q.2.2 → ∀ b, b < q.2.2 → a ≠ b → (q.2.1 a).2.1 ≠ (q.2.1 b).2.1) ∧ (∀ k, k < q.2.2 → parseFieldDescriptor (q.2.1 k).2.2.1 = some (m_ty0 q.2.1 k)) ∧ Cond.instantiable q.1 q.2.2 ∈ m_good ∧ Cond.initialized q.1 ∈ m_good ∧ (∀ k, k < q.2.2 → (q.2.1 k).1 = q.1)
theorem m_in {w : Cond} (h : w ∈ lw_tbl) (g : goodWord w = true) : w ∈ m_good := List.mem_filter.mpr ⟨h, g⟩
theorem m_ins_all {l : List Cond} (h : l.all (fun w => decide (w ∈ lw_tbl) && goodWord w) = true) : ∀ w ∈ l, w ∈ m_good := fun w hw => by
  have h1 := List.all_eq_true.mp h w hw
  simp only [Bool.and_eq_true, decide_eq_true_eq] at h1
  exact m_in h1.1 h1.2
set_option maxRecDepth 100000 in
theorem m_cok0 : m_cok ("ChairOld$Bodies", m_T0, 4) := ⟨m_ins_all (by decide +kernel), by decide +kernel, by decide +kernel, m_in (List.mem_of_getElem? (i := 210) (by decide +kernel)) rfl, m_in (List.mem_of_getElem? (i := 75) (by decide +kernel)) rfl, by decide +kernel⟩
set_option maxRecDepth 100000 in
theorem m_cok1 : m_cok ("ChairOld$Laws", m_T1, 3) := ⟨m_ins_all (by decide +kernel), by decide +kernel, by decide +kernel, m_in (List.mem_of_getElem? (i := 119) (by decide +kernel)) rfl, m_in (List.mem_of_getElem? (i := 71) (by decide +kernel)) rfl, by decide +kernel⟩
set_option maxRecDepth 100000 in
theorem m_cok2 : m_cok ("ChairOld$Papers", m_T2, 4) := ⟨m_ins_all (by decide +kernel), by decide +kernel, by decide +kernel, m_in (List.mem_of_getElem? (i := 190) (by decide +kernel)) rfl, m_in (List.mem_of_getElem? (i := 74) (by decide +kernel)) rfl, by decide +kernel⟩
set_option maxRecDepth 100000 in
theorem m_cok3 : m_cok ("ChairOld$Piece", m_T3, 6) := ⟨m_ins_all (by decide +kernel), by decide +kernel, by decide +kernel, m_in (List.mem_of_getElem? (i := 305) (by decide +kernel)) rfl, m_in (List.mem_of_getElem? (i := 78) (by decide +kernel)) rfl, by decide +kernel⟩
set_option maxRecDepth 100000 in
theorem m_cok4 : m_cok ("ChairOld$Reader", m_T4, 6) := ⟨m_ins_all (by decide +kernel), by decide +kernel, by decide +kernel, m_in (List.mem_of_getElem? (i := 135) (by decide +kernel)) rfl, m_in (List.mem_of_getElem? (i := 72) (by decide +kernel)) rfl, by decide +kernel⟩
set_option maxRecDepth 100000 in
theorem m_cok5 : m_cok ("ChairOld$Scale", m_T5, 6) := ⟨m_ins_all (by decide +kernel), by decide +kernel, by decide +kernel, m_in (List.mem_of_getElem? (i := 163) (by decide +kernel)) rfl, m_in (List.mem_of_getElem? (i := 73) (by decide +kernel)) rfl, by decide +kernel⟩
set_option maxRecDepth 100000 in
theorem m_cok6 : m_cok ("ChairOld$Shelves", m_T6, 4) := ⟨m_ins_all (by decide +kernel), by decide +kernel, by decide +kernel, m_in (List.mem_of_getElem? (i := 231) (by decide +kernel)) rfl, m_in (List.mem_of_getElem? (i := 76) (by decide +kernel)) rfl, by decide +kernel⟩
set_option maxRecDepth 100000 in
theorem m_cok7 : m_cok ("ChairOld$Told", m_T7, 6) := ⟨m_ins_all (by decide +kernel), by decide +kernel, by decide +kernel, m_in (List.mem_of_getElem? (i := 92) (by decide +kernel)) rfl, m_in (List.mem_of_getElem? (i := 70) (by decide +kernel)) rfl, by decide +kernel⟩
set_option maxRecDepth 100000 in
theorem m_cok8 : m_cok ("ChairOld", m_T8, 14) := ⟨m_ins_all (by decide +kernel), by decide +kernel, by decide +kernel, m_in (List.mem_of_getElem? (i := 84) (by decide +kernel)) rfl, m_in (List.mem_of_getElem? (i := 69) (by decide +kernel)) rfl, by decide +kernel⟩
set_option maxRecDepth 100000 in
theorem m_cok9 : m_cok ("ChairOldModel", m_T9, 44) := ⟨m_ins_all (by decide +kernel), by decide +kernel, by decide +kernel, m_in (List.mem_of_getElem? (i := 886) (by decide +kernel)) rfl, m_in (List.mem_of_getElem? (i := 77) (by decide +kernel)) rfl, by decide +kernel⟩
theorem m_cok_at : ∀ (c : Nat) (q : vw_C), m_cls[c]? = some q → m_cok q := by
  intro c q h
  match c, h with
  | 0, h => cases h; exact m_cok0
  | 1, h => cases h; exact m_cok1
  | 2, h => cases h; exact m_cok2
  | 3, h => cases h; exact m_cok3
  | 4, h => cases h; exact m_cok4
  | 5, h => cases h; exact m_cok5
  | 6, h => cases h; exact m_cok6
  | 7, h => cases h; exact m_cok7
  | 8, h => cases h; exact m_cok8
  | 9, h => cases h; exact m_cok9
  | c + 10, h => simp [m_cls] at h
