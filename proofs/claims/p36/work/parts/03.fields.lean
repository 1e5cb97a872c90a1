def TX0 : u_T := fun k => match k with
  | _ => ("", "", "", false)
def tyX0 : Nat → FieldType := fun k => match k with
  | _ => .int
theorem nmX0 : ∀ a, a < 0 → ∀ b, b < 0 → a ≠ b → (TX0 a).2.1 ≠ (TX0 b).2.1 := by decide +kernel
theorem tyX0_ok : ∀ k, k < 0 → parseFieldDescriptor (TX0 k).2.2.1 = some (tyX0 k) := by decide +kernel
def TX1 : u_T := fun k => match k with
  | 0 => ("PermitPark$Locks", "holders", "[I", true)
  | 1 => ("PermitPark$Locks", "waiters", "[I", true)
  | _ => ("PermitPark$Locks", "waiting", "[I", true)
def tyX1 : Nat → FieldType := fun k => match k with
  | 0 => .array .int
  | 1 => .array .int
  | _ => .array .int
theorem nmX1 : ∀ a, a < 3 → ∀ b, b < 3 → a ≠ b → (TX1 a).2.1 ≠ (TX1 b).2.1 := by decide +kernel
theorem tyX1_ok : ∀ k, k < 3 → parseFieldDescriptor (TX1 k).2.2.1 = some (tyX1 k) := by decide +kernel
def TX2 : u_T := fun k => match k with
  | 0 => ("PermitPark$Log", "cells", "[I", true)
  | 1 => ("PermitPark$Log", "nextRow", "I", false)
  | 2 => ("PermitPark$Log", "kept", "I", false)
  | _ => ("PermitPark$Log", "total", "I", false)
def tyX2 : Nat → FieldType := fun k => match k with
  | 0 => .array .int
  | 1 => .int
  | 2 => .int
  | _ => .int
theorem nmX2 : ∀ a, a < 4 → ∀ b, b < 4 → a ≠ b → (TX2 a).2.1 ≠ (TX2 b).2.1 := by decide +kernel
theorem tyX2_ok : ∀ k, k < 4 → parseFieldDescriptor (TX2 k).2.2.1 = some (tyX2 k) := by decide +kernel
def TX3 : u_T := fun k => match k with
  | 0 => ("PermitPark$Machine", "threads", "[LPermitPark$Strand;", true)
  | 1 => ("PermitPark$Machine", "locks", "LPermitPark$Locks;", true)
  | 2 => ("PermitPark$Machine", "log", "LPermitPark$Log;", true)
  | 3 => ("PermitPark$Machine", "settings", "[I", true)
  | 4 => ("PermitPark$Machine", "threadCount", "I", false)
  | 5 => ("PermitPark$Machine", "time", "I", false)
  | 6 => ("PermitPark$Machine", "x", "I", false)
  | 7 => ("PermitPark$Machine", "idleTicks", "I", false)
  | 8 => ("PermitPark$Machine", "flags", "I", false)
  | 9 => ("PermitPark$Machine", "merged", "I", false)
  | 10 => ("PermitPark$Machine", "wasted", "I", false)
  | 11 => ("PermitPark$Machine", "stolen", "I", false)
  | 12 => ("PermitPark$Machine", "toldOn", "I", false)
  | 13 => ("PermitPark$Machine", "arePrioritiesOld", "Z", false)
  | 14 => ("PermitPark$Machine", "ending", "[I", true)
  | _ => ("PermitPark$Machine", "endingCount", "I", false)
def tyX3 : Nat → FieldType := fun k => match k with
  | 0 => .array (.object "PermitPark$Strand")
  | 1 => .object "PermitPark$Locks"
  | 2 => .object "PermitPark$Log"
  | 3 => .array .int
  | 4 => .int
  | 5 => .int
  | 6 => .int
  | 7 => .int
  | 8 => .int
  | 9 => .int
  | 10 => .int
  | 11 => .int
  | 12 => .int
  | 13 => .boolean
  | 14 => .array .int
  | _ => .int
theorem nmX3 : ∀ a, a < 16 → ∀ b, b < 16 → a ≠ b → (TX3 a).2.1 ≠ (TX3 b).2.1 := by decide +kernel
theorem tyX3_ok : ∀ k, k < 16 → parseFieldDescriptor (TX3 k).2.2.1 = some (tyX3 k) := by decide +kernel
def TX4 : u_T := fun k => match k with
  | _ => ("", "", "", false)
def tyX4 : Nat → FieldType := fun k => match k with
  | _ => .int
theorem nmX4 : ∀ a, a < 0 → ∀ b, b < 0 → a ≠ b → (TX4 a).2.1 ≠ (TX4 b).2.1 := by decide +kernel
theorem tyX4_ok : ∀ k, k < 0 → parseFieldDescriptor (TX4 k).2.2.1 = some (tyX4 k) := by decide +kernel
def TX5 : u_T := fun k => match k with
  | 0 => ("PermitPark$SetupText", "bytes", "[B", true)
  | 1 => ("PermitPark$SetupText", "length", "I", false)
  | 2 => ("PermitPark$SetupText", "errorCode", "I", false)
  | 3 => ("PermitPark$SetupText", "errorPosition", "I", false)
  | 4 => ("PermitPark$SetupText", "kind", "I", false)
  | 5 => ("PermitPark$SetupText", "value", "I", false)
  | 6 => ("PermitPark$SetupText", "first", "I", false)
  | _ => ("PermitPark$SetupText", "behind", "I", false)
def tyX5 : Nat → FieldType := fun k => match k with
  | 0 => .array .byte
  | 1 => .int
  | 2 => .int
  | 3 => .int
  | 4 => .int
  | 5 => .int
  | 6 => .int
  | _ => .int
theorem nmX5 : ∀ a, a < 8 → ∀ b, b < 8 → a ≠ b → (TX5 a).2.1 ≠ (TX5 b).2.1 := by decide +kernel
theorem tyX5_ok : ∀ k, k < 8 → parseFieldDescriptor (TX5 k).2.2.1 = some (tyX5 k) := by decide +kernel
def TX6 : u_T := fun k => match k with
  | 0 => ("PermitPark$Strand", "codes", "[I", true)
  | 1 => ("PermitPark$Strand", "numbers", "[I", true)
  | 2 => ("PermitPark$Strand", "returns", "[I", true)
  | 3 => ("PermitPark$Strand", "length", "I", false)
  | 4 => ("PermitPark$Strand", "base", "I", false)
  | 5 => ("PermitPark$Strand", "priority", "I", false)
  | 6 => ("PermitPark$Strand", "greatest", "I", false)
  | 7 => ("PermitPark$Strand", "state", "I", false)
  | 8 => ("PermitPark$Strand", "place", "I", false)
  | 9 => ("PermitPark$Strand", "worked", "I", false)
  | 10 => ("PermitPark$Strand", "hasPermit", "Z", false)
  | 11 => ("PermitPark$Strand", "hasInterrupt", "Z", false)
  | 12 => ("PermitPark$Strand", "cause", "I", false)
  | 13 => ("PermitPark$Strand", "deadline", "I", false)
  | 14 => ("PermitPark$Strand", "blockedAt", "I", false)
  | 15 => ("PermitPark$Strand", "ticksRun", "I", false)
  | 16 => ("PermitPark$Strand", "lastRun", "I", false)
  | _ => ("PermitPark$Strand", "parks", "I", false)
def tyX6 : Nat → FieldType := fun k => match k with
  | 0 => .array .int
  | 1 => .array .int
  | 2 => .array .int
  | 3 => .int
  | 4 => .int
  | 5 => .int
  | 6 => .int
  | 7 => .int
  | 8 => .int
  | 9 => .int
  | 10 => .boolean
  | 11 => .boolean
  | 12 => .int
  | 13 => .int
  | 14 => .int
  | 15 => .int
  | 16 => .int
  | _ => .int
theorem nmX6 : ∀ a, a < 18 → ∀ b, b < 18 → a ≠ b → (TX6 a).2.1 ≠ (TX6 b).2.1 := by decide +kernel
theorem tyX6_ok : ∀ k, k < 18 → parseFieldDescriptor (TX6 k).2.2.1 = some (tyX6 k) := by decide +kernel
def TX7 : u_T := fun k => match k with
  | 0 => ("PermitPark", "text", "LPermitPark$SetupText;", true)
  | 1 => ("PermitPark", "live", "LPermitPark$Machine;", true)
  | 2 => ("PermitPark", "trial", "LPermitPark$Machine;", true)
  | 3 => ("PermitPark", "saved", "[LPermitPark$Machine;", true)
  | _ => ("PermitPark", "isSaved", "[Z", true)
def tyX7 : Nat → FieldType := fun k => match k with
  | 0 => .object "PermitPark$SetupText"
  | 1 => .object "PermitPark$Machine"
  | 2 => .object "PermitPark$Machine"
  | 3 => .array (.object "PermitPark$Machine")
  | _ => .array .boolean
theorem nmX7 : ∀ a, a < 5 → ∀ b, b < 5 → a ≠ b → (TX7 a).2.1 ≠ (TX7 b).2.1 := by decide +kernel
theorem tyX7_ok : ∀ k, k < 5 → parseFieldDescriptor (TX7 k).2.2.1 = some (tyX7 k) := by decide +kernel
def TX8 : u_T := fun k => match k with
  | _ => ("", "", "", false)
def tyX8 : Nat → FieldType := fun k => match k with
  | _ => .int
theorem nmX8 : ∀ a, a < 0 → ∀ b, b < 0 → a ≠ b → (TX8 a).2.1 ≠ (TX8 b).2.1 := by decide +kernel
theorem tyX8_ok : ∀ k, k < 0 → parseFieldDescriptor (TX8 k).2.2.1 = some (tyX8 k) := by decide +kernel
def TX9 : u_T := fun k => match k with
  | 0 => ("PermitParkLaw", "x", "LPermitPark;", true)
  | 1 => ("PermitParkLaw", "ints", "[I", false)
  | _ => ("PermitParkLaw", "next", "I", false)
def tyX9 : Nat → FieldType := fun k => match k with
  | 0 => .object "PermitPark"
  | 1 => .array .int
  | _ => .int
theorem nmX9 : ∀ a, a < 3 → ∀ b, b < 3 → a ≠ b → (TX9 a).2.1 ≠ (TX9 b).2.1 := by decide +kernel
theorem tyX9_ok : ∀ k, k < 3 → parseFieldDescriptor (TX9 k).2.2.1 = some (tyX9 k) := by decide +kernel
abbrev wCl : List vw_C := [("PermitPark$Locks", TX1, 3), ("PermitPark$Log", TX2, 4), ("PermitPark$Machine", TX3, 16), ("PermitPark$SetupText", TX5, 8), ("PermitPark$Strand", TX6, 18), ("PermitPark", TX7, 5), ("PermitParkLaw", TX9, 3)]
/-- the good words of the tables -/
def tblG : List Cond := lw_tbl.filter goodWord
theorem tblG_good : GoodIn tblG tblG := fun w hw => ⟨hw, good_of_word (List.mem_filter.mp hw).2⟩
theorem tblG_sub {w : Cond} (h : w ∈ tblG) : w ∈ lw_tbl := (List.mem_filter.mp h).1
theorem tblG_in {w : Cond} (h : w ∈ lw_tbl) (g : goodWord w = true) : w ∈ tblG := List.mem_filter.mpr ⟨h, g⟩
theorem tblG_t {w : Cond} (h : w ∈ tables_1) (g : goodWord w = true) : w ∈ tblG := tblG_in (List.mem_append_right _ h) g
theorem tblG_s {q : MethodName × Nat} (h : q ∈ lw_privs) (g : goodWord (Cond.selects q.1.cls q.1 q.1) = true) : Cond.selects q.1.cls q.1 q.1 ∈ tblG := tblG_in (List.mem_append_left _ (List.mem_map.mpr ⟨q, h, rfl⟩)) g
set_option maxRecDepth 100000 in
theorem wIn_1 : ∀ w ∈ u_ws "PermitPark$Locks" TX1 3, w ∈ tblG := by
  intro w hw
  obtain ⟨k, hk, rfl⟩ := List.mem_map.mp hw
  have hk := List.mem_range.mp hk
  match k, hk with
  | 0, _ => exact tblG_t (List.mem_of_getElem? (i := 75) (by decide +kernel)) (by decide +kernel)
  | 1, _ => exact tblG_t (List.mem_of_getElem? (i := 77) (by decide +kernel)) (by decide +kernel)
  | 2, _ => exact tblG_t (List.mem_of_getElem? (i := 79) (by decide +kernel)) (by decide +kernel)
  | n + 3, h => exact absurd h (by omega)
set_option maxRecDepth 100000 in
theorem wIn_2 : ∀ w ∈ u_ws "PermitPark$Log" TX2 4, w ∈ tblG := by
  intro w hw
  obtain ⟨k, hk, rfl⟩ := List.mem_map.mp hw
  have hk := List.mem_range.mp hk
  match k, hk with
  | 0, _ => exact tblG_t (List.mem_of_getElem? (i := 96) (by decide +kernel)) (by decide +kernel)
  | 1, _ => exact tblG_t (List.mem_of_getElem? (i := 98) (by decide +kernel)) (by decide +kernel)
  | 2, _ => exact tblG_t (List.mem_of_getElem? (i := 100) (by decide +kernel)) (by decide +kernel)
  | 3, _ => exact tblG_t (List.mem_of_getElem? (i := 102) (by decide +kernel)) (by decide +kernel)
  | n + 4, h => exact absurd h (by omega)
set_option maxRecDepth 100000 in
theorem wIn_3 : ∀ w ∈ u_ws "PermitPark$Machine" TX3 16, w ∈ tblG := by
  intro w hw
  obtain ⟨k, hk, rfl⟩ := List.mem_map.mp hw
  have hk := List.mem_range.mp hk
  match k, hk with
  | 0, _ => exact tblG_t (List.mem_of_getElem? (i := 222) (by decide +kernel)) (by decide +kernel)
  | 1, _ => exact tblG_t (List.mem_of_getElem? (i := 224) (by decide +kernel)) (by decide +kernel)
  | 2, _ => exact tblG_t (List.mem_of_getElem? (i := 226) (by decide +kernel)) (by decide +kernel)
  | 3, _ => exact tblG_t (List.mem_of_getElem? (i := 228) (by decide +kernel)) (by decide +kernel)
  | 4, _ => exact tblG_t (List.mem_of_getElem? (i := 230) (by decide +kernel)) (by decide +kernel)
  | 5, _ => exact tblG_t (List.mem_of_getElem? (i := 232) (by decide +kernel)) (by decide +kernel)
  | 6, _ => exact tblG_t (List.mem_of_getElem? (i := 234) (by decide +kernel)) (by decide +kernel)
  | 7, _ => exact tblG_t (List.mem_of_getElem? (i := 236) (by decide +kernel)) (by decide +kernel)
  | 8, _ => exact tblG_t (List.mem_of_getElem? (i := 238) (by decide +kernel)) (by decide +kernel)
  | 9, _ => exact tblG_t (List.mem_of_getElem? (i := 240) (by decide +kernel)) (by decide +kernel)
  | 10, _ => exact tblG_t (List.mem_of_getElem? (i := 242) (by decide +kernel)) (by decide +kernel)
  | 11, _ => exact tblG_t (List.mem_of_getElem? (i := 244) (by decide +kernel)) (by decide +kernel)
  | 12, _ => exact tblG_t (List.mem_of_getElem? (i := 246) (by decide +kernel)) (by decide +kernel)
  | 13, _ => exact tblG_t (List.mem_of_getElem? (i := 248) (by decide +kernel)) (by decide +kernel)
  | 14, _ => exact tblG_t (List.mem_of_getElem? (i := 250) (by decide +kernel)) (by decide +kernel)
  | 15, _ => exact tblG_t (List.mem_of_getElem? (i := 252) (by decide +kernel)) (by decide +kernel)
  | n + 16, h => exact absurd h (by omega)
set_option maxRecDepth 100000 in
theorem wIn_5 : ∀ w ∈ u_ws "PermitPark$SetupText" TX5 8, w ∈ tblG := by
  intro w hw
  obtain ⟨k, hk, rfl⟩ := List.mem_map.mp hw
  have hk := List.mem_range.mp hk
  match k, hk with
  | 0, _ => exact tblG_t (List.mem_of_getElem? (i := 38) (by decide +kernel)) (by decide +kernel)
  | 1, _ => exact tblG_t (List.mem_of_getElem? (i := 40) (by decide +kernel)) (by decide +kernel)
  | 2, _ => exact tblG_t (List.mem_of_getElem? (i := 42) (by decide +kernel)) (by decide +kernel)
  | 3, _ => exact tblG_t (List.mem_of_getElem? (i := 44) (by decide +kernel)) (by decide +kernel)
  | 4, _ => exact tblG_t (List.mem_of_getElem? (i := 46) (by decide +kernel)) (by decide +kernel)
  | 5, _ => exact tblG_t (List.mem_of_getElem? (i := 48) (by decide +kernel)) (by decide +kernel)
  | 6, _ => exact tblG_t (List.mem_of_getElem? (i := 50) (by decide +kernel)) (by decide +kernel)
  | 7, _ => exact tblG_t (List.mem_of_getElem? (i := 52) (by decide +kernel)) (by decide +kernel)
  | n + 8, h => exact absurd h (by omega)
set_option maxRecDepth 100000 in
theorem wIn_6 : ∀ w ∈ u_ws "PermitPark$Strand" TX6 18, w ∈ tblG := by
  intro w hw
  obtain ⟨k, hk, rfl⟩ := List.mem_map.mp hw
  have hk := List.mem_range.mp hk
  match k, hk with
  | 0, _ => exact tblG_t (List.mem_of_getElem? (i := 150) (by decide +kernel)) (by decide +kernel)
  | 1, _ => exact tblG_t (List.mem_of_getElem? (i := 152) (by decide +kernel)) (by decide +kernel)
  | 2, _ => exact tblG_t (List.mem_of_getElem? (i := 154) (by decide +kernel)) (by decide +kernel)
  | 3, _ => exact tblG_t (List.mem_of_getElem? (i := 156) (by decide +kernel)) (by decide +kernel)
  | 4, _ => exact tblG_t (List.mem_of_getElem? (i := 158) (by decide +kernel)) (by decide +kernel)
  | 5, _ => exact tblG_t (List.mem_of_getElem? (i := 160) (by decide +kernel)) (by decide +kernel)
  | 6, _ => exact tblG_t (List.mem_of_getElem? (i := 162) (by decide +kernel)) (by decide +kernel)
  | 7, _ => exact tblG_t (List.mem_of_getElem? (i := 164) (by decide +kernel)) (by decide +kernel)
  | 8, _ => exact tblG_t (List.mem_of_getElem? (i := 166) (by decide +kernel)) (by decide +kernel)
  | 9, _ => exact tblG_t (List.mem_of_getElem? (i := 168) (by decide +kernel)) (by decide +kernel)
  | 10, _ => exact tblG_t (List.mem_of_getElem? (i := 170) (by decide +kernel)) (by decide +kernel)
  | 11, _ => exact tblG_t (List.mem_of_getElem? (i := 172) (by decide +kernel)) (by decide +kernel)
  | 12, _ => exact tblG_t (List.mem_of_getElem? (i := 174) (by decide +kernel)) (by decide +kernel)
  | 13, _ => exact tblG_t (List.mem_of_getElem? (i := 176) (by decide +kernel)) (by decide +kernel)
  | 14, _ => exact tblG_t (List.mem_of_getElem? (i := 178) (by decide +kernel)) (by decide +kernel)
  | 15, _ => exact tblG_t (List.mem_of_getElem? (i := 180) (by decide +kernel)) (by decide +kernel)
  | 16, _ => exact tblG_t (List.mem_of_getElem? (i := 182) (by decide +kernel)) (by decide +kernel)
  | 17, _ => exact tblG_t (List.mem_of_getElem? (i := 184) (by decide +kernel)) (by decide +kernel)
  | n + 18, h => exact absurd h (by omega)
set_option maxRecDepth 100000 in
theorem wIn_7 : ∀ w ∈ u_ws "PermitPark" TX7 5, w ∈ tblG := by
  intro w hw
  obtain ⟨k, hk, rfl⟩ := List.mem_map.mp hw
  have hk := List.mem_range.mp hk
  match k, hk with
  | 0, _ => exact tblG_t (List.mem_of_getElem? (i := 261) (by decide +kernel)) (by decide +kernel)
  | 1, _ => exact tblG_t (List.mem_of_getElem? (i := 263) (by decide +kernel)) (by decide +kernel)
  | 2, _ => exact tblG_t (List.mem_of_getElem? (i := 265) (by decide +kernel)) (by decide +kernel)
  | 3, _ => exact tblG_t (List.mem_of_getElem? (i := 267) (by decide +kernel)) (by decide +kernel)
  | 4, _ => exact tblG_t (List.mem_of_getElem? (i := 269) (by decide +kernel)) (by decide +kernel)
  | n + 5, h => exact absurd h (by omega)
set_option maxRecDepth 100000 in
theorem wIn_9 : ∀ w ∈ u_ws "PermitParkLaw" TX9 3, w ∈ tblG := by
  intro w hw
  obtain ⟨k, hk, rfl⟩ := List.mem_map.mp hw
  have hk := List.mem_range.mp hk
  match k, hk with
  | 0, _ => exact tblG_t (List.mem_of_getElem? (i := 276) (by decide +kernel)) (by decide +kernel)
  | 1, _ => exact tblG_t (List.mem_of_getElem? (i := 278) (by decide +kernel)) (by decide +kernel)
  | 2, _ => exact tblG_t (List.mem_of_getElem? (i := 280) (by decide +kernel)) (by decide +kernel)
  | n + 3, h => exact absurd h (by omega)
