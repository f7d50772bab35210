def RX0 : String := "TwigPatch$Bush"
def TX0 : u_T := fun k => match k with
  | 0 => ("TwigPatch$Bush", "marks", "LTwigPatch$Marks;", true)
  | 1 => ("TwigPatch$Bush", "held", "LTwigPatch$Row;", true)
  | 2 => ("TwigPatch$Bush", "worth", "LTwigPatch$Row;", true)
  | 3 => ("TwigPatch$Bush", "up", "LTwigPatch$Row;", true)
  | 4 => ("TwigPatch$Bush", "first", "LTwigPatch$Row;", true)
  | 5 => ("TwigPatch$Bush", "last", "LTwigPatch$Row;", true)
  | 6 => ("TwigPatch$Bush", "ahead", "LTwigPatch$Row;", true)
  | 7 => ("TwigPatch$Bush", "behind", "LTwigPatch$Row;", true)
  | 8 => ("TwigPatch$Bush", "root", "I", false)
  | _ => ("TwigPatch$Bush", "count", "I", false)
def tyX0 : Nat → FieldType := fun k => match k with
  | 0 => .object "TwigPatch$Marks"
  | 1 => .object "TwigPatch$Row"
  | 2 => .object "TwigPatch$Row"
  | 3 => .object "TwigPatch$Row"
  | 4 => .object "TwigPatch$Row"
  | 5 => .object "TwigPatch$Row"
  | 6 => .object "TwigPatch$Row"
  | 7 => .object "TwigPatch$Row"
  | 8 => .int
  | _ => .int
abbrev wsX00 : List Cond := u_ws RX0 TX0 10
theorem nmX0 : ∀ a, a < 10 → ∀ b, b < 10 → a ≠ b → (TX0 a).2.1 ≠ (TX0 b).2.1 := by decide +kernel
theorem tyX0_ok : ∀ k, k < 10 → parseFieldDescriptor (TX0 k).2.2.1 = some (tyX0 k) := by decide +kernel
def RX1 : String := "TwigPatch$Finder"
def TX1 : u_T := fun k => match k with
  | 0 => ("TwigPatch$Finder", "marks", "LTwigPatch$Marks;", true)
  | 1 => ("TwigPatch$Finder", "copy", "LTwigPatch$Bush;", true)
  | 2 => ("TwigPatch$Finder", "matching", "LTwigPatch$Matching;", true)
  | 3 => ("TwigPatch$Finder", "twins", "LTwigPatch$Row;", true)
  | 4 => ("TwigPatch$Finder", "kept", "LTwigPatch$Row;", true)
  | 5 => ("TwigPatch$Finder", "order", "LTwigPatch$Row;", true)
  | _ => ("TwigPatch$Finder", "nowhere", "LTwigPatch$Spot;", true)
def tyX1 : Nat → FieldType := fun k => match k with
  | 0 => .object "TwigPatch$Marks"
  | 1 => .object "TwigPatch$Bush"
  | 2 => .object "TwigPatch$Matching"
  | 3 => .object "TwigPatch$Row"
  | 4 => .object "TwigPatch$Row"
  | 5 => .object "TwigPatch$Row"
  | _ => .object "TwigPatch$Spot"
abbrev wsX10 : List Cond := u_ws RX1 TX1 7
theorem nmX1 : ∀ a, a < 7 → ∀ b, b < 7 → a ≠ b → (TX1 a).2.1 ≠ (TX1 b).2.1 := by decide +kernel
theorem tyX1_ok : ∀ k, k < 7 → parseFieldDescriptor (TX1 k).2.2.1 = some (tyX1 k) := by decide +kernel
def RX2 : String := "TwigPatch$History"
def TX2 : u_T := fun k => match k with
  | 0 => ("TwigPatch$History", "treeNumbers", "LTwigPatch$Row;", true)
  | 1 => ("TwigPatch$History", "firsts", "LTwigPatch$Row;", true)
  | 2 => ("TwigPatch$History", "seconds", "LTwigPatch$Row;", true)
  | 3 => ("TwigPatch$History", "reached", "LTwigPatch$Row;", true)
  | 4 => ("TwigPatch$History", "line", "LTwigPatch$Row;", true)
  | 5 => ("TwigPatch$History", "count", "I", false)
  | _ => ("TwigPatch$History", "lineLength", "I", false)
def tyX2 : Nat → FieldType := fun k => match k with
  | 0 => .object "TwigPatch$Row"
  | 1 => .object "TwigPatch$Row"
  | 2 => .object "TwigPatch$Row"
  | 3 => .object "TwigPatch$Row"
  | 4 => .object "TwigPatch$Row"
  | 5 => .int
  | _ => .int
abbrev wsX20 : List Cond := u_ws RX2 TX2 7
theorem nmX2 : ∀ a, a < 7 → ∀ b, b < 7 → a ≠ b → (TX2 a).2.1 ≠ (TX2 b).2.1 := by decide +kernel
theorem tyX2_ok : ∀ k, k < 7 → parseFieldDescriptor (TX2 k).2.2.1 = some (tyX2 k) := by decide +kernel
def RX3 : String := "TwigPatch$Likes"
def TX3 : u_T := fun k => match k with
  | 0 => ("TwigPatch$Likes", "marks", "LTwigPatch$Marks;", true)
  | 1 => ("TwigPatch$Likes", "familyOf", "LTwigPatch$Row;", true)
  | 2 => ("TwigPatch$Likes", "memberMark", "LTwigPatch$Row;", true)
  | 3 => ("TwigPatch$Likes", "memberWorth", "LTwigPatch$Row;", true)
  | 4 => ("TwigPatch$Likes", "runFrom", "LTwigPatch$Row;", true)
  | 5 => ("TwigPatch$Likes", "runCount", "LTwigPatch$Row;", true)
  | 6 => ("TwigPatch$Likes", "runs", "LTwigPatch$Row;", true)
  | 7 => ("TwigPatch$Likes", "families", "I", false)
  | _ => ("TwigPatch$Likes", "runsUsed", "I", false)
def tyX3 : Nat → FieldType := fun k => match k with
  | 0 => .object "TwigPatch$Marks"
  | 1 => .object "TwigPatch$Row"
  | 2 => .object "TwigPatch$Row"
  | 3 => .object "TwigPatch$Row"
  | 4 => .object "TwigPatch$Row"
  | 5 => .object "TwigPatch$Row"
  | 6 => .object "TwigPatch$Row"
  | 7 => .int
  | _ => .int
abbrev wsX30 : List Cond := u_ws RX3 TX3 9
theorem nmX3 : ∀ a, a < 9 → ∀ b, b < 9 → a ≠ b → (TX3 a).2.1 ≠ (TX3 b).2.1 := by decide +kernel
theorem tyX3_ok : ∀ k, k < 9 → parseFieldDescriptor (TX3 k).2.2.1 = some (tyX3 k) := by decide +kernel
def RX4 : String := "TwigPatch$Marks"
def TX4 : u_T := fun k => match k with
  | 0 => ("TwigPatch$Marks", "kinds", "LTwigPatch$Row;", true)
  | 1 => ("TwigPatch$Marks", "identities", "LTwigPatch$Row;", true)
  | _ => ("TwigPatch$Marks", "made", "I", false)
def tyX4 : Nat → FieldType := fun k => match k with
  | 0 => .object "TwigPatch$Row"
  | 1 => .object "TwigPatch$Row"
  | _ => .int
abbrev wsX40 : List Cond := u_ws RX4 TX4 3
theorem nmX4 : ∀ a, a < 3 → ∀ b, b < 3 → a ≠ b → (TX4 a).2.1 ≠ (TX4 b).2.1 := by decide +kernel
theorem tyX4_ok : ∀ k, k < 3 → parseFieldDescriptor (TX4 k).2.2.1 = some (tyX4 k) := by decide +kernel
def RX5 : String := "TwigPatch$Matching"
def TX5 : u_T := fun k => match k with
  | 0 => ("TwigPatch$Matching", "marks", "LTwigPatch$Marks;", true)
  | 1 => ("TwigPatch$Matching", "likes", "LTwigPatch$Likes;", true)
  | 2 => ("TwigPatch$Matching", "toNew", "LTwigPatch$Row;", true)
  | 3 => ("TwigPatch$Matching", "toOld", "LTwigPatch$Row;", true)
  | 4 => ("TwigPatch$Matching", "freeOld", "LTwigPatch$Row;", true)
  | 5 => ("TwigPatch$Matching", "freeNew", "LTwigPatch$Row;", true)
  | 6 => ("TwigPatch$Matching", "hitsUpTo", "LTwigPatch$Row;", true)
  | 7 => ("TwigPatch$Matching", "lastOld", "LTwigPatch$Tree;", false)
  | _ => ("TwigPatch$Matching", "lastYoung", "LTwigPatch$Tree;", false)
def tyX5 : Nat → FieldType := fun k => match k with
  | 0 => .object "TwigPatch$Marks"
  | 1 => .object "TwigPatch$Likes"
  | 2 => .object "TwigPatch$Row"
  | 3 => .object "TwigPatch$Row"
  | 4 => .object "TwigPatch$Row"
  | 5 => .object "TwigPatch$Row"
  | 6 => .object "TwigPatch$Row"
  | 7 => .object "TwigPatch$Tree"
  | _ => .object "TwigPatch$Tree"
abbrev wsX50 : List Cond := u_ws RX5 TX5 9
theorem nmX5 : ∀ a, a < 9 → ∀ b, b < 9 → a ≠ b → (TX5 a).2.1 ≠ (TX5 b).2.1 := by decide +kernel
theorem tyX5_ok : ∀ k, k < 9 → parseFieldDescriptor (TX5 k).2.2.1 = some (tyX5 k) := by decide +kernel
def RX6 : String := "TwigPatch$Merger"
def TX6 : u_T := fun k => match k with
  | 0 => ("TwigPatch$Merger", "marks", "LTwigPatch$Marks;", true)
  | 1 => ("TwigPatch$Merger", "result", "LTwigPatch$Bush;", true)
  | 2 => ("TwigPatch$Merger", "policies", "LTwigPatch$Row;", true)
  | 3 => ("TwigPatch$Merger", "inside", "LTwigPatch$Row;", true)
  | 4 => ("TwigPatch$Merger", "worth", "LTwigPatch$Row;", true)
  | 5 => ("TwigPatch$Merger", "up", "LTwigPatch$Row;", true)
  | 6 => ("TwigPatch$Merger", "ringed", "LTwigPatch$Row;", true)
  | 7 => ("TwigPatch$Merger", "baseOrder", "LTwigPatch$Row;", true)
  | 8 => ("TwigPatch$Merger", "leftOrder", "LTwigPatch$Row;", true)
  | 9 => ("TwigPatch$Merger", "rightOrder", "LTwigPatch$Row;", true)
  | 10 => ("TwigPatch$Merger", "conflictKinds", "LTwigPatch$Row;", true)
  | _ => ("TwigPatch$Merger", "conflictMarks", "LTwigPatch$Row;", true)
def tyX6 : Nat → FieldType := fun k => match k with
  | 0 => .object "TwigPatch$Marks"
  | 1 => .object "TwigPatch$Bush"
  | 2 => .object "TwigPatch$Row"
  | 3 => .object "TwigPatch$Row"
  | 4 => .object "TwigPatch$Row"
  | 5 => .object "TwigPatch$Row"
  | 6 => .object "TwigPatch$Row"
  | 7 => .object "TwigPatch$Row"
  | 8 => .object "TwigPatch$Row"
  | 9 => .object "TwigPatch$Row"
  | 10 => .object "TwigPatch$Row"
  | _ => .object "TwigPatch$Row"
abbrev wsX60 : List Cond := u_ws RX6 TX6 12
theorem nmX6 : ∀ a, a < 12 → ∀ b, b < 12 → a ≠ b → (TX6 a).2.1 ≠ (TX6 b).2.1 := by decide +kernel
theorem tyX6_ok : ∀ k, k < 12 → parseFieldDescriptor (TX6 k).2.2.1 = some (tyX6 k) := by decide +kernel
def RX7 : String := "TwigPatch$Row"
def TX7 : u_T := fun k => match k with
  | 0 => ("TwigPatch$Row", "cells", "[I", false)
  | _ => ("TwigPatch$Row", "used", "I", false)
def tyX7 : Nat → FieldType := fun k => match k with
  | 0 => .array .int
  | _ => .int
abbrev wsX70 : List Cond := u_ws RX7 TX7 2
theorem nmX7 : ∀ a, a < 2 → ∀ b, b < 2 → a ≠ b → (TX7 a).2.1 ≠ (TX7 b).2.1 := by decide +kernel
theorem tyX7_ok : ∀ k, k < 2 → parseFieldDescriptor (TX7 k).2.2.1 = some (tyX7 k) := by decide +kernel
def RX8 : String := "TwigPatch$Script"
def TX8 : u_T := fun k => match k with
  | _ => ("", "", "", false)
def tyX8 : Nat → FieldType := fun k => match k with
  | _ => .int
abbrev wsX80 : List Cond := u_ws RX8 TX8 0
theorem nmX8 : ∀ a, a < 0 → ∀ b, b < 0 → a ≠ b → (TX8 a).2.1 ≠ (TX8 b).2.1 := by decide +kernel
theorem tyX8_ok : ∀ k, k < 0 → parseFieldDescriptor (TX8 k).2.2.1 = some (tyX8 k) := by decide +kernel
def RX9 : String := "TwigPatch$Spot"
def TX9 : u_T := fun k => match k with
  | 0 => ("TwigPatch$Spot", "under", "I", true)
  | 1 => ("TwigPatch$Spot", "ahead", "I", true)
  | _ => ("TwigPatch$Spot", "behind", "I", true)
def tyX9 : Nat → FieldType := fun k => match k with
  | 0 => .int
  | 1 => .int
  | _ => .int
abbrev wsX90 : List Cond := u_ws RX9 TX9 3
theorem nmX9 : ∀ a, a < 3 → ∀ b, b < 3 → a ≠ b → (TX9 a).2.1 ≠ (TX9 b).2.1 := by decide +kernel
theorem tyX9_ok : ∀ k, k < 3 → parseFieldDescriptor (TX9 k).2.2.1 = some (tyX9 k) := by decide +kernel
def RX10 : String := "TwigPatch$Step"
def TX10 : u_T := fun k => match k with
  | _ => ("", "", "", false)
def tyX10 : Nat → FieldType := fun k => match k with
  | _ => .int
abbrev wsX100 : List Cond := u_ws RX10 TX10 0
theorem nmX10 : ∀ a, a < 0 → ∀ b, b < 0 → a ≠ b → (TX10 a).2.1 ≠ (TX10 b).2.1 := by decide +kernel
theorem tyX10_ok : ∀ k, k < 0 → parseFieldDescriptor (TX10 k).2.2.1 = some (tyX10 k) := by decide +kernel
def RX11 : String := "TwigPatch$Tree"
def TX11 : u_T := fun k => match k with
  | 0 => ("TwigPatch$Tree", "count", "I", true)
  | 1 => ("TwigPatch$Tree", "placeMark", "LTwigPatch$Row;", true)
  | 2 => ("TwigPatch$Tree", "placeWorth", "LTwigPatch$Row;", true)
  | 3 => ("TwigPatch$Tree", "placeUp", "LTwigPatch$Row;", true)
  | 4 => ("TwigPatch$Tree", "placeEnd", "LTwigPatch$Row;", true)
  | 5 => ("TwigPatch$Tree", "placeRank", "LTwigPatch$Row;", true)
  | 6 => ("TwigPatch$Tree", "kidsFrom", "LTwigPatch$Row;", true)
  | 7 => ("TwigPatch$Tree", "kidsCount", "LTwigPatch$Row;", true)
  | 8 => ("TwigPatch$Tree", "kidPlaces", "LTwigPatch$Row;", true)
  | _ => ("TwigPatch$Tree", "markPlace", "LTwigPatch$Row;", true)
def tyX11 : Nat → FieldType := fun k => match k with
  | 0 => .int
  | 1 => .object "TwigPatch$Row"
  | 2 => .object "TwigPatch$Row"
  | 3 => .object "TwigPatch$Row"
  | 4 => .object "TwigPatch$Row"
  | 5 => .object "TwigPatch$Row"
  | 6 => .object "TwigPatch$Row"
  | 7 => .object "TwigPatch$Row"
  | 8 => .object "TwigPatch$Row"
  | _ => .object "TwigPatch$Row"
abbrev wsX110 : List Cond := u_ws RX11 TX11 10
theorem nmX11 : ∀ a, a < 10 → ∀ b, b < 10 → a ≠ b → (TX11 a).2.1 ≠ (TX11 b).2.1 := by decide +kernel
theorem tyX11_ok : ∀ k, k < 10 → parseFieldDescriptor (TX11 k).2.2.1 = some (tyX11 k) := by decide +kernel
def RX12 : String := "TwigPatch"
def TX12 : u_T := fun k => match k with
  | 0 => ("TwigPatch", "marks", "LTwigPatch$Marks;", true)
  | 1 => ("TwigPatch", "draft", "LTwigPatch$Bush;", true)
  | 2 => ("TwigPatch", "bench", "LTwigPatch$Bush;", true)
  | 3 => ("TwigPatch", "forest", "[LTwigPatch$Tree;", true)
  | 4 => ("TwigPatch", "treeCount", "I", false)
  | 5 => ("TwigPatch", "scripts", "[LTwigPatch$Script;", true)
  | 6 => ("TwigPatch", "scriptCount", "I", false)
  | 7 => ("TwigPatch", "likes", "LTwigPatch$Likes;", true)
  | 8 => ("TwigPatch", "matching", "LTwigPatch$Matching;", true)
  | 9 => ("TwigPatch", "finder", "LTwigPatch$Finder;", true)
  | 10 => ("TwigPatch", "lastFuzz", "I", false)
  | 11 => ("TwigPatch", "merger", "LTwigPatch$Merger;", true)
  | _ => ("TwigPatch", "history", "LTwigPatch$History;", true)
def tyX12 : Nat → FieldType := fun k => match k with
  | 0 => .object "TwigPatch$Marks"
  | 1 => .object "TwigPatch$Bush"
  | 2 => .object "TwigPatch$Bush"
  | 3 => .array (.object "TwigPatch$Tree")
  | 4 => .int
  | 5 => .array (.object "TwigPatch$Script")
  | 6 => .int
  | 7 => .object "TwigPatch$Likes"
  | 8 => .object "TwigPatch$Matching"
  | 9 => .object "TwigPatch$Finder"
  | 10 => .int
  | 11 => .object "TwigPatch$Merger"
  | _ => .object "TwigPatch$History"
abbrev wsX120 : List Cond := u_ws RX12 TX12 13
theorem nmX12 : ∀ a, a < 13 → ∀ b, b < 13 → a ≠ b → (TX12 a).2.1 ≠ (TX12 b).2.1 := by decide +kernel
theorem tyX12_ok : ∀ k, k < 13 → parseFieldDescriptor (TX12 k).2.2.1 = some (tyX12 k) := by decide +kernel
def RX13 : String := "TwigPatchModel"
def TX13 : u_T := fun k => match k with
  | _ => ("", "", "", false)
def tyX13 : Nat → FieldType := fun k => match k with
  | _ => .int
abbrev wsX130 : List Cond := u_ws RX13 TX13 0
theorem nmX13 : ∀ a, a < 0 → ∀ b, b < 0 → a ≠ b → (TX13 a).2.1 ≠ (TX13 b).2.1 := by decide +kernel
theorem tyX13_ok : ∀ k, k < 0 → parseFieldDescriptor (TX13 k).2.2.1 = some (tyX13 k) := by decide +kernel
def RJx145de : String := "java/io/Serializable"
def RJx8e188 : String := "java/lang/Cloneable"
def RJ9 : String := "java/lang/Math"
def RJ0 : String := "java/lang/String"
def RJ10 : String := "java/lang/System"
def RJ7 : String := "java/util/Arrays"
def RL : String := "TwigPatchLaw"
abbrev tpCl : List vw_C := [(RX0, TX0, 10), (RX1, TX1, 7), (RX2, TX2, 7), (RX3, TX3, 9), (RX4, TX4, 3), (RX5, TX5, 9), (RX6, TX6, 12), (RX7, TX7, 2), (RX7, TX7, 2), (RX9, TX9, 3), (RX7, TX7, 2), (RX11, TX11, 10), (RX12, TX12, 13), (RX7, TX7, 2)]
def tpTy : Nat → Nat → FieldType := fun c => match c with
  | 0 => tyX0
  | 1 => tyX1
  | 2 => tyX2
  | 3 => tyX3
  | 4 => tyX4
  | 5 => tyX5
  | 6 => tyX6
  | 7 => tyX7
  | 8 => tyX7
  | 9 => tyX9
  | 10 => tyX7
  | 11 => tyX11
  | 12 => tyX12
  | _ => tyX7
/-- a method: its name, code, locals, what it returns, its handlers -/
abbrev tpM : Type := MethodName × ByteArray × Nat × Option FieldType × List (Nat × Nat × Nat × Nat)
abbrev mY (M : tpM) : MethodName := M.1
abbrev mB (M : tpM) : ByteArray := M.2.1
abbrev mL (M : tpM) : Nat := M.2.2.1
abbrev mR (M : tpM) : Option FieldType := M.2.2.2.1
abbrev mH (M : tpM) : List (Nat × Nat × Nat × Nat) := M.2.2.2.2
/-- the words that stay -/
def tpW : List Cond := lw_tbl.filter goodWord
theorem tpw1 (i : Nat) {w : Cond} (h : tables_1_1[i]? = some w) (g : goodWord w = true) : w ∈ tpW := by
  have h1 : w ∈ tables_1_1 := List.mem_of_getElem? h
  exact List.mem_filter.mpr ⟨List.mem_append_right _ (List.mem_append_left _ h1), g⟩
theorem tpw2 (i : Nat) {w : Cond} (h : tables_1_2[i]? = some w) (g : goodWord w = true) : w ∈ tpW := by
  have h1 : w ∈ tables_1_2 := List.mem_of_getElem? h
  exact List.mem_filter.mpr ⟨List.mem_append_right _ (List.mem_append_right _ (List.mem_append_left _ h1)), g⟩
theorem tpw3 (i : Nat) {w : Cond} (h : tables_1_3[i]? = some w) (g : goodWord w = true) : w ∈ tpW := by
  have h1 : w ∈ tables_1_3 := List.mem_of_getElem? h
  exact List.mem_filter.mpr ⟨List.mem_append_right _ (List.mem_append_right _ (List.mem_append_right _ (List.mem_append_left _ h1))), g⟩
theorem tpw4 (i : Nat) {w : Cond} (h : tables_1_4[i]? = some w) (g : goodWord w = true) : w ∈ tpW := by
  have h1 : w ∈ tables_1_4 := List.mem_of_getElem? h
  exact List.mem_filter.mpr ⟨List.mem_append_right _ (List.mem_append_right _ (List.mem_append_right _ (List.mem_append_right _ (List.mem_append_left _ h1)))), g⟩
theorem tpw5 (i : Nat) {w : Cond} (h : tables_1_5[i]? = some w) (g : goodWord w = true) : w ∈ tpW := by
  have h1 : w ∈ tables_1_5 := List.mem_of_getElem? h
  exact List.mem_filter.mpr ⟨List.mem_append_right _ (List.mem_append_right _ (List.mem_append_right _ (List.mem_append_right _ (List.mem_append_right _ (h1))))), g⟩
theorem tpws (i : Nat) {w : Cond} (h : (k2_sels lw_privs)[i]? = some w) (g : goodWord w = true) : w ∈ tpW := List.mem_filter.mpr ⟨List.mem_append_left _ (List.mem_of_getElem? h), g⟩
theorem tpl0 : ∀ w ∈ u_ws RX0 TX0 10, w ∈ tpW := List.forall_mem_cons.mpr ⟨tpw1 84 (by decide +kernel) (by decide +kernel), List.forall_mem_cons.mpr ⟨tpw1 86 (by decide +kernel) (by decide +kernel), List.forall_mem_cons.mpr ⟨tpw1 88 (by decide +kernel) (by decide +kernel), List.forall_mem_cons.mpr ⟨tpw1 90 (by decide +kernel) (by decide +kernel), List.forall_mem_cons.mpr ⟨tpw1 92 (by decide +kernel) (by decide +kernel), List.forall_mem_cons.mpr ⟨tpw1 94 (by decide +kernel) (by decide +kernel), List.forall_mem_cons.mpr ⟨tpw1 96 (by decide +kernel) (by decide +kernel), List.forall_mem_cons.mpr ⟨tpw1 98 (by decide +kernel) (by decide +kernel), List.forall_mem_cons.mpr ⟨tpw1 100 (by decide +kernel) (by decide +kernel), List.forall_mem_cons.mpr ⟨tpw1 102 (by decide +kernel) (by decide +kernel), fun _ h => absurd h List.not_mem_nil⟩⟩⟩⟩⟩⟩⟩⟩⟩⟩
theorem tpl1 : ∀ w ∈ u_ws RX1 TX1 7, w ∈ tpW := List.forall_mem_cons.mpr ⟨tpw1 208 (by decide +kernel) (by decide +kernel), List.forall_mem_cons.mpr ⟨tpw1 210 (by decide +kernel) (by decide +kernel), List.forall_mem_cons.mpr ⟨tpw1 212 (by decide +kernel) (by decide +kernel), List.forall_mem_cons.mpr ⟨tpw1 214 (by decide +kernel) (by decide +kernel), List.forall_mem_cons.mpr ⟨tpw1 216 (by decide +kernel) (by decide +kernel), List.forall_mem_cons.mpr ⟨tpw1 218 (by decide +kernel) (by decide +kernel), List.forall_mem_cons.mpr ⟨tpw1 220 (by decide +kernel) (by decide +kernel), fun _ h => absurd h List.not_mem_nil⟩⟩⟩⟩⟩⟩⟩
theorem tpl2 : ∀ w ∈ u_ws RX2 TX2 7, w ∈ tpW := List.forall_mem_cons.mpr ⟨tpw2 44 (by decide +kernel) (by decide +kernel), List.forall_mem_cons.mpr ⟨tpw2 46 (by decide +kernel) (by decide +kernel), List.forall_mem_cons.mpr ⟨tpw2 48 (by decide +kernel) (by decide +kernel), List.forall_mem_cons.mpr ⟨tpw2 50 (by decide +kernel) (by decide +kernel), List.forall_mem_cons.mpr ⟨tpw2 52 (by decide +kernel) (by decide +kernel), List.forall_mem_cons.mpr ⟨tpw2 54 (by decide +kernel) (by decide +kernel), List.forall_mem_cons.mpr ⟨tpw2 56 (by decide +kernel) (by decide +kernel), fun _ h => absurd h List.not_mem_nil⟩⟩⟩⟩⟩⟩⟩
theorem tpl3 : ∀ w ∈ u_ws RX3 TX3 9, w ∈ tpW := List.forall_mem_cons.mpr ⟨tpw1 124 (by decide +kernel) (by decide +kernel), List.forall_mem_cons.mpr ⟨tpw1 126 (by decide +kernel) (by decide +kernel), List.forall_mem_cons.mpr ⟨tpw1 128 (by decide +kernel) (by decide +kernel), List.forall_mem_cons.mpr ⟨tpw1 130 (by decide +kernel) (by decide +kernel), List.forall_mem_cons.mpr ⟨tpw1 132 (by decide +kernel) (by decide +kernel), List.forall_mem_cons.mpr ⟨tpw1 134 (by decide +kernel) (by decide +kernel), List.forall_mem_cons.mpr ⟨tpw1 136 (by decide +kernel) (by decide +kernel), List.forall_mem_cons.mpr ⟨tpw1 138 (by decide +kernel) (by decide +kernel), List.forall_mem_cons.mpr ⟨tpw1 140 (by decide +kernel) (by decide +kernel), fun _ h => absurd h List.not_mem_nil⟩⟩⟩⟩⟩⟩⟩⟩⟩
theorem tpl4 : ∀ w ∈ u_ws RX4 TX4 3, w ∈ tpW := List.forall_mem_cons.mpr ⟨tpw1 57 (by decide +kernel) (by decide +kernel), List.forall_mem_cons.mpr ⟨tpw1 59 (by decide +kernel) (by decide +kernel), List.forall_mem_cons.mpr ⟨tpw1 61 (by decide +kernel) (by decide +kernel), fun _ h => absurd h List.not_mem_nil⟩⟩⟩
theorem tpl5 : ∀ w ∈ u_ws RX5 TX5 9, w ∈ tpW := List.forall_mem_cons.mpr ⟨tpw1 158 (by decide +kernel) (by decide +kernel), List.forall_mem_cons.mpr ⟨tpw1 160 (by decide +kernel) (by decide +kernel), List.forall_mem_cons.mpr ⟨tpw1 162 (by decide +kernel) (by decide +kernel), List.forall_mem_cons.mpr ⟨tpw1 164 (by decide +kernel) (by decide +kernel), List.forall_mem_cons.mpr ⟨tpw1 166 (by decide +kernel) (by decide +kernel), List.forall_mem_cons.mpr ⟨tpw1 168 (by decide +kernel) (by decide +kernel), List.forall_mem_cons.mpr ⟨tpw1 170 (by decide +kernel) (by decide +kernel), List.forall_mem_cons.mpr ⟨tpw1 172 (by decide +kernel) (by decide +kernel), List.forall_mem_cons.mpr ⟨tpw1 174 (by decide +kernel) (by decide +kernel), fun _ h => absurd h List.not_mem_nil⟩⟩⟩⟩⟩⟩⟩⟩⟩
theorem tpl6 : ∀ w ∈ u_ws RX6 TX6 12, w ∈ tpW := List.forall_mem_cons.mpr ⟨tpw2 6 (by decide +kernel) (by decide +kernel), List.forall_mem_cons.mpr ⟨tpw2 8 (by decide +kernel) (by decide +kernel), List.forall_mem_cons.mpr ⟨tpw2 10 (by decide +kernel) (by decide +kernel), List.forall_mem_cons.mpr ⟨tpw2 12 (by decide +kernel) (by decide +kernel), List.forall_mem_cons.mpr ⟨tpw2 14 (by decide +kernel) (by decide +kernel), List.forall_mem_cons.mpr ⟨tpw2 16 (by decide +kernel) (by decide +kernel), List.forall_mem_cons.mpr ⟨tpw2 18 (by decide +kernel) (by decide +kernel), List.forall_mem_cons.mpr ⟨tpw2 20 (by decide +kernel) (by decide +kernel), List.forall_mem_cons.mpr ⟨tpw2 22 (by decide +kernel) (by decide +kernel), List.forall_mem_cons.mpr ⟨tpw2 24 (by decide +kernel) (by decide +kernel), List.forall_mem_cons.mpr ⟨tpw2 26 (by decide +kernel) (by decide +kernel), List.forall_mem_cons.mpr ⟨tpw2 28 (by decide +kernel) (by decide +kernel), fun _ h => absurd h List.not_mem_nil⟩⟩⟩⟩⟩⟩⟩⟩⟩⟩⟩⟩
theorem tpl7 : ∀ w ∈ u_ws RX7 TX7 2, w ∈ tpW := List.forall_mem_cons.mpr ⟨tpw1 45 (by decide +kernel) (by decide +kernel), List.forall_mem_cons.mpr ⟨tpw1 47 (by decide +kernel) (by decide +kernel), fun _ h => absurd h List.not_mem_nil⟩⟩
theorem tpl8 : ∀ w ∈ u_ws RX7 TX7 2, w ∈ tpW := tpl7
theorem tpl9 : ∀ w ∈ u_ws RX9 TX9 3, w ∈ tpW := List.forall_mem_cons.mpr ⟨tpw1 194 (by decide +kernel) (by decide +kernel), List.forall_mem_cons.mpr ⟨tpw1 196 (by decide +kernel) (by decide +kernel), List.forall_mem_cons.mpr ⟨tpw1 198 (by decide +kernel) (by decide +kernel), fun _ h => absurd h List.not_mem_nil⟩⟩⟩
theorem tpl10 : ∀ w ∈ u_ws RX7 TX7 2, w ∈ tpW := tpl7
theorem tpl11 : ∀ w ∈ u_ws RX11 TX11 10, w ∈ tpW := List.forall_mem_cons.mpr ⟨tpw3 212 (by decide +kernel) (by decide +kernel), List.forall_mem_cons.mpr ⟨tpw3 214 (by decide +kernel) (by decide +kernel), List.forall_mem_cons.mpr ⟨tpw3 216 (by decide +kernel) (by decide +kernel), List.forall_mem_cons.mpr ⟨tpw3 218 (by decide +kernel) (by decide +kernel), List.forall_mem_cons.mpr ⟨tpw3 220 (by decide +kernel) (by decide +kernel), List.forall_mem_cons.mpr ⟨tpw3 222 (by decide +kernel) (by decide +kernel), List.forall_mem_cons.mpr ⟨tpw3 224 (by decide +kernel) (by decide +kernel), List.forall_mem_cons.mpr ⟨tpw3 226 (by decide +kernel) (by decide +kernel), List.forall_mem_cons.mpr ⟨tpw3 228 (by decide +kernel) (by decide +kernel), List.forall_mem_cons.mpr ⟨tpw3 230 (by decide +kernel) (by decide +kernel), fun _ h => absurd h List.not_mem_nil⟩⟩⟩⟩⟩⟩⟩⟩⟩⟩
theorem tpl12 : ∀ w ∈ u_ws RX12 TX12 13, w ∈ tpW := List.forall_mem_cons.mpr ⟨tpw2 70 (by decide +kernel) (by decide +kernel), List.forall_mem_cons.mpr ⟨tpw2 72 (by decide +kernel) (by decide +kernel), List.forall_mem_cons.mpr ⟨tpw2 74 (by decide +kernel) (by decide +kernel), List.forall_mem_cons.mpr ⟨tpw2 76 (by decide +kernel) (by decide +kernel), List.forall_mem_cons.mpr ⟨tpw2 78 (by decide +kernel) (by decide +kernel), List.forall_mem_cons.mpr ⟨tpw2 80 (by decide +kernel) (by decide +kernel), List.forall_mem_cons.mpr ⟨tpw2 82 (by decide +kernel) (by decide +kernel), List.forall_mem_cons.mpr ⟨tpw2 84 (by decide +kernel) (by decide +kernel), List.forall_mem_cons.mpr ⟨tpw2 86 (by decide +kernel) (by decide +kernel), List.forall_mem_cons.mpr ⟨tpw2 88 (by decide +kernel) (by decide +kernel), List.forall_mem_cons.mpr ⟨tpw2 90 (by decide +kernel) (by decide +kernel), List.forall_mem_cons.mpr ⟨tpw2 92 (by decide +kernel) (by decide +kernel), List.forall_mem_cons.mpr ⟨tpw2 94 (by decide +kernel) (by decide +kernel), fun _ h => absurd h List.not_mem_nil⟩⟩⟩⟩⟩⟩⟩⟩⟩⟩⟩⟩⟩
theorem tpl13 : ∀ w ∈ u_ws RX7 TX7 2, w ∈ tpW := tpl7
theorem tpl : ∀ (ci : Nat) (r : vw_C), tpCl[ci]? = some r → ∀ w ∈ u_ws r.1 r.2.1 r.2.2, w ∈ tpW := by
  intro ci r h
  match ci, h with
  | 0, h => cases h; exact tpl0
  | 1, h => cases h; exact tpl1
  | 2, h => cases h; exact tpl2
  | 3, h => cases h; exact tpl3
  | 4, h => cases h; exact tpl4
  | 5, h => cases h; exact tpl5
  | 6, h => cases h; exact tpl6
  | 7, h => cases h; exact tpl7
  | 8, h => cases h; exact tpl8
  | 9, h => cases h; exact tpl9
  | 10, h => cases h; exact tpl10
  | 11, h => cases h; exact tpl11
  | 12, h => cases h; exact tpl12
  | 13, h => cases h; exact tpl13
  | n + 14, h => simp [tpCl] at h
theorem tpty : ∀ (ci : Nat) (r : vw_C), tpCl[ci]? = some r → ∀ k, k < r.2.2 → parseFieldDescriptor (r.2.1 k).2.2.1 = some (tpTy ci k) := by
  intro ci r h
  match ci, h with
  | 0, h => cases h; exact tyX0_ok
  | 1, h => cases h; exact tyX1_ok
  | 2, h => cases h; exact tyX2_ok
  | 3, h => cases h; exact tyX3_ok
  | 4, h => cases h; exact tyX4_ok
  | 5, h => cases h; exact tyX5_ok
  | 6, h => cases h; exact tyX6_ok
  | 7, h => cases h; exact tyX7_ok
  | 8, h => cases h; exact tyX7_ok
  | 9, h => cases h; exact tyX9_ok
  | 10, h => cases h; exact tyX7_ok
  | 11, h => cases h; exact tyX11_ok
  | 12, h => cases h; exact tyX12_ok
  | 13, h => cases h; exact tyX7_ok
  | n + 14, h => simp [tpCl] at h
theorem tpnm : ∀ (ci : Nat) (r : vw_C), tpCl[ci]? = some r → ∀ a, a < r.2.2 → ∀ b, b < r.2.2 → a ≠ b → (r.2.1 a).2.1 ≠ (r.2.1 b).2.1 := by
  intro ci r h
  match ci, h with
  | 0, h => cases h; exact nmX0
  | 1, h => cases h; exact nmX1
  | 2, h => cases h; exact nmX2
  | 3, h => cases h; exact nmX3
  | 4, h => cases h; exact nmX4
  | 5, h => cases h; exact nmX5
  | 6, h => cases h; exact nmX6
  | 7, h => cases h; exact nmX7
  | 8, h => cases h; exact nmX7
  | 9, h => cases h; exact nmX9
  | 10, h => cases h; exact nmX7
  | 11, h => cases h; exact nmX11
  | 12, h => cases h; exact nmX12
  | 13, h => cases h; exact nmX7
  | n + 14, h => simp [tpCl] at h
def Bu_init : tpM := (⟨"TwigPatch$Bush", "<init>", "(LTwigPatch$Marks;)V"⟩, prog_2_method_1_code, 2, none, [])
def Bu_has : tpM := (⟨"TwigPatch$Bush", "has", "(I)Z"⟩, prog_2_method_2_code, 2, some (.boolean), [])
def Bu_worthOf : tpM := (⟨"TwigPatch$Bush", "worthOf", "(I)I"⟩, prog_2_method_3_code, 2, some (.int), [])
def Bu_give : tpM := (⟨"TwigPatch$Bush", "give", "(II)V"⟩, prog_2_method_4_code, 3, none, [])
def Bu_upOf : tpM := (⟨"TwigPatch$Bush", "upOf", "(I)I"⟩, prog_2_method_5_code, 2, some (.int), [])
def Bu_lastOf : tpM := (⟨"TwigPatch$Bush", "lastOf", "(I)I"⟩, prog_2_method_6_code, 2, some (.int), [])
def Bu_isChild : tpM := (⟨"TwigPatch$Bush", "isChild", "(II)Z"⟩, prog_2_method_10_code, 3, some (.boolean), [])
def Bu_countChildren : tpM := (⟨"TwigPatch$Bush", "countChildren", "(I)I"⟩, prog_2_method_12_code, 4, some (.int), [])
def Bu_childAhead : tpM := (⟨"TwigPatch$Bush", "childAhead", "(II)I"⟩, prog_2_method_13_code, 6, some (.int), [])
def Bu_isWithin : tpM := (⟨"TwigPatch$Bush", "isWithin", "(II)Z"⟩, prog_2_method_14_code, 5, some (.boolean), [])
def Bu_nextInOrder : tpM := (⟨"TwigPatch$Bush", "nextInOrder", "(II)I"⟩, prog_2_method_16_code, 5, some (.int), [])
def Bu_plant : tpM := (⟨"TwigPatch$Bush", "plant", "(II)V"⟩, prog_2_method_17_code, 3, none, [])
def Bu_sprout : tpM := (⟨"TwigPatch$Bush", "sprout", "(II)V"⟩, prog_2_method_18_code, 3, none, [])
def Bu_hang : tpM := (⟨"TwigPatch$Bush", "hang", "(III)V"⟩, prog_2_method_19_code, 6, none, [])
def Bu_cut : tpM := (⟨"TwigPatch$Bush", "cut", "(I)V"⟩, prog_2_method_20_code, 2, none, [])
def Bu_join : tpM := (⟨"TwigPatch$Bush", "join", "(III)V"⟩, prog_2_method_21_code, 4, none, [])
def Bu_lowerChild : tpM := (⟨"TwigPatch$Bush", "lowerChild", "(II)I"⟩, prog_2_method_22_code, 5, some (.int), [])
def Bu_erase : tpM := (⟨"TwigPatch$Bush", "erase", "(I)I"⟩, prog_2_method_23_code, 5, some (.int), [])
def Bu_takeOver : tpM := (⟨"TwigPatch$Bush", "takeOver", "(LTwigPatch$Tree;)V"⟩, prog_2_method_24_code, 5, none, [])
def Bu_freeze : tpM := (⟨"TwigPatch$Bush", "freeze", "()LTwigPatch$Tree;"⟩, prog_2_method_25_code, 4, some ((.object "TwigPatch$Tree")), [])
def Fi_init : tpM := (⟨"TwigPatch$Finder", "<init>", "(LTwigPatch$Marks;LTwigPatch$Bush;LTwigPatch$Matching;)V"⟩, prog_3_method_1_code, 4, none, [])
def Hi_init : tpM := (⟨"TwigPatch$History", "<init>", "()V"⟩, prog_4_method_1_code, 1, none, [])
def Li_init : tpM := (⟨"TwigPatch$Likes", "<init>", "(LTwigPatch$Marks;)V"⟩, prog_5_method_1_code, 2, none, [])
def Ma_init : tpM := (⟨"TwigPatch$Marks", "<init>", "()V"⟩, prog_6_method_1_code, 1, none, [])
def Ma_make : tpM := (⟨"TwigPatch$Marks", "make", "(II)I"⟩, prog_6_method_2_code, 4, some (.int), [])
def Ma_isLoose : tpM := (⟨"TwigPatch$Marks", "isLoose", "(I)Z"⟩, prog_6_method_5_code, 2, some (.boolean), [])
def Mt_init : tpM := (⟨"TwigPatch$Matching", "<init>", "(LTwigPatch$Marks;LTwigPatch$Likes;)V"⟩, prog_7_method_1_code, 3, none, [])
def Mg_init : tpM := (⟨"TwigPatch$Merger", "<init>", "(LTwigPatch$Marks;LTwigPatch$Bush;)V"⟩, prog_8_method_1_code, 3, none, [])
def Mg_mergeTrees : tpM := (⟨"TwigPatch$Merger", "mergeTrees", "(LTwigPatch$Tree;LTwigPatch$Tree;LTwigPatch$Tree;)LTwigPatch$Tree;"⟩, prog_8_method_2_code, 7, some ((.object "TwigPatch$Tree")), [])
def Mg_sproutAll : tpM := (⟨"TwigPatch$Merger", "sproutAll", "(I)V"⟩, prog_8_method_3_code, 3, none, [])
def Mg_list : tpM := (⟨"TwigPatch$Merger", "list", "(II)V"⟩, prog_8_method_4_code, 3, none, [])
def Mg_decide : tpM := (⟨"TwigPatch$Merger", "decide", "(LTwigPatch$Tree;LTwigPatch$Tree;LTwigPatch$Tree;I)V"⟩, prog_8_method_5_code, 9, none, [])
def Mg_letIn : tpM := (⟨"TwigPatch$Merger", "letIn", "(III)V"⟩, prog_8_method_6_code, 4, none, [])
def Mg_choose : tpM := (⟨"TwigPatch$Merger", "choose", "(IIZIII)I"⟩, prog_8_method_7_code, 8, some (.int), [])
def Mg_staysWithOne : tpM := (⟨"TwigPatch$Merger", "staysWithOne", "(LTwigPatch$Tree;LTwigPatch$Tree;II)Z"⟩, prog_8_method_8_code, 6, some (.boolean), [])
def Mg_isTouched : tpM := (⟨"TwigPatch$Merger", "isTouched", "(LTwigPatch$Tree;LTwigPatch$Tree;I)Z"⟩, prog_8_method_9_code, 6, some (.boolean), [])
def Mg_mendParents : tpM := (⟨"TwigPatch$Merger", "mendParents", "(LTwigPatch$Tree;)V"⟩, prog_8_method_10_code, 5, none, [])
def Mg_lowestLost : tpM := (⟨"TwigPatch$Merger", "lowestLost", "()I"⟩, prog_8_method_11_code, 3, some (.int), [])
def Mg_lowestInRing : tpM := (⟨"TwigPatch$Merger", "lowestInRing", "()I"⟩, prog_8_method_12_code, 2, some (.int), [])
def Mg_isInRing : tpM := (⟨"TwigPatch$Merger", "isInRing", "(I)Z"⟩, prog_8_method_13_code, 4, some (.boolean), [])
def Mg_breakRing : tpM := (⟨"TwigPatch$Merger", "breakRing", "(LTwigPatch$Tree;I)V"⟩, prog_8_method_14_code, 5, none, [])
def Mg_hangChildren : tpM := (⟨"TwigPatch$Merger", "hangChildren", "(LTwigPatch$Tree;LTwigPatch$Tree;LTwigPatch$Tree;I)V"⟩, prog_8_method_15_code, 6, none, [])
def Mg_readShared : tpM := (⟨"TwigPatch$Merger", "readShared", "(LTwigPatch$Tree;LTwigPatch$Tree;ILTwigPatch$Row;)V"⟩, prog_8_method_16_code, 8, none, [])
def Mg_leader : tpM := (⟨"TwigPatch$Merger", "leader", "(LTwigPatch$Tree;I)LTwigPatch$Row;"⟩, prog_8_method_17_code, 4, some ((.object "TwigPatch$Row")), [])
def Mg_isTurned : tpM := (⟨"TwigPatch$Merger", "isTurned", "(LTwigPatch$Tree;LTwigPatch$Row;)Z"⟩, prog_8_method_18_code, 4, some (.boolean), [])
def Mg_hangShared : tpM := (⟨"TwigPatch$Merger", "hangShared", "(LTwigPatch$Row;I)V"⟩, prog_8_method_19_code, 6, none, [])
def Mg_nearestOf : tpM := (⟨"TwigPatch$Merger", "nearestOf", "(LTwigPatch$Tree;LTwigPatch$Tree;II)I"⟩, prog_8_method_20_code, 5, some (.int), [])
def Mg_nearestAhead : tpM := (⟨"TwigPatch$Merger", "nearestAhead", "(LTwigPatch$Tree;II)I"⟩, prog_8_method_21_code, 8, some (.int), [])
def Ro_init : tpM := (⟨"TwigPatch$Row", "<init>", "(I)V"⟩, prog_9_method_1_code, 2, none, [])
def Ro_at : tpM := (⟨"TwigPatch$Row", "at", "(I)I"⟩, prog_9_method_2_code, 2, some (.int), [])
def Ro_put : tpM := (⟨"TwigPatch$Row", "put", "(II)V"⟩, prog_9_method_3_code, 3, none, [])
def Ro_fill : tpM := (⟨"TwigPatch$Row", "fill", "(II)V"⟩, prog_9_method_4_code, 4, none, [])
def Ro_clear : tpM := (⟨"TwigPatch$Row", "clear", "()V"⟩, prog_9_method_5_code, 1, none, [])
def Ro_push : tpM := (⟨"TwigPatch$Row", "push", "(I)V"⟩, prog_9_method_6_code, 2, none, [])
def Ro_lengthen : tpM := (⟨"TwigPatch$Row", "lengthen", "()V"⟩, prog_9_method_7_code, 2, none, [])
def Ro_hasSamePushed : tpM := (⟨"TwigPatch$Row", "hasSamePushed", "(LTwigPatch$Row;)Z"⟩, prog_9_method_8_code, 3, some (.boolean), [])
def Sp_init : tpM := (⟨"TwigPatch$Spot", "<init>", "(III)V"⟩, prog_11_method_1_code, 4, none, [])
def Tr_init : tpM := (⟨"TwigPatch$Tree", "<init>", "(II)V"⟩, prog_13_method_1_code, 3, none, [])
def Tr_fillPlace : tpM := (⟨"TwigPatch$Tree", "fillPlace", "(IIII)V"⟩, prog_13_method_2_code, 7, none, [])
def Tr_close : tpM := (⟨"TwigPatch$Tree", "close", "()V"⟩, prog_13_method_3_code, 4, none, [])
def Tr_markOf : tpM := (⟨"TwigPatch$Tree", "markOf", "(I)I"⟩, prog_13_method_4_code, 2, some (.int), [])
def Tr_worthOf : tpM := (⟨"TwigPatch$Tree", "worthOf", "(I)I"⟩, prog_13_method_5_code, 2, some (.int), [])
def Tr_upOf : tpM := (⟨"TwigPatch$Tree", "upOf", "(I)I"⟩, prog_13_method_6_code, 2, some (.int), [])
def Tr_rankOf : tpM := (⟨"TwigPatch$Tree", "rankOf", "(I)I"⟩, prog_13_method_9_code, 2, some (.int), [])
def Tr_kidsOf : tpM := (⟨"TwigPatch$Tree", "kidsOf", "(I)I"⟩, prog_13_method_10_code, 2, some (.int), [])
def Tr_kid : tpM := (⟨"TwigPatch$Tree", "kid", "(II)I"⟩, prog_13_method_11_code, 3, some (.int), [])
def Tr_placeOf : tpM := (⟨"TwigPatch$Tree", "placeOf", "(I)I"⟩, prog_13_method_12_code, 2, some (.int), [])
def Tr_holds : tpM := (⟨"TwigPatch$Tree", "holds", "(I)Z"⟩, prog_13_method_13_code, 2, some (.boolean), [])
def Tr_worthOfMark : tpM := (⟨"TwigPatch$Tree", "worthOfMark", "(I)I"⟩, prog_13_method_14_code, 2, some (.int), [])
def Tr_parentOfMark : tpM := (⟨"TwigPatch$Tree", "parentOfMark", "(I)I"⟩, prog_13_method_15_code, 2, some (.int), [])
def Tr_hasUnder : tpM := (⟨"TwigPatch$Tree", "hasUnder", "(II)Z"⟩, prog_13_method_16_code, 4, some (.boolean), [])
def Tr_hasSame : tpM := (⟨"TwigPatch$Tree", "hasSame", "(LTwigPatch$Tree;I)Z"⟩, prog_13_method_17_code, 5, some (.boolean), [])
def TP_init : tpM := (⟨"TwigPatch", "<init>", "()V"⟩, prog_1_method_1_code, 1, none, [])
def TP_begin : tpM := (⟨"TwigPatch", "begin", "(III)I"⟩, prog_1_method_2_code, 5, some (.int), [])
def TP_copy : tpM := (⟨"TwigPatch", "copy", "(I)I"⟩, prog_1_method_3_code, 3, some (.int), [])
def TP_node : tpM := (⟨"TwigPatch", "node", "(IIIII)I"⟩, prog_1_method_4_code, 7, some (.int), [])
def TP_set : tpM := (⟨"TwigPatch", "set", "(II)I"⟩, prog_1_method_5_code, 4, some (.int), [])
def TP_move : tpM := (⟨"TwigPatch", "move", "(III)I"⟩, prog_1_method_6_code, 5, some (.int), [])
def TP_drop : tpM := (⟨"TwigPatch", "drop", "(I)I"⟩, prog_1_method_7_code, 2, some (.int), [])
def TP_seal : tpM := (⟨"TwigPatch", "seal", "()I"⟩, prog_1_method_8_code, 1, some (.int), [])
def TP_setPolicy : tpM := (⟨"TwigPatch", "setPolicy", "(II)I"⟩, prog_1_method_13_code, 5, some (.int), [])
def TP_merge : tpM := (⟨"TwigPatch", "merge", "(III)I"⟩, prog_1_method_14_code, 7, some (.int), [])
def TP_trees : tpM := (⟨"TwigPatch", "trees", "()I"⟩, prog_1_method_18_code, 1, some (.int), [])
def TP_size : tpM := (⟨"TwigPatch", "size", "(I)I"⟩, prog_1_method_19_code, 2, some (.int), [])
def TP_markAt : tpM := (⟨"TwigPatch", "markAt", "(II)I"⟩, prog_1_method_20_code, 4, some (.int), [])
def TP_value : tpM := (⟨"TwigPatch", "value", "(II)I"⟩, prog_1_method_21_code, 4, some (.int), [])
def TP_parent : tpM := (⟨"TwigPatch", "parent", "(II)I"⟩, prog_1_method_22_code, 4, some (.int), [])
def TP_conflicts : tpM := (⟨"TwigPatch", "conflicts", "()I"⟩, prog_1_method_31_code, 1, some (.int), [])
def TP_conflictKind : tpM := (⟨"TwigPatch", "conflictKind", "(I)I"⟩, prog_1_method_32_code, 2, some (.int), [])
def TP_conflictMark : tpM := (⟨"TwigPatch", "conflictMark", "(I)I"⟩, prog_1_method_33_code, 2, some (.int), [])
def TP_needTree : tpM := (⟨"TwigPatch", "needTree", "(I)LTwigPatch$Tree;"⟩, prog_1_method_38_code, 3, some ((.object "TwigPatch$Tree")), [])
def TP_needConflict : tpM := (⟨"TwigPatch", "needConflict", "(I)V"⟩, prog_1_method_43_code, 2, none, [])
def TP_needMade : tpM := (⟨"TwigPatch", "needMade", "(I)V"⟩, prog_1_method_44_code, 2, none, [])
def TP_needDrafted : tpM := (⟨"TwigPatch", "needDrafted", "(I)V"⟩, prog_1_method_46_code, 2, none, [])
def TP_needPlace : tpM := (⟨"TwigPatch", "needPlace", "(III)V"⟩, prog_1_method_47_code, 5, none, [])
def TP_needKind : tpM := (⟨"TwigPatch", "needKind", "(I)V"⟩, prog_1_method_48_code, 2, none, [])
def TP_needValue : tpM := (⟨"TwigPatch", "needValue", "(I)V"⟩, prog_1_method_49_code, 2, none, [])
def TP_needLooks : tpM := (⟨"TwigPatch", "needLooks", "(III)V"⟩, prog_1_method_50_code, 4, none, [])
def TP_needFreeMark : tpM := (⟨"TwigPatch", "needFreeMark", "()V"⟩, prog_1_method_51_code, 1, none, [])
def TP_needRoomForTree : tpM := (⟨"TwigPatch", "needRoomForTree", "()V"⟩, prog_1_method_52_code, 1, none, [])
def TP_needSameRoots : tpM := (⟨"TwigPatch", "needSameRoots", "(LTwigPatch$Tree;LTwigPatch$Tree;LTwigPatch$Tree;)V"⟩, prog_1_method_56_code, 5, none, [])
def TP_keepTree : tpM := (⟨"TwigPatch", "keepTree", "(LTwigPatch$Tree;)I"⟩, prog_1_method_58_code, 2, some (.int), [])
def JM_max_7cf53 : tpM := (⟨"java/lang/Math", "max", "(II)I"⟩, prog_21_method_65_code, 2, some (.int), [])
def JM_min_7cf53 : tpM := (⟨"java/lang/Math", "min", "(II)I"⟩, prog_21_method_69_code, 2, some (.int), [])
def JA_copyOf_59c91 : tpM := (⟨"java/util/Arrays", "copyOf", "([II)[I"⟩, prog_26_method_123_code, 3, some ((.array .int)), [])
def Lw_mark : tpM := (⟨"TwigPatchLaw", "mark", "([II)I"⟩, method_2_code, 2, some (.int), [])
def Lw_parent : tpM := (⟨"TwigPatchLaw", "parent", "([II)I"⟩, method_3_code, 2, some (.int), [])
def Lw_value : tpM := (⟨"TwigPatchLaw", "value", "([II)I"⟩, method_4_code, 2, some (.int), [])
def Lw_place : tpM := (⟨"TwigPatchLaw", "place", "([II)I"⟩, method_5_code, 4, some (.int), [])
def Lw_parentOf : tpM := (⟨"TwigPatchLaw", "parentOf", "([II)I"⟩, method_6_code, 3, some (.int), [])
def Lw_valueOf : tpM := (⟨"TwigPatchLaw", "valueOf", "([II)I"⟩, method_7_code, 3, some (.int), [])
def Lw_reads : tpM := (⟨"TwigPatchLaw", "reads", "(LTwigPatch;I[I)V"⟩, method_8_code, 5, none, [])
def Lw_children : tpM := (⟨"TwigPatchLaw", "children", "([I[II[I)I"⟩, method_9_code, 7, some (.int), [])
def Lw_puts : tpM := (⟨"TwigPatchLaw", "puts", "([III)V"⟩, method_10_code, 4, none, [])
def Lw_takes : tpM := (⟨"TwigPatchLaw", "takes", "([II)V"⟩, method_11_code, 3, none, [])
def Lw_spot : tpM := (⟨"TwigPatchLaw", "spot", "([I[III)I"⟩, method_12_code, 6, some (.int), [])
def Lw_isBelow : tpM := (⟨"TwigPatchLaw", "isBelow", "([III)Z"⟩, method_13_code, 4, some (.boolean), [])
def Lw_does : tpM := (⟨"TwigPatchLaw", "does", "(LTwigPatch;IIII)I"⟩, method_14_code, 6, some (.int), [((0 : Nat), (155 : Nat), (156 : Nat), (76 : Nat)), ((0 : Nat), (155 : Nat), (161 : Nat), (78 : Nat)), ((0 : Nat), (155 : Nat), (166 : Nat), (80 : Nat))])
def Lw_isTree : tpM := (⟨"TwigPatchLaw", "isTree", "(LTwigPatch;I[I[I)Z"⟩, method_15_code, 13, some (.boolean), [])
def Lw_adds : tpM := (⟨"TwigPatchLaw", "adds", "([II)V"⟩, method_16_code, 2, none, [])
def Lw_decided : tpM := (⟨"TwigPatchLaw", "decided", "([I[IIIIIII)I"⟩, method_17_code, 8, some (.int), [])
def Lw_isTouched : tpM := (⟨"TwigPatchLaw", "isTouched", "([I[II)Z"⟩, method_18_code, 5, some (.boolean), [])
def Lw_comes : tpM := (⟨"TwigPatchLaw", "comes", "([I[I[I[I[II)I"⟩, method_19_code, 11, some (.int), [])
def Lw_mends : tpM := (⟨"TwigPatchLaw", "mends", "([I[I[I)V"⟩, method_20_code, 10, none, [])
def Lw_at : tpM := (⟨"TwigPatchLaw", "at", "([III)I"⟩, method_21_code, 5, some (.int), [])
def Lw_shares : tpM := (⟨"TwigPatchLaw", "shares", "([I[II[II[I)Z"⟩, method_22_code, 13, some (.boolean), [])
def Lw_ahead : tpM := (⟨"TwigPatchLaw", "ahead", "([I[III[I)I"⟩, method_23_code, 11, some (.int), [])
def Lw_putsBehind : tpM := (⟨"TwigPatchLaw", "putsBehind", "([III)V"⟩, method_24_code, 5, none, [])
def Lw_orders : tpM := (⟨"TwigPatchLaw", "orders", "([I[I[I[I[I[II[I)Z"⟩, method_25_code, 24, some (.boolean), [])
def Lw_isMerged : tpM := (⟨"TwigPatchLaw", "isMerged", "(LTwigPatch;I[I[I[I[I[II)Z"⟩, method_26_code, 19, some (.boolean), [])
def Lw_isChanged : tpM := (⟨"TwigPatchLaw", "isChanged", "(LTwigPatch;[I[I[II)Z"⟩, method_27_code, 15, some (.boolean), [])
def Lw_law : tpM := (x, code, maxLocals, ret, [])
