def RX0 : String := "TwigPatch$Bush"
def TX0 : u_T := fun k => match k with
  | 0 => ("TwigPatch$Bush", "marks", "LTwigPatch$Marks;", true)
  | 1 => ("TwigPatch$Bush", "held", "LTwigPatch$Row;", true)
  | 2 => ("TwigPatch$Bush", "worth", "LTwigPatch$Row;", true)
  | 3 => ("TwigPatch$Bush", "up", "LTwigPatch$Row;", true)
  | 4 => ("TwigPatch$Bush", "first", "LTwigPatch$Row;", true)
  | 5 => ("TwigPatch$Bush", "last", "LTwigPatch$Row;", true)
  | 6 => ("TwigPatch$Bush", "ahead", "LTwigPatch$Row;", true)
  | 7 => ("TwigPatch$Bush", "behind", "LTwigPatch$Row;", true)
  | 8 => ("TwigPatch$Bush", "root", "I", false)
  | _ => ("TwigPatch$Bush", "count", "I", false)
def tyX0 : Nat → FieldType := fun k => match k with
  | 0 => .object "TwigPatch$Marks"
  | 1 => .object "TwigPatch$Row"
  | 2 => .object "TwigPatch$Row"
  | 3 => .object "TwigPatch$Row"
  | 4 => .object "TwigPatch$Row"
  | 5 => .object "TwigPatch$Row"
  | 6 => .object "TwigPatch$Row"
  | 7 => .object "TwigPatch$Row"
  | 8 => .int
  | _ => .int
abbrev wsX00 : List Cond := u_ws RX0 TX0 10
theorem nmX0 : ∀ a, a < 10 → ∀ b, b < 10 → a ≠ b → (TX0 a).2.1 ≠ (TX0 b).2.1 := by decide +kernel
theorem tyX0_ok : ∀ k, k < 10 → parseFieldDescriptor (TX0 k).2.2.1 = some (tyX0 k) := by decide +kernel
def RX1 : String := "TwigPatch$Finder"
def TX1 : u_T := fun k => match k with
  | 0 => ("TwigPatch$Finder", "marks", "LTwigPatch$Marks;", true)
  | 1 => ("TwigPatch$Finder", "copy", "LTwigPatch$Bush;", true)
  | 2 => ("TwigPatch$Finder", "matching", "LTwigPatch$Matching;", true)
  | 3 => ("TwigPatch$Finder", "twins", "LTwigPatch$Row;", true)
  | 4 => ("TwigPatch$Finder", "kept", "LTwigPatch$Row;", true)
  | 5 => ("TwigPatch$Finder", "order", "LTwigPatch$Row;", true)
  | _ => ("TwigPatch$Finder", "nowhere", "LTwigPatch$Spot;", true)
def tyX1 : Nat → FieldType := fun k => match k with
  | 0 => .object "TwigPatch$Marks"
  | 1 => .object "TwigPatch$Bush"
  | 2 => .object "TwigPatch$Matching"
  | 3 => .object "TwigPatch$Row"
  | 4 => .object "TwigPatch$Row"
  | 5 => .object "TwigPatch$Row"
  | _ => .object "TwigPatch$Spot"
abbrev wsX10 : List Cond := u_ws RX1 TX1 7
theorem nmX1 : ∀ a, a < 7 → ∀ b, b < 7 → a ≠ b → (TX1 a).2.1 ≠ (TX1 b).2.1 := by decide +kernel
theorem tyX1_ok : ∀ k, k < 7 → parseFieldDescriptor (TX1 k).2.2.1 = some (tyX1 k) := by decide +kernel
def RX2 : String := "TwigPatch$History"
def TX2 : u_T := fun k => match k with
  | 0 => ("TwigPatch$History", "treeNumbers", "LTwigPatch$Row;", true)
  | 1 => ("TwigPatch$History", "firsts", "LTwigPatch$Row;", true)
  | 2 => ("TwigPatch$History", "seconds", "LTwigPatch$Row;", true)
  | 3 => ("TwigPatch$History", "reached", "LTwigPatch$Row;", true)
  | 4 => ("TwigPatch$History", "line", "LTwigPatch$Row;", true)
  | 5 => ("TwigPatch$History", "count", "I", false)
  | _ => ("TwigPatch$History", "lineLength", "I", false)
def tyX2 : Nat → FieldType := fun k => match k with
  | 0 => .object "TwigPatch$Row"
  | 1 => .object "TwigPatch$Row"
  | 2 => .object "TwigPatch$Row"
  | 3 => .object "TwigPatch$Row"
  | 4 => .object "TwigPatch$Row"
  | 5 => .int
  | _ => .int
abbrev wsX20 : List Cond := u_ws RX2 TX2 7
theorem nmX2 : ∀ a, a < 7 → ∀ b, b < 7 → a ≠ b → (TX2 a).2.1 ≠ (TX2 b).2.1 := by decide +kernel
theorem tyX2_ok : ∀ k, k < 7 → parseFieldDescriptor (TX2 k).2.2.1 = some (tyX2 k) := by decide +kernel
def RX3 : String := "TwigPatch$Likes"
def TX3 : u_T := fun k => match k with
  | 0 => ("TwigPatch$Likes", "marks", "LTwigPatch$Marks;", true)
  | 1 => ("TwigPatch$Likes", "familyOf", "LTwigPatch$Row;", true)
  | 2 => ("TwigPatch$Likes", "memberMark", "LTwigPatch$Row;", true)
  | 3 => ("TwigPatch$Likes", "memberWorth", "LTwigPatch$Row;", true)
  | 4 => ("TwigPatch$Likes", "runFrom", "LTwigPatch$Row;", true)
  | 5 => ("TwigPatch$Likes", "runCount", "LTwigPatch$Row;", true)
  | 6 => ("TwigPatch$Likes", "runs", "LTwigPatch$Row;", true)
  | 7 => ("TwigPatch$Likes", "families", "I", false)
  | _ => ("TwigPatch$Likes", "runsUsed", "I", false)
def tyX3 : Nat → FieldType := fun k => match k with
  | 0 => .object "TwigPatch$Marks"
  | 1 => .object "TwigPatch$Row"
  | 2 => .object "TwigPatch$Row"
  | 3 => .object "TwigPatch$Row"
  | 4 => .object "TwigPatch$Row"
  | 5 => .object "TwigPatch$Row"
  | 6 => .object "TwigPatch$Row"
  | 7 => .int
  | _ => .int
abbrev wsX30 : List Cond := u_ws RX3 TX3 9
theorem nmX3 : ∀ a, a < 9 → ∀ b, b < 9 → a ≠ b → (TX3 a).2.1 ≠ (TX3 b).2.1 := by decide +kernel
theorem tyX3_ok : ∀ k, k < 9 → parseFieldDescriptor (TX3 k).2.2.1 = some (tyX3 k) := by decide +kernel
def RX4 : String := "TwigPatch$Marks"
def TX4 : u_T := fun k => match k with
  | 0 => ("TwigPatch$Marks", "kinds", "LTwigPatch$Row;", true)
  | 1 => ("TwigPatch$Marks", "identities", "LTwigPatch$Row;", true)
  | _ => ("TwigPatch$Marks", "made", "I", false)
def tyX4 : Nat → FieldType := fun k => match k with
  | 0 => .object "TwigPatch$Row"
  | 1 => .object "TwigPatch$Row"
  | _ => .int
abbrev wsX40 : List Cond := u_ws RX4 TX4 3
theorem nmX4 : ∀ a, a < 3 → ∀ b, b < 3 → a ≠ b → (TX4 a).2.1 ≠ (TX4 b).2.1 := by decide +kernel
theorem tyX4_ok : ∀ k, k < 3 → parseFieldDescriptor (TX4 k).2.2.1 = some (tyX4 k) := by decide +kernel
def RX5 : String := "TwigPatch$Matching"
def TX5 : u_T := fun k => match k with
  | 0 => ("TwigPatch$Matching", "marks", "LTwigPatch$Marks;", true)
  | 1 => ("TwigPatch$Matching", "likes", "LTwigPatch$Likes;", true)
  | 2 => ("TwigPatch$Matching", "toNew", "LTwigPatch$Row;", true)
  | 3 => ("TwigPatch$Matching", "toOld", "LTwigPatch$Row;", true)
  | 4 => ("TwigPatch$Matching", "freeOld", "LTwigPatch$Row;", true)
  | 5 => ("TwigPatch$Matching", "freeNew", "LTwigPatch$Row;", true)
  | 6 => ("TwigPatch$Matching", "hitsUpTo", "LTwigPatch$Row;", true)
  | 7 => ("TwigPatch$Matching", "lastOld", "LTwigPatch$Tree;", false)
  | _ => ("TwigPatch$Matching", "lastYoung", "LTwigPatch$Tree;", false)
def tyX5 : Nat → FieldType := fun k => match k with
  | 0 => .object "TwigPatch$Marks"
  | 1 => .object "TwigPatch$Likes"
  | 2 => .object "TwigPatch$Row"
  | 3 => .object "TwigPatch$Row"
  | 4 => .object "TwigPatch$Row"
  | 5 => .object "TwigPatch$Row"
  | 6 => .object "TwigPatch$Row"
  | 7 => .object "TwigPatch$Tree"
  | _ => .object "TwigPatch$Tree"
abbrev wsX50 : List Cond := u_ws RX5 TX5 9
theorem nmX5 : ∀ a, a < 9 → ∀ b, b < 9 → a ≠ b → (TX5 a).2.1 ≠ (TX5 b).2.1 := by decide +kernel
theorem tyX5_ok : ∀ k, k < 9 → parseFieldDescriptor (TX5 k).2.2.1 = some (tyX5 k) := by decide +kernel
def RX6 : String := "TwigPatch$Merger"
def TX6 : u_T := fun k => match k with
  | 0 => ("TwigPatch$Merger", "marks", "LTwigPatch$Marks;", true)
  | 1 => ("TwigPatch$Merger", "result", "LTwigPatch$Bush;", true)
  | 2 => ("TwigPatch$Merger", "policies", "LTwigPatch$Row;", true)
  | 3 => ("TwigPatch$Merger", "inside", "LTwigPatch$Row;", true)
  | 4 => ("TwigPatch$Merger", "worth", "LTwigPatch$Row;", true)
  | 5 => ("TwigPatch$Merger", "up", "LTwigPatch$Row;", true)
  | 6 => ("TwigPatch$Merger", "ringed", "LTwigPatch$Row;", true)
  | 7 => ("TwigPatch$Merger", "baseOrder", "LTwigPatch$Row;", true)
  | 8 => ("TwigPatch$Merger", "leftOrder", "LTwigPatch$Row;", true)
  | 9 => ("TwigPatch$Merger", "rightOrder", "LTwigPatch$Row;", true)
  | 10 => ("TwigPatch$Merger", "conflictKinds", "LTwigPatch$Row;", true)
  | _ => ("TwigPatch$Merger", "conflictMarks", "LTwigPatch$Row;", true)
def tyX6 : Nat → FieldType := fun k => match k with
  | 0 => .object "TwigPatch$Marks"
  | 1 => .object "TwigPatch$Bush"
  | 2 => .object "TwigPatch$Row"
  | 3 => .object "TwigPatch$Row"
  | 4 => .object "TwigPatch$Row"
  | 5 => .object "TwigPatch$Row"
  | 6 => .object "TwigPatch$Row"
  | 7 => .object "TwigPatch$Row"
  | 8 => .object "TwigPatch$Row"
  | 9 => .object "TwigPatch$Row"
  | 10 => .object "TwigPatch$Row"
  | _ => .object "TwigPatch$Row"
abbrev wsX60 : List Cond := u_ws RX6 TX6 12
theorem nmX6 : ∀ a, a < 12 → ∀ b, b < 12 → a ≠ b → (TX6 a).2.1 ≠ (TX6 b).2.1 := by decide +kernel
theorem tyX6_ok : ∀ k, k < 12 → parseFieldDescriptor (TX6 k).2.2.1 = some (tyX6 k) := by decide +kernel
def RX7 : String := "TwigPatch$Row"
def TX7 : u_T := fun k => match k with
  | 0 => ("TwigPatch$Row", "cells", "[I", false)
  | _ => ("TwigPatch$Row", "used", "I", false)
def tyX7 : Nat → FieldType := fun k => match k with
  | 0 => .array .int
  | _ => .int
abbrev wsX70 : List Cond := u_ws RX7 TX7 2
theorem nmX7 : ∀ a, a < 2 → ∀ b, b < 2 → a ≠ b → (TX7 a).2.1 ≠ (TX7 b).2.1 := by decide +kernel
theorem tyX7_ok : ∀ k, k < 2 → parseFieldDescriptor (TX7 k).2.2.1 = some (tyX7 k) := by decide +kernel
def RX8 : String := "TwigPatch$Script"
def TX8 : u_T := fun k => match k with
  | _ => ("", "", "", false)
def tyX8 : Nat → FieldType := fun k => match k with
  | _ => .int
abbrev wsX80 : List Cond := u_ws RX8 TX8 0
theorem nmX8 : ∀ a, a < 0 → ∀ b, b < 0 → a ≠ b → (TX8 a).2.1 ≠ (TX8 b).2.1 := by decide +kernel
theorem tyX8_ok : ∀ k, k < 0 → parseFieldDescriptor (TX8 k).2.2.1 = some (tyX8 k) := by decide +kernel
def RX9 : String := "TwigPatch$Spot"
def TX9 : u_T := fun k => match k with
  | 0 => ("TwigPatch$Spot", "under", "I", true)
  | 1 => ("TwigPatch$Spot", "ahead", "I", true)
  | _ => ("TwigPatch$Spot", "behind", "I", true)
def tyX9 : Nat → FieldType := fun k => match k with
  | 0 => .int
  | 1 => .int
  | _ => .int
abbrev wsX90 : List Cond := u_ws RX9 TX9 3
theorem nmX9 : ∀ a, a < 3 → ∀ b, b < 3 → a ≠ b → (TX9 a).2.1 ≠ (TX9 b).2.1 := by decide +kernel
theorem tyX9_ok : ∀ k, k < 3 → parseFieldDescriptor (TX9 k).2.2.1 = some (tyX9 k) := by decide +kernel
def RX10 : String := "TwigPatch$Step"
def TX10 : u_T := fun k => match k with
  | _ => ("", "", "", false)
def tyX10 : Nat → FieldType := fun k => match k with
  | _ => .int
abbrev wsX100 : List Cond := u_ws RX10 TX10 0
theorem nmX10 : ∀ a, a < 0 → ∀ b, b < 0 → a ≠ b → (TX10 a).2.1 ≠ (TX10 b).2.1 := by decide +kernel
theorem tyX10_ok : ∀ k, k < 0 → parseFieldDescriptor (TX10 k).2.2.1 = some (tyX10 k) := by decide +kernel
def RX11 : String := "TwigPatch$Tree"
def TX11 : u_T := fun k => match k with
  | 0 => ("TwigPatch$Tree", "count", "I", true)
  | 1 => ("TwigPatch$Tree", "placeMark", "LTwigPatch$Row;", true)
  | 2 => ("TwigPatch$Tree", "placeWorth", "LTwigPatch$Row;", true)
  | 3 => ("TwigPatch$Tree", "placeUp", "LTwigPatch$Row;", true)
  | 4 => ("TwigPatch$Tree", "placeEnd", "LTwigPatch$Row;", true)
  | 5 => ("TwigPatch$Tree", "placeRank", "LTwigPatch$Row;", true)
  | 6 => ("TwigPatch$Tree", "kidsFrom", "LTwigPatch$Row;", true)
  | 7 => ("TwigPatch$Tree", "kidsCount", "LTwigPatch$Row;", true)
  | 8 => ("TwigPatch$Tree", "kidPlaces", "LTwigPatch$Row;", true)
  | _ => ("TwigPatch$Tree", "markPlace", "LTwigPatch$Row;", true)
def tyX11 : Nat → FieldType := fun k => match k with
  | 0 => .int
  | 1 => .object "TwigPatch$Row"
  | 2 => .object "TwigPatch$Row"
  | 3 => .object "TwigPatch$Row"
  | 4 => .object "TwigPatch$Row"
  | 5 => .object "TwigPatch$Row"
  | 6 => .object "TwigPatch$Row"
  | 7 => .object "TwigPatch$Row"
  | 8 => .object "TwigPatch$Row"
  | _ => .object "TwigPatch$Row"
abbrev wsX110 : List Cond := u_ws RX11 TX11 10
theorem nmX11 : ∀ a, a < 10 → ∀ b, b < 10 → a ≠ b → (TX11 a).2.1 ≠ (TX11 b).2.1 := by decide +kernel
theorem tyX11_ok : ∀ k, k < 10 → parseFieldDescriptor (TX11 k).2.2.1 = some (tyX11 k) := by decide +kernel
def RX12 : String := "TwigPatch"
def TX12 : u_T := fun k => match k with
  | 0 => ("TwigPatch", "marks", "LTwigPatch$Marks;", true)
  | 1 => ("TwigPatch", "draft", "LTwigPatch$Bush;", true)
  | 2 => ("TwigPatch", "bench", "LTwigPatch$Bush;", true)
  | 3 => ("TwigPatch", "forest", "[LTwigPatch$Tree;", true)
  | 4 => ("TwigPatch", "treeCount", "I", false)
  | 5 => ("TwigPatch", "scripts", "[LTwigPatch$Script;", true)
  | 6 => ("TwigPatch", "scriptCount", "I", false)
  | 7 => ("TwigPatch", "likes", "LTwigPatch$Likes;", true)
  | 8 => ("TwigPatch", "matching", "LTwigPatch$Matching;", true)
  | 9 => ("TwigPatch", "finder", "LTwigPatch$Finder;", true)
  | 10 => ("TwigPatch", "lastFuzz", "I", false)
  | 11 => ("TwigPatch", "merger", "LTwigPatch$Merger;", true)
  | _ => ("TwigPatch", "history", "LTwigPatch$History;", true)
def tyX12 : Nat → FieldType := fun k => match k with
  | 0 => .object "TwigPatch$Marks"
  | 1 => .object "TwigPatch$Bush"
  | 2 => .object "TwigPatch$Bush"
  | 3 => .array (.object "TwigPatch$Tree")
  | 4 => .int
  | 5 => .array (.object "TwigPatch$Script")
  | 6 => .int
  | 7 => .object "TwigPatch$Likes"
  | 8 => .object "TwigPatch$Matching"
  | 9 => .object "TwigPatch$Finder"
  | 10 => .int
  | 11 => .object "TwigPatch$Merger"
  | _ => .object "TwigPatch$History"
abbrev wsX120 : List Cond := u_ws RX12 TX12 13
theorem nmX12 : ∀ a, a < 13 → ∀ b, b < 13 → a ≠ b → (TX12 a).2.1 ≠ (TX12 b).2.1 := by decide +kernel
theorem tyX12_ok : ∀ k, k < 13 → parseFieldDescriptor (TX12 k).2.2.1 = some (tyX12 k) := by decide +kernel
def RX13 : String := "TwigPatchModel"
def TX13 : u_T := fun k => match k with
  | _ => ("", "", "", false)
def tyX13 : Nat → FieldType := fun k => match k with
  | _ => .int
abbrev wsX130 : List Cond := u_ws RX13 TX13 0
theorem nmX13 : ∀ a, a < 0 → ∀ b, b < 0 → a ≠ b → (TX13 a).2.1 ≠ (TX13 b).2.1 := by decide +kernel
theorem tyX13_ok : ∀ k, k < 0 → parseFieldDescriptor (TX13 k).2.2.1 = some (tyX13 k) := by decide +kernel
def RJx145de : String := "java/io/Serializable"
def RJx8e188 : String := "java/lang/Cloneable"
def RJ9 : String := "java/lang/Math"
def RJ0 : String := "java/lang/String"
def RJ10 : String := "java/lang/System"
def RJ7 : String := "java/util/Arrays"
def RL : String := "TwigPatchLaw"
abbrev tpCl : List vw_C := [(RX0, TX0, 10), (RX1, TX1, 7), (RX2, TX2, 7), (RX3, TX3, 9), (RX4, TX4, 3), (RX5, TX5, 9), (RX6, TX6, 12), (RX7, TX7, 2), (RX7, TX7, 2), (RX9, TX9, 3), (RX7, TX7, 2), (RX11, TX11, 10), (RX12, TX12, 13), (RX7, TX7, 2)]
def tpTy : Nat → Nat → FieldType := fun c => match c with
  | 0 => tyX0
  | 1 => tyX1
  | 2 => tyX2
  | 3 => tyX3
  | 4 => tyX4
  | 5 => tyX5
  | 6 => tyX6
  | 7 => tyX7
  | 8 => tyX7
  | 9 => tyX9
  | 10 => tyX7
  | 11 => tyX11
  | 12 => tyX12
  | _ => tyX7
/-- a method: its name, code, locals, what it returns, its handlers -/
abbrev tpM : Type := MethodName × ByteArray × Nat × Option FieldType × List (Nat × Nat × Nat × Nat)
abbrev mY (M : tpM) : MethodName := M.1
abbrev mB (M : tpM) : ByteArray := M.2.1
abbrev mL (M : tpM) : Nat := M.2.2.1
abbrev mR (M : tpM) : Option FieldType := M.2.2.2.1
abbrev mH (M : tpM) : List (Nat × Nat × Nat × Nat) := M.2.2.2.2
/-- the words that stay -/
def tpW : List Cond := lw_tbl.filter goodWord
theorem tpw1 (i : Nat) {w : Cond} (h : tables_1_1[i]? = some w) (g : goodWord w = true) : w ∈ tpW := by
  have h1 : w ∈ tables_1_1 := List.mem_of_getElem? h
  exact List.mem_filter.mpr ⟨List.mem_append_right _ (List.mem_append_left _ h1), g⟩
theorem tpw2 (i : Nat) {w : Cond} (h : tables_1_2[i]? = some w) (g : goodWord w = true) : w ∈ tpW := by
  have h1 : w ∈ tables_1_2 := List.mem_of_getElem? h
  exact List.mem_filter.mpr ⟨List.mem_append_right _ (List.mem_append_right _ (List.mem_append_left _ h1)), g⟩
theorem tpw3 (i : Nat) {w : Cond} (h : tables_1_3[i]? = some w) (g : goodWord w = true) : w ∈ tpW := by
  have h1 : w ∈ tables_1_3 := List.mem_of_getElem? h
  exact List.mem_filter.mpr ⟨List.mem_append_right _ (List.mem_append_right _ (List.mem_append_right _ (List.mem_append_left _ h1))), g⟩
theorem tpw4 (i : Nat) {w : Cond} (h : tables_1_4[i]? = some w) (g : goodWord w = true) : w ∈ tpW := by
  have h1 : w ∈ tables_1_4 := List.mem_of_getElem? h
  exact List.mem_filter.mpr ⟨List.mem_append_right _ (List.mem_append_right _ (List.mem_append_right _ (List.mem_append_right _ (List.mem_append_left _ h1)))), g⟩
theorem tpw5 (i : Nat) {w : Cond} (h : tables_1_5[i]? = some w) (g : goodWord w = true) : w ∈ tpW := by
  have h1 : w ∈ tables_1_5 := List.mem_of_getElem? h
  exact List.mem_filter.mpr ⟨List.mem_append_right _ (List.mem_append_right _ (List.mem_append_right _ (List.mem_append_right _ (List.mem_append_right _ (h1))))), g⟩
theorem tpws (i : Nat) {w : Cond} (h : (k2_sels lw_privs)[i]? = some w) (g : goodWord w = true) : w ∈ tpW := List.mem_filter.mpr ⟨List.mem_append_left _ (List.mem_of_getElem? h), g⟩
theorem tpl0 : ∀ w ∈ u_ws RX0 TX0 10, w ∈ tpW := List.forall_mem_cons.mpr ⟨tpw1 84 (by decide +kernel) (by decide +kernel), List.forall_mem_cons.mpr ⟨tpw1 86 (by decide +kernel) (by decide +kernel), List.forall_mem_cons.mpr ⟨tpw1 88 (by decide +kernel) (by decide +kernel), List.forall_mem_cons.mpr ⟨tpw1 90 (by decide +kernel) (by decide +kernel), List.forall_mem_cons.mpr ⟨tpw1 92 (by decide +kernel) (by decide +kernel), List.forall_mem_cons.mpr ⟨tpw1 94 (by decide +kernel) (by decide +kernel), List.forall_mem_cons.mpr ⟨tpw1 96 (by decide +kernel) (by decide +kernel), List.forall_mem_cons.mpr ⟨tpw1 98 (by decide +kernel) (by decide +kernel), List.forall_mem_cons.mpr ⟨tpw1 100 (by decide +kernel) (by decide +kernel), List.forall_mem_cons.mpr ⟨tpw1 102 (by decide +kernel) (by decide +kernel), fun _ h => absurd h List.not_mem_nil⟩⟩⟩⟩⟩⟩⟩⟩⟩⟩
theorem tpl1 : ∀ w ∈ u_ws RX1 TX1 7, w ∈ tpW := List.forall_mem_cons.mpr ⟨tpw1 208 (by decide +kernel) (by decide +kernel), List.forall_mem_cons.mpr ⟨tpw1 210 (by decide +kernel) (by decide +kernel), List.forall_mem_cons.mpr ⟨tpw1 212 (by decide +kernel) (by decide +kernel), List.forall_mem_cons.mpr ⟨tpw1 214 (by decide +kernel) (by decide +kernel), List.forall_mem_cons.mpr ⟨tpw1 216 (by decide +kernel) (by decide +kernel), List.forall_mem_cons.mpr ⟨tpw1 218 (by decide +kernel) (by decide +kernel), List.forall_mem_cons.mpr ⟨tpw1 220 (by decide +kernel) (by decide +kernel), fun _ h => absurd h List.not_mem_nil⟩⟩⟩⟩⟩⟩⟩
theorem tpl2 : ∀ w ∈ u_ws RX2 TX2 7, w ∈ tpW := List.forall_mem_cons.mpr ⟨tpw2 44 (by decide +kernel) (by decide +kernel), List.forall_mem_cons.mpr ⟨tpw2 46 (by decide +kernel) (by decide +kernel), List.forall_mem_cons.mpr ⟨tpw2 48 (by decide +kernel) (by decide +kernel), List.forall_mem_cons.mpr ⟨tpw2 50 (by decide +kernel) (by decide +kernel), List.forall_mem_cons.mpr ⟨tpw2 52 (by decide +kernel) (by decide +kernel), List.forall_mem_cons.mpr ⟨tpw2 54 (by decide +kernel) (by decide +kernel), List.forall_mem_cons.mpr ⟨tpw2 56 (by decide +kernel) (by decide +kernel), fun _ h => absurd h List.not_mem_nil⟩⟩⟩⟩⟩⟩⟩
theorem tpl3 : ∀ w ∈ u_ws RX3 TX3 9, w ∈ tpW := List.forall_mem_cons.mpr ⟨tpw1 124 (by decide +kernel) (by decide +kernel), List.forall_mem_cons.mpr ⟨tpw1 126 (by decide +kernel) (by decide +kernel), List.forall_mem_cons.mpr ⟨tpw1 128 (by decide +kernel) (by decide +kernel), List.forall_mem_cons.mpr ⟨tpw1 130 (by decide +kernel) (by decide +kernel), List.forall_mem_cons.mpr ⟨tpw1 132 (by decide +kernel) (by decide +kernel), List.forall_mem_cons.mpr ⟨tpw1 134 (by decide +kernel) (by decide +kernel), List.forall_mem_cons.mpr ⟨tpw1 136 (by decide +kernel) (by decide +kernel), List.forall_mem_cons.mpr ⟨tpw1 138 (by decide +kernel) (by decide +kernel), List.forall_mem_cons.mpr ⟨tpw1 140 (by decide +kernel) (by decide +kernel), fun _ h => absurd h List.not_mem_nil⟩⟩⟩⟩⟩⟩⟩⟩⟩
theorem tpl4 : ∀ w ∈ u_ws RX4 TX4 3, w ∈ tpW := List.forall_mem_cons.mpr ⟨tpw1 57 (by decide +kernel) (by decide +kernel), List.forall_mem_cons.mpr ⟨tpw1 59 (by decide +kernel) (by decide +kernel), List.forall_mem_cons.mpr ⟨tpw1 61 (by decide +kernel) (by decide +kernel), fun _ h => absurd h List.not_mem_nil⟩⟩⟩
theorem tpl5 : ∀ w ∈ u_ws RX5 TX5 9, w ∈ tpW := List.forall_mem_cons.mpr ⟨tpw1 158 (by decide +kernel) (by decide +kernel), List.forall_mem_cons.mpr ⟨tpw1 160 (by decide +kernel) (by decide +kernel), List.forall_mem_cons.mpr ⟨tpw1 162 (by decide +kernel) (by decide +kernel), List.forall_mem_cons.mpr ⟨tpw1 164 (by decide +kernel) (by decide +kernel), List.forall_mem_cons.mpr ⟨tpw1 166 (by decide +kernel) (by decide +kernel), List.forall_mem_cons.mpr ⟨tpw1 168 (by decide +kernel) (by decide +kernel), List.forall_mem_cons.mpr ⟨tpw1 170 (by decide +kernel) (by decide +kernel), List.forall_mem_cons.mpr ⟨tpw1 172 (by decide +kernel) (by decide +kernel), List.forall_mem_cons.mpr ⟨tpw1 174 (by decide +kernel) (by decide +kernel), fun _ h => absurd h List.not_mem_nil⟩⟩⟩⟩⟩⟩⟩⟩⟩
theorem tpl6 : ∀ w ∈ u_ws RX6 TX6 12, w ∈ tpW := List.forall_mem_cons.mpr ⟨tpw2 6 (by decide +kernel) (by decide +kernel), List.forall_mem_cons.mpr ⟨tpw2 8 (by decide +kernel) (by decide +kernel), List.forall_mem_cons.mpr ⟨tpw2 10 (by decide +kernel) (by decide +kernel), List.forall_mem_cons.mpr ⟨tpw2 12 (by decide +kernel) (by decide +kernel), List.forall_mem_cons.mpr ⟨tpw2 14 (by decide +kernel) (by decide +kernel), List.forall_mem_cons.mpr ⟨tpw2 16 (by decide +kernel) (by decide +kernel), List.forall_mem_cons.mpr ⟨tpw2 18 (by decide +kernel) (by decide +kernel), List.forall_mem_cons.mpr ⟨tpw2 20 (by decide +kernel) (by decide +kernel), List.forall_mem_cons.mpr ⟨tpw2 22 (by decide +kernel) (by decide +kernel), List.forall_mem_cons.mpr ⟨tpw2 24 (by decide +kernel) (by decide +kernel), List.forall_mem_cons.mpr ⟨tpw2 26 (by decide +kernel) (by decide +kernel), List.forall_mem_cons.mpr ⟨tpw2 28 (by decide +kernel) (by decide +kernel), fun _ h => absurd h List.not_mem_nil⟩⟩⟩⟩⟩⟩⟩⟩⟩⟩⟩⟩
theorem tpl7 : ∀ w ∈ u_ws RX7 TX7 2, w ∈ tpW := List.forall_mem_cons.mpr ⟨tpw1 45 (by decide +kernel) (by decide +kernel), List.forall_mem_cons.mpr ⟨tpw1 47 (by decide +kernel) (by decide +kernel), fun _ h => absurd h List.not_mem_nil⟩⟩
theorem tpl8 : ∀ w ∈ u_ws RX7 TX7 2, w ∈ tpW := tpl7
theorem tpl9 : ∀ w ∈ u_ws RX9 TX9 3, w ∈ tpW := List.forall_mem_cons.mpr ⟨tpw1 194 (by decide +kernel) (by decide +kernel), List.forall_mem_cons.mpr ⟨tpw1 196 (by decide +kernel) (by decide +kernel), List.forall_mem_cons.mpr ⟨tpw1 198 (by decide +kernel) (by decide +kernel), fun _ h => absurd h List.not_mem_nil⟩⟩⟩
theorem tpl10 : ∀ w ∈ u_ws RX7 TX7 2, w ∈ tpW := tpl7
theorem tpl11 : ∀ w ∈ u_ws RX11 TX11 10, w ∈ tpW := List.forall_mem_cons.mpr ⟨tpw3 212 (by decide +kernel) (by decide +kernel), List.forall_mem_cons.mpr ⟨tpw3 214 (by decide +kernel) (by decide +kernel), List.forall_mem_cons.mpr ⟨tpw3 216 (by decide +kernel) (by decide +kernel), List.forall_mem_cons.mpr ⟨tpw3 218 (by decide +kernel) (by decide +kernel), List.forall_mem_cons.mpr ⟨tpw3 220 (by decide +kernel) (by decide +kernel), List.forall_mem_cons.mpr ⟨tpw3 222 (by decide +kernel) (by decide +kernel), List.forall_mem_cons.mpr ⟨tpw3 224 (by decide +kernel) (by decide +kernel), List.forall_mem_cons.mpr ⟨tpw3 226 (by decide +kernel) (by decide +kernel), List.forall_mem_cons.mpr ⟨tpw3 228 (by decide +kernel) (by decide +kernel), List.forall_mem_cons.mpr ⟨tpw3 230 (by decide +kernel) (by decide +kernel), fun _ h => absurd h List.not_mem_nil⟩⟩⟩⟩⟩⟩⟩⟩⟩⟩
theorem tpl12 : ∀ w ∈ u_ws RX12 TX12 13, w ∈ tpW := List.forall_mem_cons.mpr ⟨tpw2 70 (by decide +kernel) (by decide +kernel), List.forall_mem_cons.mpr ⟨tpw2 72 (by decide +kernel) (by decide +kernel), List.forall_mem_cons.mpr ⟨tpw2 74 (by decide +kernel) (by decide +kernel), List.forall_mem_cons.mpr ⟨tpw2 76 (by decide +kernel) (by decide +kernel), List.forall_mem_cons.mpr ⟨tpw2 78 (by decide +kernel) (by decide +kernel), List.forall_mem_cons.mpr ⟨tpw2 80 (by decide +kernel) (by decide +kernel), List.forall_mem_cons.mpr ⟨tpw2 82 (by decide +kernel) (by decide +kernel), List.forall_mem_cons.mpr ⟨tpw2 84 (by decide +kernel) (by decide +kernel), List.forall_mem_cons.mpr ⟨tpw2 86 (by decide +kernel) (by decide +kernel), List.forall_mem_cons.mpr ⟨tpw2 88 (by decide +kernel) (by decide +kernel), List.forall_mem_cons.mpr ⟨tpw2 90 (by decide +kernel) (by decide +kernel), List.forall_mem_cons.mpr ⟨tpw2 92 (by decide +kernel) (by decide +kernel), List.forall_mem_cons.mpr ⟨tpw2 94 (by decide +kernel) (by decide +kernel), fun _ h => absurd h List.not_mem_nil⟩⟩⟩⟩⟩⟩⟩⟩⟩⟩⟩⟩⟩
theorem tpl13 : ∀ w ∈ u_ws RX7 TX7 2, w ∈ tpW := tpl7
theorem tpl : ∀ (ci : Nat) (r : vw_C), tpCl[ci]? = some r → ∀ w ∈ u_ws r.1 r.2.1 r.2.2, w ∈ tpW := by
  intro ci r h
  match ci, h with
  | 0, h => cases h; exact tpl0
  | 1, h => cases h; exact tpl1
  | 2, h => cases h; exact tpl2
  | 3, h => cases h; exact tpl3
  | 4, h => cases h; exact tpl4
  | 5, h => cases h; exact tpl5
  | 6, h => cases h; exact tpl6
  | 7, h => cases h; exact tpl7
  | 8, h => cases h; exact tpl8
  | 9, h => cases h; exact tpl9
  | 10, h => cases h; exact tpl10
  | 11, h => cases h; exact tpl11
  | 12, h => cases h; exact tpl12
  | 13, h => cases h; exact tpl13
  | n + 14, h => simp [tpCl] at h
theorem tpty : ∀ (ci : Nat) (r : vw_C), tpCl[ci]? = some r → ∀ k, k < r.2.2 → parseFieldDescriptor (r.2.1 k).2.2.1 = some (tpTy ci k) := by
  intro ci r h
  match ci, h with
  | 0, h => cases h; exact tyX0_ok
  | 1, h => cases h; exact tyX1_ok
  | 2, h => cases h; exact tyX2_ok
  | 3, h => cases h; exact tyX3_ok
  | 4, h => cases h; exact tyX4_ok
  | 5, h => cases h; exact tyX5_ok
  | 6, h => cases h; exact tyX6_ok
  | 7, h => cases h; exact tyX7_ok
  | 8, h => cases h; exact tyX7_ok
  | 9, h => cases h; exact tyX9_ok
  | 10, h => cases h; exact tyX7_ok
  | 11, h => cases h; exact tyX11_ok
  | 12, h => cases h; exact tyX12_ok
  | 13, h => cases h; exact tyX7_ok
  | n + 14, h => simp [tpCl] at h
theorem tpnm : ∀ (ci : Nat) (r : vw_C), tpCl[ci]? = some r → ∀ a, a < r.2.2 → ∀ b, b < r.2.2 → a ≠ b → (r.2.1 a).2.1 ≠ (r.2.1 b).2.1 := by
  intro ci r h
  match ci, h with
  | 0, h => cases h; exact nmX0
  | 1, h => cases h; exact nmX1
  | 2, h => cases h; exact nmX2
  | 3, h => cases h; exact nmX3
  | 4, h => cases h; exact nmX4
  | 5, h => cases h; exact nmX5
  | 6, h => cases h; exact nmX6
  | 7, h => cases h; exact nmX7
  | 8, h => cases h; exact nmX7
  | 9, h => cases h; exact nmX9
  | 10, h => cases h; exact nmX7
  | 11, h => cases h; exact nmX11
  | 12, h => cases h; exact nmX12
  | 13, h => cases h; exact nmX7
  | n + 14, h => simp [tpCl] at h
def Bu_init : tpM := (⟨"TwigPatch$Bush", "<init>", "(LTwigPatch$Marks;)V"⟩, prog_2_method_1_code, 2, none, [])
def Bu_has : tpM := (⟨"TwigPatch$Bush", "has", "(I)Z"⟩, prog_2_method_2_code, 2, some (.boolean), [])
def Bu_worthOf : tpM := (⟨"TwigPatch$Bush", "worthOf", "(I)I"⟩, prog_2_method_3_code, 2, some (.int), [])
def Bu_give : tpM := (⟨"TwigPatch$Bush", "give", "(II)V"⟩, prog_2_method_4_code, 3, none, [])
def Bu_upOf : tpM := (⟨"TwigPatch$Bush", "upOf", "(I)I"⟩, prog_2_method_5_code, 2, some (.int), [])
def Bu_lastOf : tpM := (⟨"TwigPatch$Bush", "lastOf", "(I)I"⟩, prog_2_method_6_code, 2, some (.int), [])
def Bu_isChild : tpM := (⟨"TwigPatch$Bush", "isChild", "(II)Z"⟩, prog_2_method_10_code, 3, some (.boolean), [])
def Bu_countChildren : tpM := (⟨"TwigPatch$Bush", "countChildren", "(I)I"⟩, prog_2_method_12_code, 4, some (.int), [])
def Bu_childAhead : tpM := (⟨"TwigPatch$Bush", "childAhead", "(II)I"⟩, prog_2_method_13_code, 6, some (.int), [])
def Bu_isWithin : tpM := (⟨"TwigPatch$Bush", "isWithin", "(II)Z"⟩, prog_2_method_14_code, 5, some (.boolean), [])
def Bu_nextInOrder : tpM := (⟨"TwigPatch$Bush", "nextInOrder", "(II)I"⟩, prog_2_method_16_code, 5, some (.int), [])
def Bu_plant : tpM := (⟨"TwigPatch$Bush", "plant", "(II)V"⟩, prog_2_method_17_code, 3, none, [])
def Bu_sprout : tpM := (⟨"TwigPatch$Bush", "sprout", "(II)V"⟩, prog_2_method_18_code, 3, none, [])
def Bu_hang : tpM := (⟨"TwigPatch$Bush", "hang", "(III)V"⟩, prog_2_method_19_code, 6, none, [])
def Bu_cut : tpM := (⟨"TwigPatch$Bush", "cut", "(I)V"⟩, prog_2_method_20_code, 2, none, [])
def Bu_join : tpM := (⟨"TwigPatch$Bush", "join", "(III)V"⟩, prog_2_method_21_code, 4, none, [])
def Bu_lowerChild : tpM := (⟨"TwigPatch$Bush", "lowerChild", "(II)I"⟩, prog_2_method_22_code, 5, some (.int), [])
def Bu_erase : tpM := (⟨"TwigPatch$Bush", "erase", "(I)I"⟩, prog_2_method_23_code, 5, some (.int), [])
def Bu_takeOver : tpM := (⟨"TwigPatch$Bush", "takeOver", "(LTwigPatch$Tree;)V"⟩, prog_2_method_24_code, 5, none, [])
def Bu_freeze : tpM := (⟨"TwigPatch$Bush", "freeze", "()LTwigPatch$Tree;"⟩, prog_2_method_25_code, 4, some ((.object "TwigPatch$Tree")), [])
def Fi_init : tpM := (⟨"TwigPatch$Finder", "<init>", "(LTwigPatch$Marks;LTwigPatch$Bush;LTwigPatch$Matching;)V"⟩, prog_3_method_1_code, 4, none, [])
def Hi_init : tpM := (⟨"TwigPatch$History", "<init>", "()V"⟩, prog_4_method_1_code, 1, none, [])
def Li_init : tpM := (⟨"TwigPatch$Likes", "<init>", "(LTwigPatch$Marks;)V"⟩, prog_5_method_1_code, 2, none, [])
def Ma_init : tpM := (⟨"TwigPatch$Marks", "<init>", "()V"⟩, prog_6_method_1_code, 1, none, [])
def Ma_make : tpM := (⟨"TwigPatch$Marks", "make", "(II)I"⟩, prog_6_method_2_code, 4, some (.int), [])
def Ma_isLoose : tpM := (⟨"TwigPatch$Marks", "isLoose", "(I)Z"⟩, prog_6_method_5_code, 2, some (.boolean), [])
def Mt_init : tpM := (⟨"TwigPatch$Matching", "<init>", "(LTwigPatch$Marks;LTwigPatch$Likes;)V"⟩, prog_7_method_1_code, 3, none, [])
def Mg_init : tpM := (⟨"TwigPatch$Merger", "<init>", "(LTwigPatch$Marks;LTwigPatch$Bush;)V"⟩, prog_8_method_1_code, 3, none, [])
def Mg_mergeTrees : tpM := (⟨"TwigPatch$Merger", "mergeTrees", "(LTwigPatch$Tree;LTwigPatch$Tree;LTwigPatch$Tree;)LTwigPatch$Tree;"⟩, prog_8_method_2_code, 7, some ((.object "TwigPatch$Tree")), [])
def Mg_sproutAll : tpM := (⟨"TwigPatch$Merger", "sproutAll", "(I)V"⟩, prog_8_method_3_code, 3, none, [])
def Mg_list : tpM := (⟨"TwigPatch$Merger", "list", "(II)V"⟩, prog_8_method_4_code, 3, none, [])
def Mg_decide : tpM := (⟨"TwigPatch$Merger", "decide", "(LTwigPatch$Tree;LTwigPatch$Tree;LTwigPatch$Tree;I)V"⟩, prog_8_method_5_code, 9, none, [])
def Mg_letIn : tpM := (⟨"TwigPatch$Merger", "letIn", "(III)V"⟩, prog_8_method_6_code, 4, none, [])
def Mg_choose : tpM := (⟨"TwigPatch$Merger", "choose", "(IIZIII)I"⟩, prog_8_method_7_code, 8, some (.int), [])
def Mg_staysWithOne : tpM := (⟨"TwigPatch$Merger", "staysWithOne", "(LTwigPatch$Tree;LTwigPatch$Tree;II)Z"⟩, prog_8_method_8_code, 6, some (.boolean), [])
def Mg_isTouched : tpM := (⟨"TwigPatch$Merger", "isTouched", "(LTwigPatch$Tree;LTwigPatch$Tree;I)Z"⟩, prog_8_method_9_code, 6, some (.boolean), [])
def Mg_mendParents : tpM := (⟨"TwigPatch$Merger", "mendParents", "(LTwigPatch$Tree;)V"⟩, prog_8_method_10_code, 5, none, [])
def Mg_lowestLost : tpM := (⟨"TwigPatch$Merger", "lowestLost", "()I"⟩, prog_8_method_11_code, 3, some (.int), [])
def Mg_lowestInRing : tpM := (⟨"TwigPatch$Merger", "lowestInRing", "()I"⟩, prog_8_method_12_code, 2, some (.int), [])
def Mg_isInRing : tpM := (⟨"TwigPatch$Merger", "isInRing", "(I)Z"⟩, prog_8_method_13_code, 4, some (.boolean), [])
def Mg_breakRing : tpM := (⟨"TwigPatch$Merger", "breakRing", "(LTwigPatch$Tree;I)V"⟩, prog_8_method_14_code, 5, none, [])
def Mg_hangChildren : tpM := (⟨"TwigPatch$Merger", "hangChildren", "(LTwigPatch$Tree;LTwigPatch$Tree;LTwigPatch$Tree;I)V"⟩, prog_8_method_15_code, 6, none, [])
def Mg_readShared : tpM := (⟨"TwigPatch$Merger", "readShared", "(LTwigPatch$Tree;LTwigPatch$Tree;ILTwigPatch$Row;)V"⟩, prog_8_method_16_code, 8, none, [])
def Mg_leader : tpM := (⟨"TwigPatch$Merger", "leader", "(LTwigPatch$Tree;I)LTwigPatch$Row;"⟩, prog_8_method_17_code, 4, some ((.object "TwigPatch$Row")), [])
def Mg_isTurned : tpM := (⟨"TwigPatch$Merger", "isTurned", "(LTwigPatch$Tree;LTwigPatch$Row;)Z"⟩, prog_8_method_18_code, 4, some (.boolean), [])
def Mg_hangShared : tpM := (⟨"TwigPatch$Merger", "hangShared", "(LTwigPatch$Row;I)V"⟩, prog_8_method_19_code, 6, none, [])
def Mg_nearestOf : tpM := (⟨"TwigPatch$Merger", "nearestOf", "(LTwigPatch$Tree;LTwigPatch$Tree;II)I"⟩, prog_8_method_20_code, 5, some (.int), [])
def Mg_nearestAhead : tpM := (⟨"TwigPatch$Merger", "nearestAhead", "(LTwigPatch$Tree;II)I"⟩, prog_8_method_21_code, 8, some (.int), [])
def Ro_init : tpM := (⟨"TwigPatch$Row", "<init>", "(I)V"⟩, prog_9_method_1_code, 2, none, [])
def Ro_at : tpM := (⟨"TwigPatch$Row", "at", "(I)I"⟩, prog_9_method_2_code, 2, some (.int), [])
def Ro_put : tpM := (⟨"TwigPatch$Row", "put", "(II)V"⟩, prog_9_method_3_code, 3, none, [])
def Ro_fill : tpM := (⟨"TwigPatch$Row", "fill", "(II)V"⟩, prog_9_method_4_code, 4, none, [])
def Ro_clear : tpM := (⟨"TwigPatch$Row", "clear", "()V"⟩, prog_9_method_5_code, 1, none, [])
def Ro_push : tpM := (⟨"TwigPatch$Row", "push", "(I)V"⟩, prog_9_method_6_code, 2, none, [])
def Ro_lengthen : tpM := (⟨"TwigPatch$Row", "lengthen", "()V"⟩, prog_9_method_7_code, 2, none, [])
def Ro_hasSamePushed : tpM := (⟨"TwigPatch$Row", "hasSamePushed", "(LTwigPatch$Row;)Z"⟩, prog_9_method_8_code, 3, some (.boolean), [])
def Sp_init : tpM := (⟨"TwigPatch$Spot", "<init>", "(III)V"⟩, prog_11_method_1_code, 4, none, [])
def Tr_init : tpM := (⟨"TwigPatch$Tree", "<init>", "(II)V"⟩, prog_13_method_1_code, 3, none, [])
def Tr_fillPlace : tpM := (⟨"TwigPatch$Tree", "fillPlace", "(IIII)V"⟩, prog_13_method_2_code, 7, none, [])
def Tr_close : tpM := (⟨"TwigPatch$Tree", "close", "()V"⟩, prog_13_method_3_code, 4, none, [])
def Tr_markOf : tpM := (⟨"TwigPatch$Tree", "markOf", "(I)I"⟩, prog_13_method_4_code, 2, some (.int), [])
def Tr_worthOf : tpM := (⟨"TwigPatch$Tree", "worthOf", "(I)I"⟩, prog_13_method_5_code, 2, some (.int), [])
def Tr_upOf : tpM := (⟨"TwigPatch$Tree", "upOf", "(I)I"⟩, prog_13_method_6_code, 2, some (.int), [])
def Tr_rankOf : tpM := (⟨"TwigPatch$Tree", "rankOf", "(I)I"⟩, prog_13_method_9_code, 2, some (.int), [])
def Tr_kidsOf : tpM := (⟨"TwigPatch$Tree", "kidsOf", "(I)I"⟩, prog_13_method_10_code, 2, some (.int), [])
def Tr_kid : tpM := (⟨"TwigPatch$Tree", "kid", "(II)I"⟩, prog_13_method_11_code, 3, some (.int), [])
def Tr_placeOf : tpM := (⟨"TwigPatch$Tree", "placeOf", "(I)I"⟩, prog_13_method_12_code, 2, some (.int), [])
def Tr_holds : tpM := (⟨"TwigPatch$Tree", "holds", "(I)Z"⟩, prog_13_method_13_code, 2, some (.boolean), [])
def Tr_worthOfMark : tpM := (⟨"TwigPatch$Tree", "worthOfMark", "(I)I"⟩, prog_13_method_14_code, 2, some (.int), [])
def Tr_parentOfMark : tpM := (⟨"TwigPatch$Tree", "parentOfMark", "(I)I"⟩, prog_13_method_15_code, 2, some (.int), [])
def Tr_hasUnder : tpM := (⟨"TwigPatch$Tree", "hasUnder", "(II)Z"⟩, prog_13_method_16_code, 4, some (.boolean), [])
def Tr_hasSame : tpM := (⟨"TwigPatch$Tree", "hasSame", "(LTwigPatch$Tree;I)Z"⟩, prog_13_method_17_code, 5, some (.boolean), [])
def TP_init : tpM := (⟨"TwigPatch", "<init>", "()V"⟩, prog_1_method_1_code, 1, none, [])
def TP_begin : tpM := (⟨"TwigPatch", "begin", "(III)I"⟩, prog_1_method_2_code, 5, some (.int), [])
def TP_copy : tpM := (⟨"TwigPatch", "copy", "(I)I"⟩, prog_1_method_3_code, 3, some (.int), [])
def TP_node : tpM := (⟨"TwigPatch", "node", "(IIIII)I"⟩, prog_1_method_4_code, 7, some (.int), [])
def TP_set : tpM := (⟨"TwigPatch", "set", "(II)I"⟩, prog_1_method_5_code, 4, some (.int), [])
def TP_move : tpM := (⟨"TwigPatch", "move", "(III)I"⟩, prog_1_method_6_code, 5, some (.int), [])
def TP_drop : tpM := (⟨"TwigPatch", "drop", "(I)I"⟩, prog_1_method_7_code, 2, some (.int), [])
def TP_seal : tpM := (⟨"TwigPatch", "seal", "()I"⟩, prog_1_method_8_code, 1, some (.int), [])
def TP_setPolicy : tpM := (⟨"TwigPatch", "setPolicy", "(II)I"⟩, prog_1_method_13_code, 5, some (.int), [])
def TP_merge : tpM := (⟨"TwigPatch", "merge", "(III)I"⟩, prog_1_method_14_code, 7, some (.int), [])
def TP_trees : tpM := (⟨"TwigPatch", "trees", "()I"⟩, prog_1_method_18_code, 1, some (.int), [])
def TP_size : tpM := (⟨"TwigPatch", "size", "(I)I"⟩, prog_1_method_19_code, 2, some (.int), [])
def TP_markAt : tpM := (⟨"TwigPatch", "markAt", "(II)I"⟩, prog_1_method_20_code, 4, some (.int), [])
def TP_value : tpM := (⟨"TwigPatch", "value", "(II)I"⟩, prog_1_method_21_code, 4, some (.int), [])
def TP_parent : tpM := (⟨"TwigPatch", "parent", "(II)I"⟩, prog_1_method_22_code, 4, some (.int), [])
def TP_conflicts : tpM := (⟨"TwigPatch", "conflicts", "()I"⟩, prog_1_method_31_code, 1, some (.int), [])
def TP_conflictKind : tpM := (⟨"TwigPatch", "conflictKind", "(I)I"⟩, prog_1_method_32_code, 2, some (.int), [])
def TP_conflictMark : tpM := (⟨"TwigPatch", "conflictMark", "(I)I"⟩, prog_1_method_33_code, 2, some (.int), [])
def TP_needTree : tpM := (⟨"TwigPatch", "needTree", "(I)LTwigPatch$Tree;"⟩, prog_1_method_38_code, 3, some ((.object "TwigPatch$Tree")), [])
def TP_needConflict : tpM := (⟨"TwigPatch", "needConflict", "(I)V"⟩, prog_1_method_43_code, 2, none, [])
def TP_needMade : tpM := (⟨"TwigPatch", "needMade", "(I)V"⟩, prog_1_method_44_code, 2, none, [])
def TP_needDrafted : tpM := (⟨"TwigPatch", "needDrafted", "(I)V"⟩, prog_1_method_46_code, 2, none, [])
def TP_needPlace : tpM := (⟨"TwigPatch", "needPlace", "(III)V"⟩, prog_1_method_47_code, 5, none, [])
def TP_needKind : tpM := (⟨"TwigPatch", "needKind", "(I)V"⟩, prog_1_method_48_code, 2, none, [])
def TP_needValue : tpM := (⟨"TwigPatch", "needValue", "(I)V"⟩, prog_1_method_49_code, 2, none, [])
def TP_needLooks : tpM := (⟨"TwigPatch", "needLooks", "(III)V"⟩, prog_1_method_50_code, 4, none, [])
def TP_needFreeMark : tpM := (⟨"TwigPatch", "needFreeMark", "()V"⟩, prog_1_method_51_code, 1, none, [])
def TP_needRoomForTree : tpM := (⟨"TwigPatch", "needRoomForTree", "()V"⟩, prog_1_method_52_code, 1, none, [])
def TP_needSameRoots : tpM := (⟨"TwigPatch", "needSameRoots", "(LTwigPatch$Tree;LTwigPatch$Tree;LTwigPatch$Tree;)V"⟩, prog_1_method_56_code, 5, none, [])
def TP_keepTree : tpM := (⟨"TwigPatch", "keepTree", "(LTwigPatch$Tree;)I"⟩, prog_1_method_58_code, 2, some (.int), [])
def JM_max_7cf53 : tpM := (⟨"java/lang/Math", "max", "(II)I"⟩, prog_21_method_65_code, 2, some (.int), [])
def JM_min_7cf53 : tpM := (⟨"java/lang/Math", "min", "(II)I"⟩, prog_21_method_69_code, 2, some (.int), [])
def JA_copyOf_59c91 : tpM := (⟨"java/util/Arrays", "copyOf", "([II)[I"⟩, prog_26_method_123_code, 3, some ((.array .int)), [])
def Lw_mark : tpM := (⟨"TwigPatchLaw", "mark", "([II)I"⟩, method_2_code, 2, some (.int), [])
def Lw_parent : tpM := (⟨"TwigPatchLaw", "parent", "([II)I"⟩, method_3_code, 2, some (.int), [])
def Lw_value : tpM := (⟨"TwigPatchLaw", "value", "([II)I"⟩, method_4_code, 2, some (.int), [])
def Lw_place : tpM := (⟨"TwigPatchLaw", "place", "([II)I"⟩, method_5_code, 4, some (.int), [])
def Lw_parentOf : tpM := (⟨"TwigPatchLaw", "parentOf", "([II)I"⟩, method_6_code, 3, some (.int), [])
def Lw_valueOf : tpM := (⟨"TwigPatchLaw", "valueOf", "([II)I"⟩, method_7_code, 3, some (.int), [])
def Lw_reads : tpM := (⟨"TwigPatchLaw", "reads", "(LTwigPatch;I[I)V"⟩, method_8_code, 5, none, [])
def Lw_children : tpM := (⟨"TwigPatchLaw", "children", "([I[II[I)I"⟩, method_9_code, 7, some (.int), [])
def Lw_puts : tpM := (⟨"TwigPatchLaw", "puts", "([III)V"⟩, method_10_code, 4, none, [])
def Lw_takes : tpM := (⟨"TwigPatchLaw", "takes", "([II)V"⟩, method_11_code, 3, none, [])
def Lw_spot : tpM := (⟨"TwigPatchLaw", "spot", "([I[III)I"⟩, method_12_code, 6, some (.int), [])
def Lw_isBelow : tpM := (⟨"TwigPatchLaw", "isBelow", "([III)Z"⟩, method_13_code, 4, some (.boolean), [])
def Lw_does : tpM := (⟨"TwigPatchLaw", "does", "(LTwigPatch;IIII)I"⟩, method_14_code, 6, some (.int), [((0 : Nat), (155 : Nat), (156 : Nat), (76 : Nat)), ((0 : Nat), (155 : Nat), (161 : Nat), (78 : Nat)), ((0 : Nat), (155 : Nat), (166 : Nat), (80 : Nat))])
def Lw_isTree : tpM := (⟨"TwigPatchLaw", "isTree", "(LTwigPatch;I[I[I)Z"⟩, method_15_code, 13, some (.boolean), [])
def Lw_adds : tpM := (⟨"TwigPatchLaw", "adds", "([II)V"⟩, method_16_code, 2, none, [])
def Lw_decided : tpM := (⟨"TwigPatchLaw", "decided", "([I[IIIIIII)I"⟩, method_17_code, 8, some (.int), [])
def Lw_isTouched : tpM := (⟨"TwigPatchLaw", "isTouched", "([I[II)Z"⟩, method_18_code, 5, some (.boolean), [])
def Lw_comes : tpM := (⟨"TwigPatchLaw", "comes", "([I[I[I[I[II)I"⟩, method_19_code, 11, some (.int), [])
def Lw_mends : tpM := (⟨"TwigPatchLaw", "mends", "([I[I[I)V"⟩, method_20_code, 10, none, [])
def Lw_at : tpM := (⟨"TwigPatchLaw", "at", "([III)I"⟩, method_21_code, 5, some (.int), [])
def Lw_shares : tpM := (⟨"TwigPatchLaw", "shares", "([I[II[II[I)Z"⟩, method_22_code, 13, some (.boolean), [])
def Lw_ahead : tpM := (⟨"TwigPatchLaw", "ahead", "([I[III[I)I"⟩, method_23_code, 11, some (.int), [])
def Lw_putsBehind : tpM := (⟨"TwigPatchLaw", "putsBehind", "([III)V"⟩, method_24_code, 5, none, [])
def Lw_orders : tpM := (⟨"TwigPatchLaw", "orders", "([I[I[I[I[I[II[I)Z"⟩, method_25_code, 24, some (.boolean), [])
def Lw_isMerged : tpM := (⟨"TwigPatchLaw", "isMerged", "(LTwigPatch;I[I[I[I[I[II)Z"⟩, method_26_code, 19, some (.boolean), [])
def Lw_isChanged : tpM := (⟨"TwigPatchLaw", "isChanged", "(LTwigPatch;[I[I[II)Z"⟩, method_27_code, 15, some (.boolean), [])
def Lw_law : tpM := (x, code, maxLocals, ret, [])
/-- what the words say of a method that is called by its receiver -/
def tpMv (M : tpM) (n : Nat) : Prop := ((Cond.instanceMethod (mY M) ∈ tpW ∧ Cond.selects (mY M).cls (mY M) (mY M) ∈ tpW) ∧ Cond.initialized (mY M).cls ∈ tpW ∧ Cond.code (mY M) (mB M) (mL M) (mR M) ∈ tpW) ∧ ((mY M).cls ≠ "java/lang/invoke/MethodHandle" ∧ (mY M).cls ≠ "java/lang/invoke/VarHandle") ∧ (parseMethodDescriptor (mY M).desc).map (fun d => d.parameters.length) = some n ∧ plainName (mY M).cls = true ∧ mH M = []
def tpMi (M : tpM) (n : Nat) : Prop := (Cond.instanceMethod (mY M) ∈ tpW ∧ Cond.initialized (mY M).cls ∈ tpW ∧ Cond.code (mY M) (mB M) (mL M) none ∈ tpW) ∧ ((mY M).cls ≠ "java/lang/invoke/MethodHandle" ∧ (mY M).cls ≠ "java/lang/invoke/VarHandle") ∧ (parseMethodDescriptor (mY M).desc).map (fun d => d.parameters.length) = some n ∧ plainName (mY M).cls = true ∧ mH M = [] ∧ mR M = none ∧ (mY M).name = "<init>"
def tpMs (M : tpM) (n : Nat) : Prop := (Cond.static (mY M) ∈ tpW ∧ Cond.initialized (mY M).cls ∈ tpW ∧ Cond.code (mY M) (mB M) (mL M) (mR M) ∈ tpW) ∧ ((mY M).cls ≠ "java/lang/invoke/MethodHandle" ∧ (mY M).cls ≠ "java/lang/invoke/VarHandle") ∧ (parseMethodDescriptor (mY M).desc).map (fun d => d.parameters.length) = some n ∧ plainName (mY M).cls = true ∧ mH M = []
def tpMx (M : tpM) (n : Nat) : Prop := (Cond.static (mY M) ∈ tpW ∧ Cond.initialized (mY M).cls ∈ tpW ∧ Cond.codeWith (mY M) (mB M) (mL M) (mR M) (mH M) ∈ tpW) ∧ ((mY M).cls ≠ "java/lang/invoke/MethodHandle" ∧ (mY M).cls ≠ "java/lang/invoke/VarHandle") ∧ (parseMethodDescriptor (mY M).desc).map (fun d => d.parameters.length) = some n ∧ plainName (mY M).cls = true
theorem mi_Bu_init : tpMi Bu_init 1 := ⟨⟨tpw1 67 (by decide +kernel) (by decide +kernel), tpw1 4 (by decide +kernel) (by decide +kernel), tpw1 68 (by decide +kernel) (by decide +kernel)⟩, ⟨by decide +kernel, by decide +kernel⟩, by decide +kernel, by decide +kernel, rfl, rfl, rfl⟩
theorem mv_Bu_has : tpMv Bu_has 1 := ⟨⟨⟨tpw3 110 (by decide +kernel) (by decide +kernel), tpw3 111 (by decide +kernel) (by decide +kernel)⟩, tpw1 4 (by decide +kernel) (by decide +kernel), tpw3 112 (by decide +kernel) (by decide +kernel)⟩, ⟨by decide +kernel, by decide +kernel⟩, by decide +kernel, by decide +kernel, rfl⟩
theorem mv_Bu_worthOf : tpMv Bu_worthOf 1 := ⟨⟨⟨tpw3 139 (by decide +kernel) (by decide +kernel), tpw3 140 (by decide +kernel) (by decide +kernel)⟩, tpw1 4 (by decide +kernel) (by decide +kernel), tpw3 141 (by decide +kernel) (by decide +kernel)⟩, ⟨by decide +kernel, by decide +kernel⟩, by decide +kernel, by decide +kernel, rfl⟩
theorem mv_Bu_give : tpMv Bu_give 2 := ⟨⟨⟨tpw3 143 (by decide +kernel) (by decide +kernel), tpw3 144 (by decide +kernel) (by decide +kernel)⟩, tpw1 4 (by decide +kernel) (by decide +kernel), tpw3 145 (by decide +kernel) (by decide +kernel)⟩, ⟨by decide +kernel, by decide +kernel⟩, by decide +kernel, by decide +kernel, rfl⟩
theorem mv_Bu_upOf : tpMv Bu_upOf 1 := ⟨⟨⟨tpw3 156 (by decide +kernel) (by decide +kernel), tpw3 157 (by decide +kernel) (by decide +kernel)⟩, tpw1 4 (by decide +kernel) (by decide +kernel), tpw3 158 (by decide +kernel) (by decide +kernel)⟩, ⟨by decide +kernel, by decide +kernel⟩, by decide +kernel, by decide +kernel, rfl⟩
theorem mv_Bu_lastOf : tpMv Bu_lastOf 1 := ⟨⟨⟨tpw4 158 (by decide +kernel) (by decide +kernel), tpw4 159 (by decide +kernel) (by decide +kernel)⟩, tpw1 4 (by decide +kernel) (by decide +kernel), tpw4 160 (by decide +kernel) (by decide +kernel)⟩, ⟨by decide +kernel, by decide +kernel⟩, by decide +kernel, by decide +kernel, rfl⟩
theorem mv_Bu_isChild : tpMv Bu_isChild 2 := ⟨⟨⟨tpw3 124 (by decide +kernel) (by decide +kernel), tpw3 125 (by decide +kernel) (by decide +kernel)⟩, tpw1 4 (by decide +kernel) (by decide +kernel), tpw3 126 (by decide +kernel) (by decide +kernel)⟩, ⟨by decide +kernel, by decide +kernel⟩, by decide +kernel, by decide +kernel, rfl⟩
theorem mv_Bu_countChildren : tpMv Bu_countChildren 1 := ⟨⟨⟨tpw3 120 (by decide +kernel) (by decide +kernel), tpw3 121 (by decide +kernel) (by decide +kernel)⟩, tpw1 4 (by decide +kernel) (by decide +kernel), tpw3 122 (by decide +kernel) (by decide +kernel)⟩, ⟨by decide +kernel, by decide +kernel⟩, by decide +kernel, by decide +kernel, rfl⟩
theorem mv_Bu_childAhead : tpMv Bu_childAhead 2 := ⟨⟨⟨tpw3 130 (by decide +kernel) (by decide +kernel), tpw3 131 (by decide +kernel) (by decide +kernel)⟩, tpw1 4 (by decide +kernel) (by decide +kernel), tpw3 132 (by decide +kernel) (by decide +kernel)⟩, ⟨by decide +kernel, by decide +kernel⟩, by decide +kernel, by decide +kernel, rfl⟩
theorem mv_Bu_isWithin : tpMv Bu_isWithin 2 := ⟨⟨⟨tpw3 151 (by decide +kernel) (by decide +kernel), tpw3 152 (by decide +kernel) (by decide +kernel)⟩, tpw1 4 (by decide +kernel) (by decide +kernel), tpw3 153 (by decide +kernel) (by decide +kernel)⟩, ⟨by decide +kernel, by decide +kernel⟩, by decide +kernel, by decide +kernel, rfl⟩
theorem mv_Bu_nextInOrder : tpMv Bu_nextInOrder 2 := ⟨⟨⟨tpw3 174 (by decide +kernel) (by decide +kernel), tpw3 175 (by decide +kernel) (by decide +kernel)⟩, tpw1 4 (by decide +kernel) (by decide +kernel), tpw3 176 (by decide +kernel) (by decide +kernel)⟩, ⟨by decide +kernel, by decide +kernel⟩, by decide +kernel, by decide +kernel, rfl⟩
theorem mv_Bu_plant : tpMv Bu_plant 2 := ⟨⟨⟨tpw3 53 (by decide +kernel) (by decide +kernel), tpw3 54 (by decide +kernel) (by decide +kernel)⟩, tpw1 4 (by decide +kernel) (by decide +kernel), tpw3 55 (by decide +kernel) (by decide +kernel)⟩, ⟨by decide +kernel, by decide +kernel⟩, by decide +kernel, by decide +kernel, rfl⟩
theorem mv_Bu_sprout : tpMv Bu_sprout 2 := ⟨⟨⟨tpw3 61 (by decide +kernel) (by decide +kernel), tpw3 62 (by decide +kernel) (by decide +kernel)⟩, tpw1 4 (by decide +kernel) (by decide +kernel), tpw3 63 (by decide +kernel) (by decide +kernel)⟩, ⟨by decide +kernel, by decide +kernel⟩, by decide +kernel, by decide +kernel, rfl⟩
theorem mv_Bu_hang : tpMv Bu_hang 3 := ⟨⟨⟨tpw3 85 (by decide +kernel) (by decide +kernel), tpw3 86 (by decide +kernel) (by decide +kernel)⟩, tpw1 4 (by decide +kernel) (by decide +kernel), tpw3 87 (by decide +kernel) (by decide +kernel)⟩, ⟨by decide +kernel, by decide +kernel⟩, by decide +kernel, by decide +kernel, rfl⟩
theorem mv_Bu_cut : tpMv Bu_cut 1 := ⟨⟨⟨tpw3 160 (by decide +kernel) (by decide +kernel), tpw3 161 (by decide +kernel) (by decide +kernel)⟩, tpw1 4 (by decide +kernel) (by decide +kernel), tpw3 162 (by decide +kernel) (by decide +kernel)⟩, ⟨by decide +kernel, by decide +kernel⟩, by decide +kernel, by decide +kernel, rfl⟩
theorem mv_Bu_join : tpMv Bu_join 3 := ⟨⟨⟨tpw3 99 (by decide +kernel) (by decide +kernel), tpws 8 (by decide +kernel) (by decide +kernel)⟩, tpw1 4 (by decide +kernel) (by decide +kernel), tpw3 100 (by decide +kernel) (by decide +kernel)⟩, ⟨by decide +kernel, by decide +kernel⟩, by decide +kernel, by decide +kernel, rfl⟩
theorem mv_Bu_lowerChild : tpMv Bu_lowerChild 2 := ⟨⟨⟨tpw3 95 (by decide +kernel) (by decide +kernel), tpws 7 (by decide +kernel) (by decide +kernel)⟩, tpw1 4 (by decide +kernel) (by decide +kernel), tpw3 96 (by decide +kernel) (by decide +kernel)⟩, ⟨by decide +kernel, by decide +kernel⟩, by decide +kernel, by decide +kernel, rfl⟩
theorem mv_Bu_erase : tpMv Bu_erase 1 := ⟨⟨⟨tpw3 169 (by decide +kernel) (by decide +kernel), tpw3 170 (by decide +kernel) (by decide +kernel)⟩, tpw1 4 (by decide +kernel) (by decide +kernel), tpw3 171 (by decide +kernel) (by decide +kernel)⟩, ⟨by decide +kernel, by decide +kernel⟩, by decide +kernel, by decide +kernel, rfl⟩
theorem mv_Bu_takeOver : tpMv Bu_takeOver 1 := ⟨⟨⟨tpw3 70 (by decide +kernel) (by decide +kernel), tpw3 71 (by decide +kernel) (by decide +kernel)⟩, tpw1 4 (by decide +kernel) (by decide +kernel), tpw3 72 (by decide +kernel) (by decide +kernel)⟩, ⟨by decide +kernel, by decide +kernel⟩, by decide +kernel, by decide +kernel, rfl⟩
theorem mv_Bu_freeze : tpMv Bu_freeze 0 := ⟨⟨⟨tpw3 188 (by decide +kernel) (by decide +kernel), tpw3 189 (by decide +kernel) (by decide +kernel)⟩, tpw1 4 (by decide +kernel) (by decide +kernel), tpw3 190 (by decide +kernel) (by decide +kernel)⟩, ⟨by decide +kernel, by decide +kernel⟩, by decide +kernel, by decide +kernel, rfl⟩
theorem mi_Fi_init : tpMi Fi_init 3 := ⟨⟨tpw1 180 (by decide +kernel) (by decide +kernel), tpw1 7 (by decide +kernel) (by decide +kernel), tpw1 181 (by decide +kernel) (by decide +kernel)⟩, ⟨by decide +kernel, by decide +kernel⟩, by decide +kernel, by decide +kernel, rfl, rfl, rfl⟩
theorem mi_Hi_init : tpMi Hi_init 0 := ⟨⟨tpw2 34 (by decide +kernel) (by decide +kernel), tpw1 10 (by decide +kernel) (by decide +kernel), tpw2 35 (by decide +kernel) (by decide +kernel)⟩, ⟨by decide +kernel, by decide +kernel⟩, by decide +kernel, by decide +kernel, rfl, rfl, rfl⟩
theorem mi_Li_init : tpMi Li_init 1 := ⟨⟨tpw1 112 (by decide +kernel) (by decide +kernel), tpw1 5 (by decide +kernel) (by decide +kernel), tpw1 113 (by decide +kernel) (by decide +kernel)⟩, ⟨by decide +kernel, by decide +kernel⟩, by decide +kernel, by decide +kernel, rfl, rfl, rfl⟩
theorem mi_Ma_init : tpMi Ma_init 0 := ⟨⟨tpw1 32 (by decide +kernel) (by decide +kernel), tpw1 2 (by decide +kernel) (by decide +kernel), tpw1 33 (by decide +kernel) (by decide +kernel)⟩, ⟨by decide +kernel, by decide +kernel⟩, by decide +kernel, by decide +kernel, rfl, rfl, rfl⟩
theorem mv_Ma_make : tpMv Ma_make 2 := ⟨⟨⟨tpw3 48 (by decide +kernel) (by decide +kernel), tpw3 49 (by decide +kernel) (by decide +kernel)⟩, tpw1 2 (by decide +kernel) (by decide +kernel), tpw3 50 (by decide +kernel) (by decide +kernel)⟩, ⟨by decide +kernel, by decide +kernel⟩, by decide +kernel, by decide +kernel, rfl⟩
theorem mv_Ma_isLoose : tpMv Ma_isLoose 1 := ⟨⟨⟨tpw3 89 (by decide +kernel) (by decide +kernel), tpw3 90 (by decide +kernel) (by decide +kernel)⟩, tpw1 2 (by decide +kernel) (by decide +kernel), tpw3 91 (by decide +kernel) (by decide +kernel)⟩, ⟨by decide +kernel, by decide +kernel⟩, by decide +kernel, by decide +kernel, rfl⟩
theorem mi_Mt_init : tpMi Mt_init 2 := ⟨⟨tpw1 146 (by decide +kernel) (by decide +kernel), tpw1 6 (by decide +kernel) (by decide +kernel), tpw1 147 (by decide +kernel) (by decide +kernel)⟩, ⟨by decide +kernel, by decide +kernel⟩, by decide +kernel, by decide +kernel, rfl, rfl, rfl⟩
theorem mi_Mg_init : tpMi Mg_init 2 := ⟨⟨tpw1 226 (by decide +kernel) (by decide +kernel), tpw1 9 (by decide +kernel) (by decide +kernel), tpw1 227 (by decide +kernel) (by decide +kernel)⟩, ⟨by decide +kernel, by decide +kernel⟩, by decide +kernel, by decide +kernel, rfl, rfl, rfl⟩
theorem mv_Mg_mergeTrees : tpMv Mg_mergeTrees 3 := ⟨⟨⟨tpw4 23 (by decide +kernel) (by decide +kernel), tpw4 24 (by decide +kernel) (by decide +kernel)⟩, tpw1 9 (by decide +kernel) (by decide +kernel), tpw4 25 (by decide +kernel) (by decide +kernel)⟩, ⟨by decide +kernel, by decide +kernel⟩, by decide +kernel, by decide +kernel, rfl⟩
theorem mv_Mg_sproutAll : tpMv Mg_sproutAll 1 := ⟨⟨⟨tpw4 127 (by decide +kernel) (by decide +kernel), tpws 26 (by decide +kernel) (by decide +kernel)⟩, tpw1 9 (by decide +kernel) (by decide +kernel), tpw4 128 (by decide +kernel) (by decide +kernel)⟩, ⟨by decide +kernel, by decide +kernel⟩, by decide +kernel, by decide +kernel, rfl⟩
theorem mv_Mg_list : tpMv Mg_list 2 := ⟨⟨⟨tpw4 45 (by decide +kernel) (by decide +kernel), tpws 16 (by decide +kernel) (by decide +kernel)⟩, tpw1 9 (by decide +kernel) (by decide +kernel), tpw4 46 (by decide +kernel) (by decide +kernel)⟩, ⟨by decide +kernel, by decide +kernel⟩, by decide +kernel, by decide +kernel, rfl⟩
theorem mv_Mg_decide : tpMv Mg_decide 4 := ⟨⟨⟨tpw4 32 (by decide +kernel) (by decide +kernel), tpws 14 (by decide +kernel) (by decide +kernel)⟩, tpw1 9 (by decide +kernel) (by decide +kernel), tpw4 33 (by decide +kernel) (by decide +kernel)⟩, ⟨by decide +kernel, by decide +kernel⟩, by decide +kernel, by decide +kernel, rfl⟩
theorem mv_Mg_letIn : tpMv Mg_letIn 3 := ⟨⟨⟨tpw4 75 (by decide +kernel) (by decide +kernel), tpws 18 (by decide +kernel) (by decide +kernel)⟩, tpw1 9 (by decide +kernel) (by decide +kernel), tpw4 76 (by decide +kernel) (by decide +kernel)⟩, ⟨by decide +kernel, by decide +kernel⟩, by decide +kernel, by decide +kernel, rfl⟩
theorem mv_Mg_choose : tpMv Mg_choose 6 := ⟨⟨⟨tpw4 41 (by decide +kernel) (by decide +kernel), tpws 15 (by decide +kernel) (by decide +kernel)⟩, tpw1 9 (by decide +kernel) (by decide +kernel), tpw4 42 (by decide +kernel) (by decide +kernel)⟩, ⟨by decide +kernel, by decide +kernel⟩, by decide +kernel, by decide +kernel, rfl⟩
theorem mv_Mg_staysWithOne : tpMv Mg_staysWithOne 4 := ⟨⟨⟨tpw4 80 (by decide +kernel) (by decide +kernel), tpws 19 (by decide +kernel) (by decide +kernel)⟩, tpw1 9 (by decide +kernel) (by decide +kernel), tpw4 81 (by decide +kernel) (by decide +kernel)⟩, ⟨by decide +kernel, by decide +kernel⟩, by decide +kernel, by decide +kernel, rfl⟩
theorem mv_Mg_isTouched : tpMv Mg_isTouched 3 := ⟨⟨⟨tpw4 84 (by decide +kernel) (by decide +kernel), tpws 20 (by decide +kernel) (by decide +kernel)⟩, tpw1 9 (by decide +kernel) (by decide +kernel), tpw4 85 (by decide +kernel) (by decide +kernel)⟩, ⟨by decide +kernel, by decide +kernel⟩, by decide +kernel, by decide +kernel, rfl⟩
theorem mv_Mg_mendParents : tpMv Mg_mendParents 1 := ⟨⟨⟨tpw4 106 (by decide +kernel) (by decide +kernel), tpws 21 (by decide +kernel) (by decide +kernel)⟩, tpw1 9 (by decide +kernel) (by decide +kernel), tpw4 107 (by decide +kernel) (by decide +kernel)⟩, ⟨by decide +kernel, by decide +kernel⟩, by decide +kernel, by decide +kernel, rfl⟩
theorem mv_Mg_lowestLost : tpMv Mg_lowestLost 0 := ⟨⟨⟨tpw4 110 (by decide +kernel) (by decide +kernel), tpws 22 (by decide +kernel) (by decide +kernel)⟩, tpw1 9 (by decide +kernel) (by decide +kernel), tpw4 111 (by decide +kernel) (by decide +kernel)⟩, ⟨by decide +kernel, by decide +kernel⟩, by decide +kernel, by decide +kernel, rfl⟩
theorem mv_Mg_lowestInRing : tpMv Mg_lowestInRing 0 := ⟨⟨⟨tpw4 114 (by decide +kernel) (by decide +kernel), tpws 23 (by decide +kernel) (by decide +kernel)⟩, tpw1 9 (by decide +kernel) (by decide +kernel), tpw4 115 (by decide +kernel) (by decide +kernel)⟩, ⟨by decide +kernel, by decide +kernel⟩, by decide +kernel, by decide +kernel, rfl⟩
theorem mv_Mg_isInRing : tpMv Mg_isInRing 1 := ⟨⟨⟨tpw4 118 (by decide +kernel) (by decide +kernel), tpws 24 (by decide +kernel) (by decide +kernel)⟩, tpw1 9 (by decide +kernel) (by decide +kernel), tpw4 119 (by decide +kernel) (by decide +kernel)⟩, ⟨by decide +kernel, by decide +kernel⟩, by decide +kernel, by decide +kernel, rfl⟩
theorem mv_Mg_breakRing : tpMv Mg_breakRing 2 := ⟨⟨⟨tpw4 122 (by decide +kernel) (by decide +kernel), tpws 25 (by decide +kernel) (by decide +kernel)⟩, tpw1 9 (by decide +kernel) (by decide +kernel), tpw4 123 (by decide +kernel) (by decide +kernel)⟩, ⟨by decide +kernel, by decide +kernel⟩, by decide +kernel, by decide +kernel, rfl⟩
theorem mv_Mg_hangChildren : tpMv Mg_hangChildren 4 := ⟨⟨⟨tpw4 133 (by decide +kernel) (by decide +kernel), tpws 27 (by decide +kernel) (by decide +kernel)⟩, tpw1 9 (by decide +kernel) (by decide +kernel), tpw4 134 (by decide +kernel) (by decide +kernel)⟩, ⟨by decide +kernel, by decide +kernel⟩, by decide +kernel, by decide +kernel, rfl⟩
theorem mv_Mg_readShared : tpMv Mg_readShared 4 := ⟨⟨⟨tpw4 138 (by decide +kernel) (by decide +kernel), tpws 28 (by decide +kernel) (by decide +kernel)⟩, tpw1 9 (by decide +kernel) (by decide +kernel), tpw4 139 (by decide +kernel) (by decide +kernel)⟩, ⟨by decide +kernel, by decide +kernel⟩, by decide +kernel, by decide +kernel, rfl⟩
theorem mv_Mg_leader : tpMv Mg_leader 2 := ⟨⟨⟨tpw4 142 (by decide +kernel) (by decide +kernel), tpws 29 (by decide +kernel) (by decide +kernel)⟩, tpw1 9 (by decide +kernel) (by decide +kernel), tpw4 143 (by decide +kernel) (by decide +kernel)⟩, ⟨by decide +kernel, by decide +kernel⟩, by decide +kernel, by decide +kernel, rfl⟩
theorem mv_Mg_isTurned : tpMv Mg_isTurned 2 := ⟨⟨⟨tpw4 146 (by decide +kernel) (by decide +kernel), tpws 30 (by decide +kernel) (by decide +kernel)⟩, tpw1 9 (by decide +kernel) (by decide +kernel), tpw4 147 (by decide +kernel) (by decide +kernel)⟩, ⟨by decide +kernel, by decide +kernel⟩, by decide +kernel, by decide +kernel, rfl⟩
theorem mv_Mg_hangShared : tpMv Mg_hangShared 2 := ⟨⟨⟨tpw4 155 (by decide +kernel) (by decide +kernel), tpws 31 (by decide +kernel) (by decide +kernel)⟩, tpw1 9 (by decide +kernel) (by decide +kernel), tpw4 156 (by decide +kernel) (by decide +kernel)⟩, ⟨by decide +kernel, by decide +kernel⟩, by decide +kernel, by decide +kernel, rfl⟩
theorem mv_Mg_nearestOf : tpMv Mg_nearestOf 4 := ⟨⟨⟨tpw4 165 (by decide +kernel) (by decide +kernel), tpws 32 (by decide +kernel) (by decide +kernel)⟩, tpw1 9 (by decide +kernel) (by decide +kernel), tpw4 166 (by decide +kernel) (by decide +kernel)⟩, ⟨by decide +kernel, by decide +kernel⟩, by decide +kernel, by decide +kernel, rfl⟩
theorem mv_Mg_nearestAhead : tpMv Mg_nearestAhead 3 := ⟨⟨⟨tpw4 169 (by decide +kernel) (by decide +kernel), tpws 33 (by decide +kernel) (by decide +kernel)⟩, tpw1 9 (by decide +kernel) (by decide +kernel), tpw4 170 (by decide +kernel) (by decide +kernel)⟩, ⟨by decide +kernel, by decide +kernel⟩, by decide +kernel, by decide +kernel, rfl⟩
theorem mi_Ro_init : tpMi Ro_init 1 := ⟨⟨tpw1 38 (by decide +kernel) (by decide +kernel), tpw1 3 (by decide +kernel) (by decide +kernel), tpw1 39 (by decide +kernel) (by decide +kernel)⟩, ⟨by decide +kernel, by decide +kernel⟩, by decide +kernel, by decide +kernel, rfl, rfl, rfl⟩
theorem mv_Ro_at : tpMv Ro_at 1 := ⟨⟨⟨tpw2 170 (by decide +kernel) (by decide +kernel), tpw2 171 (by decide +kernel) (by decide +kernel)⟩, tpw1 3 (by decide +kernel) (by decide +kernel), tpw2 172 (by decide +kernel) (by decide +kernel)⟩, ⟨by decide +kernel, by decide +kernel⟩, by decide +kernel, by decide +kernel, rfl⟩
theorem mv_Ro_put : tpMv Ro_put 2 := ⟨⟨⟨tpw2 174 (by decide +kernel) (by decide +kernel), tpw2 175 (by decide +kernel) (by decide +kernel)⟩, tpw1 3 (by decide +kernel) (by decide +kernel), tpw2 176 (by decide +kernel) (by decide +kernel)⟩, ⟨by decide +kernel, by decide +kernel⟩, by decide +kernel, by decide +kernel, rfl⟩
theorem mv_Ro_fill : tpMv Ro_fill 2 := ⟨⟨⟨tpw3 57 (by decide +kernel) (by decide +kernel), tpw3 58 (by decide +kernel) (by decide +kernel)⟩, tpw1 3 (by decide +kernel) (by decide +kernel), tpw3 59 (by decide +kernel) (by decide +kernel)⟩, ⟨by decide +kernel, by decide +kernel⟩, by decide +kernel, by decide +kernel, rfl⟩
theorem mv_Ro_clear : tpMv Ro_clear 0 := ⟨⟨⟨tpw4 27 (by decide +kernel) (by decide +kernel), tpw4 28 (by decide +kernel) (by decide +kernel)⟩, tpw1 3 (by decide +kernel) (by decide +kernel), tpw4 29 (by decide +kernel) (by decide +kernel)⟩, ⟨by decide +kernel, by decide +kernel⟩, by decide +kernel, by decide +kernel, rfl⟩
theorem mv_Ro_push : tpMv Ro_push 1 := ⟨⟨⟨tpw4 48 (by decide +kernel) (by decide +kernel), tpw4 49 (by decide +kernel) (by decide +kernel)⟩, tpw1 3 (by decide +kernel) (by decide +kernel), tpw4 50 (by decide +kernel) (by decide +kernel)⟩, ⟨by decide +kernel, by decide +kernel⟩, by decide +kernel, by decide +kernel, rfl⟩
theorem mv_Ro_lengthen : tpMv Ro_lengthen 0 := ⟨⟨⟨tpw4 53 (by decide +kernel) (by decide +kernel), tpws 17 (by decide +kernel) (by decide +kernel)⟩, tpw1 3 (by decide +kernel) (by decide +kernel), tpw4 54 (by decide +kernel) (by decide +kernel)⟩, ⟨by decide +kernel, by decide +kernel⟩, by decide +kernel, by decide +kernel, rfl⟩
theorem mv_Ro_hasSamePushed : tpMv Ro_hasSamePushed 1 := ⟨⟨⟨tpw4 149 (by decide +kernel) (by decide +kernel), tpw4 150 (by decide +kernel) (by decide +kernel)⟩, tpw1 3 (by decide +kernel) (by decide +kernel), tpw4 151 (by decide +kernel) (by decide +kernel)⟩, ⟨by decide +kernel, by decide +kernel⟩, by decide +kernel, by decide +kernel, rfl⟩
theorem mi_Sp_init : tpMi Sp_init 3 := ⟨⟨tpw1 188 (by decide +kernel) (by decide +kernel), tpw1 8 (by decide +kernel) (by decide +kernel), tpw1 189 (by decide +kernel) (by decide +kernel)⟩, ⟨by decide +kernel, by decide +kernel⟩, by decide +kernel, by decide +kernel, rfl, rfl, rfl⟩
theorem mi_Tr_init : tpMi Tr_init 2 := ⟨⟨tpw3 194 (by decide +kernel) (by decide +kernel), tpw1 17 (by decide +kernel) (by decide +kernel), tpw3 195 (by decide +kernel) (by decide +kernel)⟩, ⟨by decide +kernel, by decide +kernel⟩, by decide +kernel, by decide +kernel, rfl, rfl, rfl⟩
theorem mv_Tr_fillPlace : tpMv Tr_fillPlace 4 := ⟨⟨⟨tpw3 234 (by decide +kernel) (by decide +kernel), tpw3 235 (by decide +kernel) (by decide +kernel)⟩, tpw1 17 (by decide +kernel) (by decide +kernel), tpw3 236 (by decide +kernel) (by decide +kernel)⟩, ⟨by decide +kernel, by decide +kernel⟩, by decide +kernel, by decide +kernel, rfl⟩
theorem mv_Tr_close : tpMv Tr_close 0 := ⟨⟨⟨tpw4 3 (by decide +kernel) (by decide +kernel), tpw4 4 (by decide +kernel) (by decide +kernel)⟩, tpw1 17 (by decide +kernel) (by decide +kernel), tpw4 5 (by decide +kernel) (by decide +kernel)⟩, ⟨by decide +kernel, by decide +kernel⟩, by decide +kernel, by decide +kernel, rfl⟩
theorem mv_Tr_markOf : tpMv Tr_markOf 1 := ⟨⟨⟨tpw2 214 (by decide +kernel) (by decide +kernel), tpw2 215 (by decide +kernel) (by decide +kernel)⟩, tpw1 17 (by decide +kernel) (by decide +kernel), tpw2 216 (by decide +kernel) (by decide +kernel)⟩, ⟨by decide +kernel, by decide +kernel⟩, by decide +kernel, by decide +kernel, rfl⟩
theorem mv_Tr_worthOf : tpMv Tr_worthOf 1 := ⟨⟨⟨tpw3 75 (by decide +kernel) (by decide +kernel), tpw3 76 (by decide +kernel) (by decide +kernel)⟩, tpw1 17 (by decide +kernel) (by decide +kernel), tpw3 77 (by decide +kernel) (by decide +kernel)⟩, ⟨by decide +kernel, by decide +kernel⟩, by decide +kernel, by decide +kernel, rfl⟩
theorem mv_Tr_upOf : tpMv Tr_upOf 1 := ⟨⟨⟨tpw3 80 (by decide +kernel) (by decide +kernel), tpw3 81 (by decide +kernel) (by decide +kernel)⟩, tpw1 17 (by decide +kernel) (by decide +kernel), tpw3 82 (by decide +kernel) (by decide +kernel)⟩, ⟨by decide +kernel, by decide +kernel⟩, by decide +kernel, by decide +kernel, rfl⟩
theorem mv_Tr_rankOf : tpMv Tr_rankOf 1 := ⟨⟨⟨tpw4 173 (by decide +kernel) (by decide +kernel), tpw4 174 (by decide +kernel) (by decide +kernel)⟩, tpw1 17 (by decide +kernel) (by decide +kernel), tpw4 175 (by decide +kernel) (by decide +kernel)⟩, ⟨by decide +kernel, by decide +kernel⟩, by decide +kernel, by decide +kernel, rfl⟩
theorem mv_Tr_kidsOf : tpMv Tr_kidsOf 1 := ⟨⟨⟨tpw4 92 (by decide +kernel) (by decide +kernel), tpw4 93 (by decide +kernel) (by decide +kernel)⟩, tpw1 17 (by decide +kernel) (by decide +kernel), tpw4 94 (by decide +kernel) (by decide +kernel)⟩, ⟨by decide +kernel, by decide +kernel⟩, by decide +kernel, by decide +kernel, rfl⟩
theorem mv_Tr_kid : tpMv Tr_kid 2 := ⟨⟨⟨tpw4 96 (by decide +kernel) (by decide +kernel), tpw4 97 (by decide +kernel) (by decide +kernel)⟩, tpw1 17 (by decide +kernel) (by decide +kernel), tpw4 98 (by decide +kernel) (by decide +kernel)⟩, ⟨by decide +kernel, by decide +kernel⟩, by decide +kernel, by decide +kernel, rfl⟩
theorem mv_Tr_placeOf : tpMv Tr_placeOf 1 := ⟨⟨⟨tpw3 238 (by decide +kernel) (by decide +kernel), tpw3 239 (by decide +kernel) (by decide +kernel)⟩, tpw1 17 (by decide +kernel) (by decide +kernel), tpw4 0 (by decide +kernel) (by decide +kernel)⟩, ⟨by decide +kernel, by decide +kernel⟩, by decide +kernel, by decide +kernel, rfl⟩
theorem mv_Tr_holds : tpMv Tr_holds 1 := ⟨⟨⟨tpw4 35 (by decide +kernel) (by decide +kernel), tpw4 36 (by decide +kernel) (by decide +kernel)⟩, tpw1 17 (by decide +kernel) (by decide +kernel), tpw4 37 (by decide +kernel) (by decide +kernel)⟩, ⟨by decide +kernel, by decide +kernel⟩, by decide +kernel, by decide +kernel, rfl⟩
theorem mv_Tr_worthOfMark : tpMv Tr_worthOfMark 1 := ⟨⟨⟨tpw2 228 (by decide +kernel) (by decide +kernel), tpw2 229 (by decide +kernel) (by decide +kernel)⟩, tpw1 17 (by decide +kernel) (by decide +kernel), tpw2 230 (by decide +kernel) (by decide +kernel)⟩, ⟨by decide +kernel, by decide +kernel⟩, by decide +kernel, by decide +kernel, rfl⟩
theorem mv_Tr_parentOfMark : tpMv Tr_parentOfMark 1 := ⟨⟨⟨tpw2 236 (by decide +kernel) (by decide +kernel), tpw2 237 (by decide +kernel) (by decide +kernel)⟩, tpw1 17 (by decide +kernel) (by decide +kernel), tpw2 238 (by decide +kernel) (by decide +kernel)⟩, ⟨by decide +kernel, by decide +kernel⟩, by decide +kernel, by decide +kernel, rfl⟩
theorem mv_Tr_hasUnder : tpMv Tr_hasUnder 2 := ⟨⟨⟨tpw4 101 (by decide +kernel) (by decide +kernel), tpw4 102 (by decide +kernel) (by decide +kernel)⟩, tpw1 17 (by decide +kernel) (by decide +kernel), tpw4 103 (by decide +kernel) (by decide +kernel)⟩, ⟨by decide +kernel, by decide +kernel⟩, by decide +kernel, by decide +kernel, rfl⟩
theorem mv_Tr_hasSame : tpMv Tr_hasSame 2 := ⟨⟨⟨tpw4 87 (by decide +kernel) (by decide +kernel), tpw4 88 (by decide +kernel) (by decide +kernel)⟩, tpw1 17 (by decide +kernel) (by decide +kernel), tpw4 89 (by decide +kernel) (by decide +kernel)⟩, ⟨by decide +kernel, by decide +kernel⟩, by decide +kernel, by decide +kernel, rfl⟩
theorem mi_TP_init : tpMi TP_init 0 := ⟨⟨tpw1 24 (by decide +kernel) (by decide +kernel), tpw1 1 (by decide +kernel) (by decide +kernel), tpw1 25 (by decide +kernel) (by decide +kernel)⟩, ⟨by decide +kernel, by decide +kernel⟩, by decide +kernel, by decide +kernel, rfl, rfl, rfl⟩
theorem mv_TP_begin : tpMv TP_begin 3 := ⟨⟨⟨tpw3 9 (by decide +kernel) (by decide +kernel), tpw3 10 (by decide +kernel) (by decide +kernel)⟩, tpw1 1 (by decide +kernel) (by decide +kernel), tpw3 11 (by decide +kernel) (by decide +kernel)⟩, ⟨by decide +kernel, by decide +kernel⟩, by decide +kernel, by decide +kernel, rfl⟩
theorem mv_TP_copy : tpMv TP_copy 1 := ⟨⟨⟨tpw3 66 (by decide +kernel) (by decide +kernel), tpw3 67 (by decide +kernel) (by decide +kernel)⟩, tpw1 1 (by decide +kernel) (by decide +kernel), tpw3 68 (by decide +kernel) (by decide +kernel)⟩, ⟨by decide +kernel, by decide +kernel⟩, by decide +kernel, by decide +kernel, rfl⟩
theorem mv_TP_node : tpMv TP_node 5 := ⟨⟨⟨tpw3 102 (by decide +kernel) (by decide +kernel), tpw3 103 (by decide +kernel) (by decide +kernel)⟩, tpw1 1 (by decide +kernel) (by decide +kernel), tpw3 104 (by decide +kernel) (by decide +kernel)⟩, ⟨by decide +kernel, by decide +kernel⟩, by decide +kernel, by decide +kernel, rfl⟩
theorem mv_TP_set : tpMv TP_set 2 := ⟨⟨⟨tpw3 135 (by decide +kernel) (by decide +kernel), tpw3 136 (by decide +kernel) (by decide +kernel)⟩, tpw1 1 (by decide +kernel) (by decide +kernel), tpw3 137 (by decide +kernel) (by decide +kernel)⟩, ⟨by decide +kernel, by decide +kernel⟩, by decide +kernel, by decide +kernel, rfl⟩
theorem mv_TP_move : tpMv TP_move 3 := ⟨⟨⟨tpw3 147 (by decide +kernel) (by decide +kernel), tpw3 148 (by decide +kernel) (by decide +kernel)⟩, tpw1 1 (by decide +kernel) (by decide +kernel), tpw3 149 (by decide +kernel) (by decide +kernel)⟩, ⟨by decide +kernel, by decide +kernel⟩, by decide +kernel, by decide +kernel, rfl⟩
theorem mv_TP_drop : tpMv TP_drop 1 := ⟨⟨⟨tpw3 164 (by decide +kernel) (by decide +kernel), tpw3 165 (by decide +kernel) (by decide +kernel)⟩, tpw1 1 (by decide +kernel) (by decide +kernel), tpw3 166 (by decide +kernel) (by decide +kernel)⟩, ⟨by decide +kernel, by decide +kernel⟩, by decide +kernel, by decide +kernel, rfl⟩
theorem mv_TP_seal : tpMv TP_seal 0 := ⟨⟨⟨tpw3 178 (by decide +kernel) (by decide +kernel), tpw3 179 (by decide +kernel) (by decide +kernel)⟩, tpw1 1 (by decide +kernel) (by decide +kernel), tpw3 180 (by decide +kernel) (by decide +kernel)⟩, ⟨by decide +kernel, by decide +kernel⟩, by decide +kernel, by decide +kernel, rfl⟩
theorem mv_TP_setPolicy : tpMv TP_setPolicy 2 := ⟨⟨⟨tpw2 98 (by decide +kernel) (by decide +kernel), tpw2 99 (by decide +kernel) (by decide +kernel)⟩, tpw1 1 (by decide +kernel) (by decide +kernel), tpw2 100 (by decide +kernel) (by decide +kernel)⟩, ⟨by decide +kernel, by decide +kernel⟩, by decide +kernel, by decide +kernel, rfl⟩
theorem mv_TP_merge : tpMv TP_merge 3 := ⟨⟨⟨tpw4 14 (by decide +kernel) (by decide +kernel), tpw4 15 (by decide +kernel) (by decide +kernel)⟩, tpw1 1 (by decide +kernel) (by decide +kernel), tpw4 16 (by decide +kernel) (by decide +kernel)⟩, ⟨by decide +kernel, by decide +kernel⟩, by decide +kernel, by decide +kernel, rfl⟩
theorem mv_TP_trees : tpMv TP_trees 0 := ⟨⟨⟨tpw2 178 (by decide +kernel) (by decide +kernel), tpw2 179 (by decide +kernel) (by decide +kernel)⟩, tpw1 1 (by decide +kernel) (by decide +kernel), tpw2 180 (by decide +kernel) (by decide +kernel)⟩, ⟨by decide +kernel, by decide +kernel⟩, by decide +kernel, by decide +kernel, rfl⟩
theorem mv_TP_size : tpMv TP_size 1 := ⟨⟨⟨tpw2 185 (by decide +kernel) (by decide +kernel), tpw2 186 (by decide +kernel) (by decide +kernel)⟩, tpw1 1 (by decide +kernel) (by decide +kernel), tpw2 187 (by decide +kernel) (by decide +kernel)⟩, ⟨by decide +kernel, by decide +kernel⟩, by decide +kernel, by decide +kernel, rfl⟩
theorem mv_TP_markAt : tpMv TP_markAt 2 := ⟨⟨⟨tpw2 209 (by decide +kernel) (by decide +kernel), tpw2 210 (by decide +kernel) (by decide +kernel)⟩, tpw1 1 (by decide +kernel) (by decide +kernel), tpw2 211 (by decide +kernel) (by decide +kernel)⟩, ⟨by decide +kernel, by decide +kernel⟩, by decide +kernel, by decide +kernel, rfl⟩
theorem mv_TP_value : tpMv TP_value 2 := ⟨⟨⟨tpw2 219 (by decide +kernel) (by decide +kernel), tpw2 220 (by decide +kernel) (by decide +kernel)⟩, tpw1 1 (by decide +kernel) (by decide +kernel), tpw2 221 (by decide +kernel) (by decide +kernel)⟩, ⟨by decide +kernel, by decide +kernel⟩, by decide +kernel, by decide +kernel, rfl⟩
theorem mv_TP_parent : tpMv TP_parent 2 := ⟨⟨⟨tpw2 232 (by decide +kernel) (by decide +kernel), tpw2 233 (by decide +kernel) (by decide +kernel)⟩, tpw1 1 (by decide +kernel) (by decide +kernel), tpw2 234 (by decide +kernel) (by decide +kernel)⟩, ⟨by decide +kernel, by decide +kernel⟩, by decide +kernel, by decide +kernel, rfl⟩
theorem mv_TP_conflicts : tpMv TP_conflicts 0 := ⟨⟨⟨tpw5 10 (by decide +kernel) (by decide +kernel), tpw5 11 (by decide +kernel) (by decide +kernel)⟩, tpw1 1 (by decide +kernel) (by decide +kernel), tpw5 12 (by decide +kernel) (by decide +kernel)⟩, ⟨by decide +kernel, by decide +kernel⟩, by decide +kernel, by decide +kernel, rfl⟩
theorem mv_TP_conflictKind : tpMv TP_conflictKind 1 := ⟨⟨⟨tpw4 180 (by decide +kernel) (by decide +kernel), tpw4 181 (by decide +kernel) (by decide +kernel)⟩, tpw1 1 (by decide +kernel) (by decide +kernel), tpw4 182 (by decide +kernel) (by decide +kernel)⟩, ⟨by decide +kernel, by decide +kernel⟩, by decide +kernel, by decide +kernel, rfl⟩
theorem mv_TP_conflictMark : tpMv TP_conflictMark 1 := ⟨⟨⟨tpw4 189 (by decide +kernel) (by decide +kernel), tpw4 190 (by decide +kernel) (by decide +kernel)⟩, tpw1 1 (by decide +kernel) (by decide +kernel), tpw4 191 (by decide +kernel) (by decide +kernel)⟩, ⟨by decide +kernel, by decide +kernel⟩, by decide +kernel, by decide +kernel, rfl⟩
theorem mv_TP_needTree : tpMv TP_needTree 1 := ⟨⟨⟨tpw2 190 (by decide +kernel) (by decide +kernel), tpws 1 (by decide +kernel) (by decide +kernel)⟩, tpw1 1 (by decide +kernel) (by decide +kernel), tpw2 191 (by decide +kernel) (by decide +kernel)⟩, ⟨by decide +kernel, by decide +kernel⟩, by decide +kernel, by decide +kernel, rfl⟩
theorem mv_TP_needConflict : tpMv TP_needConflict 1 := ⟨⟨⟨tpw4 185 (by decide +kernel) (by decide +kernel), tpws 34 (by decide +kernel) (by decide +kernel)⟩, tpw1 1 (by decide +kernel) (by decide +kernel), tpw4 186 (by decide +kernel) (by decide +kernel)⟩, ⟨by decide +kernel, by decide +kernel⟩, by decide +kernel, by decide +kernel, rfl⟩
theorem mv_TP_needMade : tpMv TP_needMade 1 := ⟨⟨⟨tpw2 224 (by decide +kernel) (by decide +kernel), tpws 2 (by decide +kernel) (by decide +kernel)⟩, tpw1 1 (by decide +kernel) (by decide +kernel), tpw2 225 (by decide +kernel) (by decide +kernel)⟩, ⟨by decide +kernel, by decide +kernel⟩, by decide +kernel, by decide +kernel, rfl⟩
theorem mv_TP_needDrafted : tpMv TP_needDrafted 1 := ⟨⟨⟨tpw3 107 (by decide +kernel) (by decide +kernel), tpws 9 (by decide +kernel) (by decide +kernel)⟩, tpw1 1 (by decide +kernel) (by decide +kernel), tpw3 108 (by decide +kernel) (by decide +kernel)⟩, ⟨by decide +kernel, by decide +kernel⟩, by decide +kernel, by decide +kernel, rfl⟩
theorem mv_TP_needPlace : tpMv TP_needPlace 3 := ⟨⟨⟨tpw3 116 (by decide +kernel) (by decide +kernel), tpws 10 (by decide +kernel) (by decide +kernel)⟩, tpw1 1 (by decide +kernel) (by decide +kernel), tpw3 117 (by decide +kernel) (by decide +kernel)⟩, ⟨by decide +kernel, by decide +kernel⟩, by decide +kernel, by decide +kernel, rfl⟩
theorem mv_TP_needKind : tpMv TP_needKind 1 := ⟨⟨⟨tpw3 18 (by decide +kernel) (by decide +kernel), tpws 4 (by decide +kernel) (by decide +kernel)⟩, tpw1 1 (by decide +kernel) (by decide +kernel), tpw3 19 (by decide +kernel) (by decide +kernel)⟩, ⟨by decide +kernel, by decide +kernel⟩, by decide +kernel, by decide +kernel, rfl⟩
theorem mv_TP_needValue : tpMv TP_needValue 1 := ⟨⟨⟨tpw3 23 (by decide +kernel) (by decide +kernel), tpws 5 (by decide +kernel) (by decide +kernel)⟩, tpw1 1 (by decide +kernel) (by decide +kernel), tpw3 24 (by decide +kernel) (by decide +kernel)⟩, ⟨by decide +kernel, by decide +kernel⟩, by decide +kernel, by decide +kernel, rfl⟩
theorem mv_TP_needLooks : tpMv TP_needLooks 3 := ⟨⟨⟨tpw3 14 (by decide +kernel) (by decide +kernel), tpws 3 (by decide +kernel) (by decide +kernel)⟩, tpw1 1 (by decide +kernel) (by decide +kernel), tpw3 15 (by decide +kernel) (by decide +kernel)⟩, ⟨by decide +kernel, by decide +kernel⟩, by decide +kernel, by decide +kernel, rfl⟩
theorem mv_TP_needFreeMark : tpMv TP_needFreeMark 0 := ⟨⟨⟨tpw3 29 (by decide +kernel) (by decide +kernel), tpws 6 (by decide +kernel) (by decide +kernel)⟩, tpw1 1 (by decide +kernel) (by decide +kernel), tpw3 30 (by decide +kernel) (by decide +kernel)⟩, ⟨by decide +kernel, by decide +kernel⟩, by decide +kernel, by decide +kernel, rfl⟩
theorem mv_TP_needRoomForTree : tpMv TP_needRoomForTree 0 := ⟨⟨⟨tpw3 184 (by decide +kernel) (by decide +kernel), tpws 11 (by decide +kernel) (by decide +kernel)⟩, tpw1 1 (by decide +kernel) (by decide +kernel), tpw3 185 (by decide +kernel) (by decide +kernel)⟩, ⟨by decide +kernel, by decide +kernel⟩, by decide +kernel, by decide +kernel, rfl⟩
theorem mv_TP_needSameRoots : tpMv TP_needSameRoots 3 := ⟨⟨⟨tpw4 19 (by decide +kernel) (by decide +kernel), tpws 13 (by decide +kernel) (by decide +kernel)⟩, tpw1 1 (by decide +kernel) (by decide +kernel), tpw4 20 (by decide +kernel) (by decide +kernel)⟩, ⟨by decide +kernel, by decide +kernel⟩, by decide +kernel, by decide +kernel, rfl⟩
theorem mv_TP_keepTree : tpMv TP_keepTree 1 := ⟨⟨⟨tpw4 11 (by decide +kernel) (by decide +kernel), tpws 12 (by decide +kernel) (by decide +kernel)⟩, tpw1 1 (by decide +kernel) (by decide +kernel), tpw4 12 (by decide +kernel) (by decide +kernel)⟩, ⟨by decide +kernel, by decide +kernel⟩, by decide +kernel, by decide +kernel, rfl⟩
theorem ms_JA_copyOf_59c91 : tpMs JA_copyOf_59c91 2 := ⟨⟨tpw4 56 (by decide +kernel) (by decide +kernel), tpw1 19 (by decide +kernel) (by decide +kernel), tpw4 57 (by decide +kernel) (by decide +kernel)⟩, ⟨by decide +kernel, by decide +kernel⟩, by decide +kernel, by decide +kernel, rfl⟩
theorem ms_Lw_mark : tpMs Lw_mark 2 := ⟨⟨tpw4 196 (by decide +kernel) (by decide +kernel), tpw1 0 (by decide +kernel) (by decide +kernel), tpw4 197 (by decide +kernel) (by decide +kernel)⟩, ⟨by decide +kernel, by decide +kernel⟩, by decide +kernel, by decide +kernel, rfl⟩
theorem ms_Lw_parent : tpMs Lw_parent 2 := ⟨⟨tpw4 205 (by decide +kernel) (by decide +kernel), tpw1 0 (by decide +kernel) (by decide +kernel), tpw4 206 (by decide +kernel) (by decide +kernel)⟩, ⟨by decide +kernel, by decide +kernel⟩, by decide +kernel, by decide +kernel, rfl⟩
theorem ms_Lw_value : tpMs Lw_value 2 := ⟨⟨tpw4 211 (by decide +kernel) (by decide +kernel), tpw1 0 (by decide +kernel) (by decide +kernel), tpw4 212 (by decide +kernel) (by decide +kernel)⟩, ⟨by decide +kernel, by decide +kernel⟩, by decide +kernel, by decide +kernel, rfl⟩
theorem ms_Lw_place : tpMs Lw_place 2 := ⟨⟨tpw4 202 (by decide +kernel) (by decide +kernel), tpw1 0 (by decide +kernel) (by decide +kernel), tpw4 203 (by decide +kernel) (by decide +kernel)⟩, ⟨by decide +kernel, by decide +kernel⟩, by decide +kernel, by decide +kernel, rfl⟩
theorem ms_Lw_parentOf : tpMs Lw_parentOf 2 := ⟨⟨tpw4 199 (by decide +kernel) (by decide +kernel), tpw1 0 (by decide +kernel) (by decide +kernel), tpw4 200 (by decide +kernel) (by decide +kernel)⟩, ⟨by decide +kernel, by decide +kernel⟩, by decide +kernel, by decide +kernel, rfl⟩
theorem ms_Lw_valueOf : tpMs Lw_valueOf 2 := ⟨⟨tpw4 208 (by decide +kernel) (by decide +kernel), tpw1 0 (by decide +kernel) (by decide +kernel), tpw4 209 (by decide +kernel) (by decide +kernel)⟩, ⟨by decide +kernel, by decide +kernel⟩, by decide +kernel, by decide +kernel, rfl⟩
theorem ms_Lw_reads : tpMs Lw_reads 3 := ⟨⟨tpw2 182 (by decide +kernel) (by decide +kernel), tpw1 0 (by decide +kernel) (by decide +kernel), tpw2 183 (by decide +kernel) (by decide +kernel)⟩, ⟨by decide +kernel, by decide +kernel⟩, by decide +kernel, by decide +kernel, rfl⟩
theorem ms_Lw_children : tpMs Lw_children 4 := ⟨⟨tpw4 214 (by decide +kernel) (by decide +kernel), tpw1 0 (by decide +kernel) (by decide +kernel), tpw4 215 (by decide +kernel) (by decide +kernel)⟩, ⟨by decide +kernel, by decide +kernel⟩, by decide +kernel, by decide +kernel, rfl⟩
theorem ms_Lw_puts : tpMs Lw_puts 3 := ⟨⟨tpw3 0 (by decide +kernel) (by decide +kernel), tpw1 0 (by decide +kernel) (by decide +kernel), tpw3 1 (by decide +kernel) (by decide +kernel)⟩, ⟨by decide +kernel, by decide +kernel⟩, by decide +kernel, by decide +kernel, rfl⟩
theorem ms_Lw_takes : tpMs Lw_takes 2 := ⟨⟨tpw5 23 (by decide +kernel) (by decide +kernel), tpw1 0 (by decide +kernel) (by decide +kernel), tpw5 24 (by decide +kernel) (by decide +kernel)⟩, ⟨by decide +kernel, by decide +kernel⟩, by decide +kernel, by decide +kernel, rfl⟩
theorem ms_Lw_spot : tpMs Lw_spot 4 := ⟨⟨tpw5 17 (by decide +kernel) (by decide +kernel), tpw1 0 (by decide +kernel) (by decide +kernel), tpw5 18 (by decide +kernel) (by decide +kernel)⟩, ⟨by decide +kernel, by decide +kernel⟩, by decide +kernel, by decide +kernel, rfl⟩
theorem ms_Lw_isBelow : tpMs Lw_isBelow 3 := ⟨⟨tpw5 20 (by decide +kernel) (by decide +kernel), tpw1 0 (by decide +kernel) (by decide +kernel), tpw5 21 (by decide +kernel) (by decide +kernel)⟩, ⟨by decide +kernel, by decide +kernel⟩, by decide +kernel, by decide +kernel, rfl⟩
theorem ms_Lw_does : tpMx Lw_does 5 := ⟨⟨tpw3 3 (by decide +kernel) (by decide +kernel), tpw1 0 (by decide +kernel) (by decide +kernel), tpw3 4 (by decide +kernel) (by decide +kernel)⟩, ⟨by decide +kernel, by decide +kernel⟩, by decide +kernel, by decide +kernel⟩
theorem ms_Lw_isTree : tpMs Lw_isTree 4 := ⟨⟨tpw4 193 (by decide +kernel) (by decide +kernel), tpw1 0 (by decide +kernel) (by decide +kernel), tpw4 194 (by decide +kernel) (by decide +kernel)⟩, ⟨by decide +kernel, by decide +kernel⟩, by decide +kernel, by decide +kernel, rfl⟩
theorem ms_Lw_adds : tpMs Lw_adds 2 := ⟨⟨tpw4 226 (by decide +kernel) (by decide +kernel), tpw1 0 (by decide +kernel) (by decide +kernel), tpw4 227 (by decide +kernel) (by decide +kernel)⟩, ⟨by decide +kernel, by decide +kernel⟩, by decide +kernel, by decide +kernel, rfl⟩
theorem ms_Lw_decided : tpMs Lw_decided 8 := ⟨⟨tpw4 223 (by decide +kernel) (by decide +kernel), tpw1 0 (by decide +kernel) (by decide +kernel), tpw4 224 (by decide +kernel) (by decide +kernel)⟩, ⟨by decide +kernel, by decide +kernel⟩, by decide +kernel, by decide +kernel, rfl⟩
theorem ms_Lw_isTouched : tpMs Lw_isTouched 3 := ⟨⟨tpw4 229 (by decide +kernel) (by decide +kernel), tpw1 0 (by decide +kernel) (by decide +kernel), tpw4 230 (by decide +kernel) (by decide +kernel)⟩, ⟨by decide +kernel, by decide +kernel⟩, by decide +kernel, by decide +kernel, rfl⟩
theorem ms_Lw_comes : tpMs Lw_comes 6 := ⟨⟨tpw4 220 (by decide +kernel) (by decide +kernel), tpw1 0 (by decide +kernel) (by decide +kernel), tpw4 221 (by decide +kernel) (by decide +kernel)⟩, ⟨by decide +kernel, by decide +kernel⟩, by decide +kernel, by decide +kernel, rfl⟩
theorem ms_Lw_mends : tpMs Lw_mends 3 := ⟨⟨tpw4 232 (by decide +kernel) (by decide +kernel), tpw1 0 (by decide +kernel) (by decide +kernel), tpw4 233 (by decide +kernel) (by decide +kernel)⟩, ⟨by decide +kernel, by decide +kernel⟩, by decide +kernel, by decide +kernel, rfl⟩
theorem ms_Lw_at : tpMs Lw_at 3 := ⟨⟨tpw5 1 (by decide +kernel) (by decide +kernel), tpw1 0 (by decide +kernel) (by decide +kernel), tpw5 2 (by decide +kernel) (by decide +kernel)⟩, ⟨by decide +kernel, by decide +kernel⟩, by decide +kernel, by decide +kernel, rfl⟩
theorem ms_Lw_shares : tpMs Lw_shares 6 := ⟨⟨tpw4 238 (by decide +kernel) (by decide +kernel), tpw1 0 (by decide +kernel) (by decide +kernel), tpw4 239 (by decide +kernel) (by decide +kernel)⟩, ⟨by decide +kernel, by decide +kernel⟩, by decide +kernel, by decide +kernel, rfl⟩
theorem ms_Lw_ahead : tpMs Lw_ahead 5 := ⟨⟨tpw5 4 (by decide +kernel) (by decide +kernel), tpw1 0 (by decide +kernel) (by decide +kernel), tpw5 5 (by decide +kernel) (by decide +kernel)⟩, ⟨by decide +kernel, by decide +kernel⟩, by decide +kernel, by decide +kernel, rfl⟩
theorem ms_Lw_putsBehind : tpMs Lw_putsBehind 3 := ⟨⟨tpw5 7 (by decide +kernel) (by decide +kernel), tpw1 0 (by decide +kernel) (by decide +kernel), tpw5 8 (by decide +kernel) (by decide +kernel)⟩, ⟨by decide +kernel, by decide +kernel⟩, by decide +kernel, by decide +kernel, rfl⟩
theorem ms_Lw_orders : tpMs Lw_orders 8 := ⟨⟨tpw4 235 (by decide +kernel) (by decide +kernel), tpw1 0 (by decide +kernel) (by decide +kernel), tpw4 236 (by decide +kernel) (by decide +kernel)⟩, ⟨by decide +kernel, by decide +kernel⟩, by decide +kernel, by decide +kernel, rfl⟩
theorem ms_Lw_isMerged : tpMs Lw_isMerged 8 := ⟨⟨tpw4 217 (by decide +kernel) (by decide +kernel), tpw1 0 (by decide +kernel) (by decide +kernel), tpw4 218 (by decide +kernel) (by decide +kernel)⟩, ⟨by decide +kernel, by decide +kernel⟩, by decide +kernel, by decide +kernel, rfl⟩
theorem ms_Lw_isChanged : tpMs Lw_isChanged 5 := ⟨⟨tpw5 14 (by decide +kernel) (by decide +kernel), tpw1 0 (by decide +kernel) (by decide +kernel), tpw5 15 (by decide +kernel) (by decide +kernel)⟩, ⟨by decide +kernel, by decide +kernel⟩, by decide +kernel, by decide +kernel, rfl⟩
def tpK (own : String) (i : Nat) (M : tpM) : Prop := Cond.methodLink own i (mY M) ∈ tpW
theorem kLw_150 : tpK "TwigPatchLaw" 150 TP_init := tpw1 23 (by decide +kernel) (by decide +kernel)
theorem kMa_11 : tpK "TwigPatch$Marks" 11 Ro_init := tpw1 37 (by decide +kernel) (by decide +kernel)
theorem kTP_18 : tpK "TwigPatch" 18 Bu_init := tpw1 66 (by decide +kernel) (by decide +kernel)
theorem kBu_11 : tpK "TwigPatch$Bush" 11 Ro_init := tpw1 71 (by decide +kernel) (by decide +kernel)
theorem kTP_42 : tpK "TwigPatch" 42 Li_init := tpw1 111 (by decide +kernel) (by decide +kernel)
theorem kLi_11 : tpK "TwigPatch$Likes" 11 Ro_init := tpw1 116 (by decide +kernel) (by decide +kernel)
theorem kTP_49 : tpK "TwigPatch" 49 Mt_init := tpw1 145 (by decide +kernel) (by decide +kernel)
theorem kMt_11 : tpK "TwigPatch$Matching" 11 Ro_init := tpw1 150 (by decide +kernel) (by decide +kernel)
theorem kTP_58 : tpK "TwigPatch" 58 Fi_init := tpw1 179 (by decide +kernel) (by decide +kernel)
theorem kFi_11 : tpK "TwigPatch$Finder" 11 Ro_init := tpw1 184 (by decide +kernel) (by decide +kernel)
theorem kFi_28 : tpK "TwigPatch$Finder" 28 Sp_init := tpw1 187 (by decide +kernel) (by decide +kernel)
theorem kTP_67 : tpK "TwigPatch" 67 Mg_init := tpw1 225 (by decide +kernel) (by decide +kernel)
theorem kMg_11 : tpK "TwigPatch$Merger" 11 Ro_init := tpw1 230 (by decide +kernel) (by decide +kernel)
theorem kHi_11 : tpK "TwigPatch$History" 11 Ro_init := tpw2 38 (by decide +kernel) (by decide +kernel)
theorem kLw_161 : tpK "TwigPatchLaw" 161 TP_setPolicy := tpw2 97 (by decide +kernel) (by decide +kernel)
theorem kTP_223 : tpK "TwigPatch" 223 Ro_at := tpw2 169 (by decide +kernel) (by decide +kernel)
theorem kTP_228 : tpK "TwigPatch" 228 Ro_put := tpw2 173 (by decide +kernel) (by decide +kernel)
theorem kLw_168 : tpK "TwigPatchLaw" 168 TP_trees := tpw2 177 (by decide +kernel) (by decide +kernel)
theorem kLw_82 : tpK "TwigPatchLaw" 82 Lw_reads := tpw2 181 (by decide +kernel) (by decide +kernel)
theorem kLw_22 : tpK "TwigPatchLaw" 22 TP_size := tpw2 184 (by decide +kernel) (by decide +kernel)
theorem kTP_96 : tpK "TwigPatch" 96 TP_needTree := tpw2 188 (by decide +kernel) (by decide +kernel)
theorem kLw_28 : tpK "TwigPatchLaw" 28 TP_markAt := tpw2 208 (by decide +kernel) (by decide +kernel)
theorem kTP_285 : tpK "TwigPatch" 285 Tr_markOf := tpw2 213 (by decide +kernel) (by decide +kernel)
theorem kTr_56 : tpK "TwigPatch$Tree" 56 Ro_at := tpw2 217 (by decide +kernel) (by decide +kernel)
theorem kLw_32 : tpK "TwigPatchLaw" 32 TP_value := tpw2 218 (by decide +kernel) (by decide +kernel)
theorem kTP_288 : tpK "TwigPatch" 288 TP_needMade := tpw2 222 (by decide +kernel) (by decide +kernel)
theorem kTP_291 : tpK "TwigPatch" 291 Tr_worthOfMark := tpw2 227 (by decide +kernel) (by decide +kernel)
theorem kLw_34 : tpK "TwigPatchLaw" 34 TP_parent := tpw2 231 (by decide +kernel) (by decide +kernel)
theorem kTP_294 : tpK "TwigPatch" 294 Tr_parentOfMark := tpw2 235 (by decide +kernel) (by decide +kernel)
theorem kLw_101 : tpK "TwigPatchLaw" 101 Lw_puts := tpw2 239 (by decide +kernel) (by decide +kernel)
theorem kLw_135 : tpK "TwigPatchLaw" 135 Lw_does := tpw3 2 (by decide +kernel) (by decide +kernel)
theorem kLw_43 : tpK "TwigPatchLaw" 43 TP_begin := tpw3 8 (by decide +kernel) (by decide +kernel)
theorem kTP_81 : tpK "TwigPatch" 81 TP_needLooks := tpw3 12 (by decide +kernel) (by decide +kernel)
theorem kTP_367 : tpK "TwigPatch" 367 TP_needKind := tpw3 16 (by decide +kernel) (by decide +kernel)
theorem kTP_132 : tpK "TwigPatch" 132 TP_needValue := tpw3 21 (by decide +kernel) (by decide +kernel)
theorem kTP_85 : tpK "TwigPatch" 85 TP_needFreeMark := tpw3 27 (by decide +kernel) (by decide +kernel)
theorem kTP_88 : tpK "TwigPatch" 88 Ma_make := tpw3 47 (by decide +kernel) (by decide +kernel)
theorem kMa_27 : tpK "TwigPatch$Marks" 27 Ro_put := tpw3 51 (by decide +kernel) (by decide +kernel)
theorem kTP_92 : tpK "TwigPatch" 92 Bu_plant := tpw3 52 (by decide +kernel) (by decide +kernel)
theorem kBu_62 : tpK "TwigPatch$Bush" 62 Ro_fill := tpw3 56 (by decide +kernel) (by decide +kernel)
theorem kBu_65 : tpK "TwigPatch$Bush" 65 Bu_sprout := tpw3 60 (by decide +kernel) (by decide +kernel)
theorem kBu_50 : tpK "TwigPatch$Bush" 50 Ro_put := tpw3 64 (by decide +kernel) (by decide +kernel)
theorem kLw_47 : tpK "TwigPatchLaw" 47 TP_copy := tpw3 65 (by decide +kernel) (by decide +kernel)
theorem kTP_100 : tpK "TwigPatch" 100 Bu_takeOver := tpw3 69 (by decide +kernel) (by decide +kernel)
theorem kBu_87 : tpK "TwigPatch$Bush" 87 Tr_markOf := tpw3 73 (by decide +kernel) (by decide +kernel)
theorem kBu_92 : tpK "TwigPatch$Bush" 92 Tr_worthOf := tpw3 74 (by decide +kernel) (by decide +kernel)
theorem kBu_95 : tpK "TwigPatch$Bush" 95 Bu_plant := tpw3 78 (by decide +kernel) (by decide +kernel)
theorem kBu_99 : tpK "TwigPatch$Bush" 99 Tr_upOf := tpw3 79 (by decide +kernel) (by decide +kernel)
theorem kBu_46 : tpK "TwigPatch$Bush" 46 Ro_at := tpw3 83 (by decide +kernel) (by decide +kernel)
theorem kBu_102 : tpK "TwigPatch$Bush" 102 Bu_hang := tpw3 84 (by decide +kernel) (by decide +kernel)
theorem kBu_68 : tpK "TwigPatch$Bush" 68 Ma_isLoose := tpw3 88 (by decide +kernel) (by decide +kernel)
theorem kMa_31 : tpK "TwigPatch$Marks" 31 Ro_at := tpw3 92 (by decide +kernel) (by decide +kernel)
theorem kBu_74 : tpK "TwigPatch$Bush" 74 Bu_lowerChild := tpw3 93 (by decide +kernel) (by decide +kernel)
theorem kBu_78 : tpK "TwigPatch$Bush" 78 Bu_join := tpw3 97 (by decide +kernel) (by decide +kernel)
theorem kLw_50 : tpK "TwigPatchLaw" 50 TP_node := tpw3 101 (by decide +kernel) (by decide +kernel)
theorem kTP_108 : tpK "TwigPatch" 108 TP_needDrafted := tpw3 105 (by decide +kernel) (by decide +kernel)
theorem kTP_412 : tpK "TwigPatch" 412 Bu_has := tpw3 109 (by decide +kernel) (by decide +kernel)
theorem kTP_112 : tpK "TwigPatch" 112 TP_needPlace := tpw3 114 (by decide +kernel) (by decide +kernel)
theorem kTP_415 : tpK "TwigPatch" 415 Ma_isLoose := tpw3 118 (by decide +kernel) (by decide +kernel)
theorem kTP_418 : tpK "TwigPatch" 418 Bu_countChildren := tpw3 119 (by decide +kernel) (by decide +kernel)
theorem kTP_421 : tpK "TwigPatch" 421 Bu_isChild := tpw3 123 (by decide +kernel) (by decide +kernel)
theorem kTP_123 : tpK "TwigPatch" 123 Bu_sprout := tpw3 128 (by decide +kernel) (by decide +kernel)
theorem kTP_126 : tpK "TwigPatch" 126 Bu_childAhead := tpw3 129 (by decide +kernel) (by decide +kernel)
theorem kTP_129 : tpK "TwigPatch" 129 Bu_hang := tpw3 133 (by decide +kernel) (by decide +kernel)
theorem kLw_54 : tpK "TwigPatchLaw" 54 TP_set := tpw3 134 (by decide +kernel) (by decide +kernel)
theorem kTP_135 : tpK "TwigPatch" 135 Bu_worthOf := tpw3 138 (by decide +kernel) (by decide +kernel)
theorem kTP_139 : tpK "TwigPatch" 139 Bu_give := tpw3 142 (by decide +kernel) (by decide +kernel)
theorem kLw_57 : tpK "TwigPatchLaw" 57 TP_move := tpw3 146 (by decide +kernel) (by decide +kernel)
theorem kTP_142 : tpK "TwigPatch" 142 Bu_isWithin := tpw3 150 (by decide +kernel) (by decide +kernel)
theorem kTP_148 : tpK "TwigPatch" 148 Bu_upOf := tpw3 155 (by decide +kernel) (by decide +kernel)
theorem kTP_151 : tpK "TwigPatch" 151 Bu_cut := tpw3 159 (by decide +kernel) (by decide +kernel)
theorem kLw_60 : tpK "TwigPatchLaw" 60 TP_drop := tpw3 163 (by decide +kernel) (by decide +kernel)
theorem kTP_159 : tpK "TwigPatch" 159 Bu_erase := tpw3 168 (by decide +kernel) (by decide +kernel)
theorem kBu_81 : tpK "TwigPatch$Bush" 81 Bu_cut := tpw3 172 (by decide +kernel) (by decide +kernel)
theorem kBu_84 : tpK "TwigPatch$Bush" 84 Bu_nextInOrder := tpw3 173 (by decide +kernel) (by decide +kernel)
theorem kLw_63 : tpK "TwigPatchLaw" 63 TP_seal := tpw3 177 (by decide +kernel) (by decide +kernel)
theorem kTP_164 : tpK "TwigPatch" 164 TP_needRoomForTree := tpw3 182 (by decide +kernel) (by decide +kernel)
theorem kTP_167 : tpK "TwigPatch" 167 Bu_freeze := tpw3 187 (by decide +kernel) (by decide +kernel)
theorem kBu_108 : tpK "TwigPatch$Bush" 108 Tr_init := tpw3 193 (by decide +kernel) (by decide +kernel)
theorem kTr_17 : tpK "TwigPatch$Tree" 17 Ro_init := tpw3 198 (by decide +kernel) (by decide +kernel)
theorem kTr_48 : tpK "TwigPatch$Tree" 48 Ro_fill := tpw3 199 (by decide +kernel) (by decide +kernel)
theorem kBu_110 : tpK "TwigPatch$Bush" 110 Tr_fillPlace := tpw3 233 (by decide +kernel) (by decide +kernel)
theorem kTr_52 : tpK "TwigPatch$Tree" 52 Tr_placeOf := tpw3 237 (by decide +kernel) (by decide +kernel)
theorem kTr_59 : tpK "TwigPatch$Tree" 59 Ro_put := tpw4 1 (by decide +kernel) (by decide +kernel)
theorem kBu_114 : tpK "TwigPatch$Bush" 114 Tr_close := tpw4 2 (by decide +kernel) (by decide +kernel)
theorem kTr_62 : tpK "TwigPatch$Tree" 62 JM_max_7cf53 := tpw4 6 (by decide +kernel) (by decide +kernel)
theorem kTP_171 : tpK "TwigPatch" 171 TP_keepTree := tpw4 9 (by decide +kernel) (by decide +kernel)
theorem kLw_67 : tpK "TwigPatchLaw" 67 TP_merge := tpw4 13 (by decide +kernel) (by decide +kernel)
theorem kTP_231 : tpK "TwigPatch" 231 TP_needSameRoots := tpw4 17 (by decide +kernel) (by decide +kernel)
theorem kTP_235 : tpK "TwigPatch" 235 Mg_mergeTrees := tpw4 22 (by decide +kernel) (by decide +kernel)
theorem kMg_55 : tpK "TwigPatch$Merger" 55 Ro_clear := tpw4 26 (by decide +kernel) (by decide +kernel)
theorem kMg_64 : tpK "TwigPatch$Merger" 64 Mg_decide := tpw4 30 (by decide +kernel) (by decide +kernel)
theorem kMg_107 : tpK "TwigPatch$Merger" 107 Tr_holds := tpw4 34 (by decide +kernel) (by decide +kernel)
theorem kMg_111 : tpK "TwigPatch$Merger" 111 Tr_worthOfMark := tpw4 38 (by decide +kernel) (by decide +kernel)
theorem kMg_114 : tpK "TwigPatch$Merger" 114 Mg_choose := tpw4 39 (by decide +kernel) (by decide +kernel)
theorem kMg_132 : tpK "TwigPatch$Merger" 132 Mg_list := tpw4 43 (by decide +kernel) (by decide +kernel)
theorem kMg_104 : tpK "TwigPatch$Merger" 104 Ro_push := tpw4 47 (by decide +kernel) (by decide +kernel)
theorem kRo_19 : tpK "TwigPatch$Row" 19 Ro_lengthen := tpw4 51 (by decide +kernel) (by decide +kernel)
theorem kRo_22 : tpK "TwigPatch$Row" 22 JA_copyOf_59c91 := tpw4 55 (by decide +kernel) (by decide +kernel)
theorem kJA_304 : tpK "java/util/Arrays" 304 JM_min_7cf53 := tpw4 65 (by decide +kernel) (by decide +kernel)
theorem kMg_94 : tpK "TwigPatch$Merger" 94 Ro_at := tpw4 71 (by decide +kernel) (by decide +kernel)
theorem kMg_118 : tpK "TwigPatch$Merger" 118 Tr_parentOfMark := tpw4 72 (by decide +kernel) (by decide +kernel)
theorem kMg_121 : tpK "TwigPatch$Merger" 121 Mg_letIn := tpw4 73 (by decide +kernel) (by decide +kernel)
theorem kMg_129 : tpK "TwigPatch$Merger" 129 Ro_put := tpw4 77 (by decide +kernel) (by decide +kernel)
theorem kMg_125 : tpK "TwigPatch$Merger" 125 Mg_staysWithOne := tpw4 78 (by decide +kernel) (by decide +kernel)
theorem kMg_135 : tpK "TwigPatch$Merger" 135 Mg_isTouched := tpw4 82 (by decide +kernel) (by decide +kernel)
theorem kMg_139 : tpK "TwigPatch$Merger" 139 Tr_hasSame := tpw4 86 (by decide +kernel) (by decide +kernel)
theorem kMg_143 : tpK "TwigPatch$Merger" 143 Tr_placeOf := tpw4 90 (by decide +kernel) (by decide +kernel)
theorem kMg_146 : tpK "TwigPatch$Merger" 146 Tr_kidsOf := tpw4 91 (by decide +kernel) (by decide +kernel)
theorem kMg_149 : tpK "TwigPatch$Merger" 149 Tr_kid := tpw4 95 (by decide +kernel) (by decide +kernel)
theorem kMg_72 : tpK "TwigPatch$Merger" 72 Tr_markOf := tpw4 99 (by decide +kernel) (by decide +kernel)
theorem kMg_152 : tpK "TwigPatch$Merger" 152 Tr_hasUnder := tpw4 100 (by decide +kernel) (by decide +kernel)
theorem kMg_68 : tpK "TwigPatch$Merger" 68 Mg_mendParents := tpw4 104 (by decide +kernel) (by decide +kernel)
theorem kMg_156 : tpK "TwigPatch$Merger" 156 Mg_lowestLost := tpw4 108 (by decide +kernel) (by decide +kernel)
theorem kMg_160 : tpK "TwigPatch$Merger" 160 Mg_lowestInRing := tpw4 112 (by decide +kernel) (by decide +kernel)
theorem kMg_167 : tpK "TwigPatch$Merger" 167 Mg_isInRing := tpw4 116 (by decide +kernel) (by decide +kernel)
theorem kMg_163 : tpK "TwigPatch$Merger" 163 Mg_breakRing := tpw4 120 (by decide +kernel) (by decide +kernel)
theorem kMg_170 : tpK "TwigPatch$Merger" 170 Ro_fill := tpw4 124 (by decide +kernel) (by decide +kernel)
theorem kMg_78 : tpK "TwigPatch$Merger" 78 Mg_sproutAll := tpw4 125 (by decide +kernel) (by decide +kernel)
theorem kMg_97 : tpK "TwigPatch$Merger" 97 Bu_plant := tpw4 129 (by decide +kernel) (by decide +kernel)
theorem kMg_101 : tpK "TwigPatch$Merger" 101 Bu_sprout := tpw4 130 (by decide +kernel) (by decide +kernel)
theorem kMg_81 : tpK "TwigPatch$Merger" 81 Mg_hangChildren := tpw4 131 (by decide +kernel) (by decide +kernel)
theorem kMg_173 : tpK "TwigPatch$Merger" 173 Ma_isLoose := tpw4 135 (by decide +kernel) (by decide +kernel)
theorem kMg_176 : tpK "TwigPatch$Merger" 176 Mg_readShared := tpw4 136 (by decide +kernel) (by decide +kernel)
theorem kMg_180 : tpK "TwigPatch$Merger" 180 Mg_leader := tpw4 140 (by decide +kernel) (by decide +kernel)
theorem kMg_198 : tpK "TwigPatch$Merger" 198 Mg_isTurned := tpw4 144 (by decide +kernel) (by decide +kernel)
theorem kMg_202 : tpK "TwigPatch$Merger" 202 Ro_hasSamePushed := tpw4 148 (by decide +kernel) (by decide +kernel)
theorem kRo_28 : tpK "TwigPatch$Row" 28 Ro_at := tpw4 152 (by decide +kernel) (by decide +kernel)
theorem kMg_184 : tpK "TwigPatch$Merger" 184 Mg_hangShared := tpw4 153 (by decide +kernel) (by decide +kernel)
theorem kMg_209 : tpK "TwigPatch$Merger" 209 Bu_lastOf := tpw4 157 (by decide +kernel) (by decide +kernel)
theorem kMg_195 : tpK "TwigPatch$Merger" 195 Bu_hang := tpw4 161 (by decide +kernel) (by decide +kernel)
theorem kMg_188 : tpK "TwigPatch$Merger" 188 Bu_isChild := tpw4 162 (by decide +kernel) (by decide +kernel)
theorem kMg_191 : tpK "TwigPatch$Merger" 191 Mg_nearestOf := tpw4 163 (by decide +kernel) (by decide +kernel)
theorem kMg_212 : tpK "TwigPatch$Merger" 212 Mg_nearestAhead := tpw4 167 (by decide +kernel) (by decide +kernel)
theorem kMg_221 : tpK "TwigPatch$Merger" 221 Tr_upOf := tpw4 171 (by decide +kernel) (by decide +kernel)
theorem kMg_224 : tpK "TwigPatch$Merger" 224 Tr_rankOf := tpw4 172 (by decide +kernel) (by decide +kernel)
theorem kMg_216 : tpK "TwigPatch$Merger" 216 JM_min_7cf53 := tpw4 176 (by decide +kernel) (by decide +kernel)
theorem kMg_84 : tpK "TwigPatch$Merger" 84 Bu_nextInOrder := tpw4 177 (by decide +kernel) (by decide +kernel)
theorem kMg_90 : tpK "TwigPatch$Merger" 90 Bu_freeze := tpw4 178 (by decide +kernel) (by decide +kernel)
theorem kLw_70 : tpK "TwigPatchLaw" 70 TP_conflictKind := tpw4 179 (by decide +kernel) (by decide +kernel)
theorem kTP_350 : tpK "TwigPatch" 350 TP_needConflict := tpw4 183 (by decide +kernel) (by decide +kernel)
theorem kLw_73 : tpK "TwigPatchLaw" 73 TP_conflictMark := tpw4 188 (by decide +kernel) (by decide +kernel)
theorem kLw_157 : tpK "TwigPatchLaw" 157 Lw_isTree := tpw4 192 (by decide +kernel) (by decide +kernel)
theorem kLw_7 : tpK "TwigPatchLaw" 7 Lw_mark := tpw4 195 (by decide +kernel) (by decide +kernel)
theorem kLw_40 : tpK "TwigPatchLaw" 40 Lw_parentOf := tpw4 198 (by decide +kernel) (by decide +kernel)
theorem kLw_13 : tpK "TwigPatchLaw" 13 Lw_place := tpw4 201 (by decide +kernel) (by decide +kernel)
theorem kLw_16 : tpK "TwigPatchLaw" 16 Lw_parent := tpw4 204 (by decide +kernel) (by decide +kernel)
theorem kLw_86 : tpK "TwigPatchLaw" 86 Lw_valueOf := tpw4 207 (by decide +kernel) (by decide +kernel)
theorem kLw_19 : tpK "TwigPatchLaw" 19 Lw_value := tpw4 210 (by decide +kernel) (by decide +kernel)
theorem kLw_36 : tpK "TwigPatchLaw" 36 Lw_children := tpw4 213 (by decide +kernel) (by decide +kernel)
theorem kLw_164 : tpK "TwigPatchLaw" 164 Lw_isMerged := tpw4 216 (by decide +kernel) (by decide +kernel)
theorem kLw_120 : tpK "TwigPatchLaw" 120 Lw_comes := tpw4 219 (by decide +kernel) (by decide +kernel)
theorem kLw_93 : tpK "TwigPatchLaw" 93 Lw_decided := tpw4 222 (by decide +kernel) (by decide +kernel)
theorem kLw_89 : tpK "TwigPatchLaw" 89 Lw_adds := tpw4 225 (by decide +kernel) (by decide +kernel)
theorem kLw_97 : tpK "TwigPatchLaw" 97 Lw_isTouched := tpw4 228 (by decide +kernel) (by decide +kernel)
theorem kLw_124 : tpK "TwigPatchLaw" 124 Lw_mends := tpw4 231 (by decide +kernel) (by decide +kernel)
theorem kLw_128 : tpK "TwigPatchLaw" 128 Lw_orders := tpw4 234 (by decide +kernel) (by decide +kernel)
theorem kLw_109 : tpK "TwigPatchLaw" 109 Lw_shares := tpw4 237 (by decide +kernel) (by decide +kernel)
theorem kLw_105 : tpK "TwigPatchLaw" 105 Lw_at := tpw5 0 (by decide +kernel) (by decide +kernel)
theorem kLw_113 : tpK "TwigPatchLaw" 113 Lw_ahead := tpw5 3 (by decide +kernel) (by decide +kernel)
theorem kLw_117 : tpK "TwigPatchLaw" 117 Lw_putsBehind := tpw5 6 (by decide +kernel) (by decide +kernel)
theorem kLw_132 : tpK "TwigPatchLaw" 132 TP_conflicts := tpw5 9 (by decide +kernel) (by decide +kernel)
theorem kLw_153 : tpK "TwigPatchLaw" 153 Lw_isChanged := tpw5 13 (by decide +kernel) (by decide +kernel)
theorem kLw_139 : tpK "TwigPatchLaw" 139 Lw_spot := tpw5 16 (by decide +kernel) (by decide +kernel)
theorem kLw_143 : tpK "TwigPatchLaw" 143 Lw_isBelow := tpw5 19 (by decide +kernel) (by decide +kernel)
theorem kLw_147 : tpK "TwigPatchLaw" 147 Lw_takes := tpw5 22 (by decide +kernel) (by decide +kernel)
theorem tpv1 (i : Nat) {w : Cond} (h : tables_1_1[i]? = some w) : w ∈ lw_tbl := by
  have h1 : w ∈ tables_1_1 := List.mem_of_getElem? h
  exact List.mem_append_right _ (List.mem_append_left _ h1)
theorem tpv2 (i : Nat) {w : Cond} (h : tables_1_2[i]? = some w) : w ∈ lw_tbl := by
  have h1 : w ∈ tables_1_2 := List.mem_of_getElem? h
  exact List.mem_append_right _ (List.mem_append_right _ (List.mem_append_left _ h1))
theorem tpv3 (i : Nat) {w : Cond} (h : tables_1_3[i]? = some w) : w ∈ lw_tbl := by
  have h1 : w ∈ tables_1_3 := List.mem_of_getElem? h
  exact List.mem_append_right _ (List.mem_append_right _ (List.mem_append_right _ (List.mem_append_left _ h1)))
theorem tpv4 (i : Nat) {w : Cond} (h : tables_1_4[i]? = some w) : w ∈ lw_tbl := by
  have h1 : w ∈ tables_1_4 := List.mem_of_getElem? h
  exact List.mem_append_right _ (List.mem_append_right _ (List.mem_append_right _ (List.mem_append_right _ (List.mem_append_left _ h1))))
theorem tpv5 (i : Nat) {w : Cond} (h : tables_1_5[i]? = some w) : w ∈ lw_tbl := by
  have h1 : w ∈ tables_1_5 := List.mem_of_getElem? h
  exact List.mem_append_right _ (List.mem_append_right _ (List.mem_append_right _ (List.mem_append_right _ (List.mem_append_right _ (h1)))))
def tpNf : List (String × Nat × String × String × String × String) := [("TwigPatch$Merger", 206, "TwigPatch$Row", "used", "I", "TwigPatch"), ("TwigPatch", 347, "TwigPatch$Row", "used", "I", "TwigPatch"), ("TwigPatch$Merger", 58, "TwigPatch$Marks", "made", "I", "TwigPatch"), ("TwigPatch$Bush", 105, "TwigPatch$Marks", "made", "I", "TwigPatch"), ("TwigPatch", 405, "TwigPatch$Marks", "made", "I", "TwigPatch"), ("TwigPatch", 154, "TwigPatch$Bush", "root", "I", "TwigPatch"), ("TwigPatch", 115, "TwigPatch$Bush", "count", "I", "TwigPatch"), ("TwigPatch", 219, "TwigPatch$Merger", "policies", "LTwigPatch$Row;", "TwigPatch"), ("TwigPatch", 344, "TwigPatch$Merger", "conflictKinds", "LTwigPatch$Row;", "TwigPatch"), ("TwigPatch", 353, "TwigPatch$Merger", "conflictMarks", "LTwigPatch$Row;", "TwigPatch"), ("TwigPatch", 104, "TwigPatch$Tree", "count", "I", "TwigPatch"), ("TwigPatch$Bush", 98, "TwigPatch$Tree", "count", "I", "TwigPatch")]
theorem tpNf_in : ∀ q ∈ tpNf, Cond.fieldLinkNest q.1 q.2.1 q.2.2.1 q.2.2.2.1 q.2.2.2.2.1 q.2.2.2.2.2 ∈ lw_tbl := List.forall_mem_cons.mpr ⟨tpv1 43 (by decide +kernel), List.forall_mem_cons.mpr ⟨tpv1 44 (by decide +kernel), List.forall_mem_cons.mpr ⟨tpv1 54 (by decide +kernel), List.forall_mem_cons.mpr ⟨tpv1 55 (by decide +kernel), List.forall_mem_cons.mpr ⟨tpv1 56 (by decide +kernel), List.forall_mem_cons.mpr ⟨tpv1 81 (by decide +kernel), List.forall_mem_cons.mpr ⟨tpv1 82 (by decide +kernel), List.forall_mem_cons.mpr ⟨tpv1 234 (by decide +kernel), List.forall_mem_cons.mpr ⟨tpv2 3 (by decide +kernel), List.forall_mem_cons.mpr ⟨tpv2 5 (by decide +kernel), List.forall_mem_cons.mpr ⟨tpv3 201 (by decide +kernel), List.forall_mem_cons.mpr ⟨tpv3 202 (by decide +kernel), fun _ h => absurd h List.not_mem_nil⟩⟩⟩⟩⟩⟩⟩⟩⟩⟩⟩⟩
def tpNm : List (String × Nat × MethodName × String) := [("TwigPatch", 9, { cls := "TwigPatch$Marks", name := "<init>", desc := "()V" }, "TwigPatch"), ("TwigPatch", 76, { cls := "TwigPatch$History", name := "<init>", desc := "()V" }, "TwigPatch")]
theorem tpNm_in : ∀ q ∈ tpNm, Cond.methodLinkNest q.1 q.2.1 q.2.2.1 q.2.2.2 ∈ lw_tbl := List.forall_mem_cons.mpr ⟨tpv1 31 (by decide +kernel), List.forall_mem_cons.mpr ⟨tpv2 33 (by decide +kernel), fun _ h => absurd h List.not_mem_nil⟩⟩
def tpNc : List (String × String) := [("java/lang/IllegalArgumentException", "java/lang/IllegalArgumentException"), ("java/lang/IndexOutOfBoundsException", "java/lang/IndexOutOfBoundsException"), ("java/lang/IllegalStateException", "java/lang/IllegalStateException"), ("[I", "java/lang/Cloneable")]
theorem tpNc_in : ∀ q ∈ tpNc, Cond.castable q.1 q.2 ∈ lw_tbl := List.forall_mem_cons.mpr ⟨tpv2 103 (by decide +kernel), List.forall_mem_cons.mpr ⟨tpv2 194 (by decide +kernel), List.forall_mem_cons.mpr ⟨tpv3 33 (by decide +kernel), List.forall_mem_cons.mpr ⟨tpv4 63 (by decide +kernel), fun _ h => absurd h List.not_mem_nil⟩⟩⟩⟩
def tpNa : List String := ["TwigPatch$Tree", "TwigPatch$Script"]
theorem tpNa_in : ∀ q ∈ tpNa, Cond.arrayOver (.object q) ∈ lw_tbl := List.forall_mem_cons.mpr ⟨tpv1 106 (by decide +kernel), List.forall_mem_cons.mpr ⟨tpv1 108 (by decide +kernel), fun _ h => absurd h List.not_mem_nil⟩⟩
def tpF (own : String) (i ci k : Nat) : Prop := ∃ r : vw_C, tpCl[ci]? = some r ∧ k < r.2.2 ∧ (Cond.fieldLink own i (r.2.1 k).1 (r.2.1 k).2.1 (r.2.1 k).2.2.1 ∈ tpW ∨ ∃ host : String, (own, i, (r.2.1 k).1, (r.2.1 k).2.1, (r.2.1 k).2.2.1, host) ∈ tpNf)
theorem fRo_9 : tpF "TwigPatch$Row" 9 7 0 := ⟨_, rfl, by decide +kernel, Or.inl (tpw1 41 (by decide +kernel) (by decide +kernel))⟩
theorem fRo_15 : tpF "TwigPatch$Row" 15 7 1 := ⟨_, rfl, by decide +kernel, Or.inl (tpw1 42 (by decide +kernel) (by decide +kernel))⟩
theorem fMg_206 : tpF "TwigPatch$Merger" 206 7 1 := ⟨_, rfl, by decide +kernel, Or.inr ⟨"TwigPatch", by decide +kernel⟩⟩
theorem fTP_347 : tpF "TwigPatch" 347 7 1 := ⟨_, rfl, by decide +kernel, Or.inr ⟨"TwigPatch", by decide +kernel⟩⟩
theorem fMa_14 : tpF "TwigPatch$Marks" 14 4 0 := ⟨_, rfl, by decide +kernel, Or.inl (tpw1 51 (by decide +kernel) (by decide +kernel))⟩
theorem fMa_20 : tpF "TwigPatch$Marks" 20 4 1 := ⟨_, rfl, by decide +kernel, Or.inl (tpw1 52 (by decide +kernel) (by decide +kernel))⟩
theorem fMa_23 : tpF "TwigPatch$Marks" 23 4 2 := ⟨_, rfl, by decide +kernel, Or.inl (tpw1 53 (by decide +kernel) (by decide +kernel))⟩
theorem fMg_58 : tpF "TwigPatch$Merger" 58 4 2 := ⟨_, rfl, by decide +kernel, Or.inr ⟨"TwigPatch", by decide +kernel⟩⟩
theorem fBu_105 : tpF "TwigPatch$Bush" 105 4 2 := ⟨_, rfl, by decide +kernel, Or.inr ⟨"TwigPatch", by decide +kernel⟩⟩
theorem fTP_405 : tpF "TwigPatch" 405 4 2 := ⟨_, rfl, by decide +kernel, Or.inr ⟨"TwigPatch", by decide +kernel⟩⟩
theorem fBu_42 : tpF "TwigPatch$Bush" 42 0 0 := ⟨_, rfl, by decide +kernel, Or.inl (tpw1 72 (by decide +kernel) (by decide +kernel))⟩
theorem fBu_14 : tpF "TwigPatch$Bush" 14 0 1 := ⟨_, rfl, by decide +kernel, Or.inl (tpw1 73 (by decide +kernel) (by decide +kernel))⟩
theorem fBu_20 : tpF "TwigPatch$Bush" 20 0 2 := ⟨_, rfl, by decide +kernel, Or.inl (tpw1 74 (by decide +kernel) (by decide +kernel))⟩
theorem fBu_23 : tpF "TwigPatch$Bush" 23 0 3 := ⟨_, rfl, by decide +kernel, Or.inl (tpw1 75 (by decide +kernel) (by decide +kernel))⟩
theorem fBu_26 : tpF "TwigPatch$Bush" 26 0 4 := ⟨_, rfl, by decide +kernel, Or.inl (tpw1 76 (by decide +kernel) (by decide +kernel))⟩
theorem fBu_29 : tpF "TwigPatch$Bush" 29 0 5 := ⟨_, rfl, by decide +kernel, Or.inl (tpw1 77 (by decide +kernel) (by decide +kernel))⟩
theorem fBu_32 : tpF "TwigPatch$Bush" 32 0 6 := ⟨_, rfl, by decide +kernel, Or.inl (tpw1 78 (by decide +kernel) (by decide +kernel))⟩
theorem fBu_35 : tpF "TwigPatch$Bush" 35 0 7 := ⟨_, rfl, by decide +kernel, Or.inl (tpw1 79 (by decide +kernel) (by decide +kernel))⟩
theorem fBu_38 : tpF "TwigPatch$Bush" 38 0 8 := ⟨_, rfl, by decide +kernel, Or.inl (tpw1 80 (by decide +kernel) (by decide +kernel))⟩
theorem fTP_154 : tpF "TwigPatch" 154 0 8 := ⟨_, rfl, by decide +kernel, Or.inr ⟨"TwigPatch", by decide +kernel⟩⟩
theorem fTP_115 : tpF "TwigPatch" 115 0 9 := ⟨_, rfl, by decide +kernel, Or.inr ⟨"TwigPatch", by decide +kernel⟩⟩
theorem fBu_59 : tpF "TwigPatch$Bush" 59 0 9 := ⟨_, rfl, by decide +kernel, Or.inl (tpw1 83 (by decide +kernel) (by decide +kernel))⟩
theorem fLi_35 : tpF "TwigPatch$Likes" 35 3 0 := ⟨_, rfl, by decide +kernel, Or.inl (tpw1 117 (by decide +kernel) (by decide +kernel))⟩
theorem fLi_14 : tpF "TwigPatch$Likes" 14 3 1 := ⟨_, rfl, by decide +kernel, Or.inl (tpw1 118 (by decide +kernel) (by decide +kernel))⟩
theorem fLi_20 : tpF "TwigPatch$Likes" 20 3 2 := ⟨_, rfl, by decide +kernel, Or.inl (tpw1 119 (by decide +kernel) (by decide +kernel))⟩
theorem fLi_23 : tpF "TwigPatch$Likes" 23 3 3 := ⟨_, rfl, by decide +kernel, Or.inl (tpw1 120 (by decide +kernel) (by decide +kernel))⟩
theorem fLi_26 : tpF "TwigPatch$Likes" 26 3 4 := ⟨_, rfl, by decide +kernel, Or.inl (tpw1 121 (by decide +kernel) (by decide +kernel))⟩
theorem fLi_29 : tpF "TwigPatch$Likes" 29 3 5 := ⟨_, rfl, by decide +kernel, Or.inl (tpw1 122 (by decide +kernel) (by decide +kernel))⟩
theorem fLi_32 : tpF "TwigPatch$Likes" 32 3 6 := ⟨_, rfl, by decide +kernel, Or.inl (tpw1 123 (by decide +kernel) (by decide +kernel))⟩
theorem fMt_32 : tpF "TwigPatch$Matching" 32 5 0 := ⟨_, rfl, by decide +kernel, Or.inl (tpw1 151 (by decide +kernel) (by decide +kernel))⟩
theorem fMt_36 : tpF "TwigPatch$Matching" 36 5 1 := ⟨_, rfl, by decide +kernel, Or.inl (tpw1 152 (by decide +kernel) (by decide +kernel))⟩
theorem fMt_14 : tpF "TwigPatch$Matching" 14 5 2 := ⟨_, rfl, by decide +kernel, Or.inl (tpw1 153 (by decide +kernel) (by decide +kernel))⟩
theorem fMt_20 : tpF "TwigPatch$Matching" 20 5 3 := ⟨_, rfl, by decide +kernel, Or.inl (tpw1 154 (by decide +kernel) (by decide +kernel))⟩
theorem fMt_23 : tpF "TwigPatch$Matching" 23 5 4 := ⟨_, rfl, by decide +kernel, Or.inl (tpw1 155 (by decide +kernel) (by decide +kernel))⟩
theorem fMt_26 : tpF "TwigPatch$Matching" 26 5 5 := ⟨_, rfl, by decide +kernel, Or.inl (tpw1 156 (by decide +kernel) (by decide +kernel))⟩
theorem fMt_29 : tpF "TwigPatch$Matching" 29 5 6 := ⟨_, rfl, by decide +kernel, Or.inl (tpw1 157 (by decide +kernel) (by decide +kernel))⟩
theorem fSp_7 : tpF "TwigPatch$Spot" 7 9 0 := ⟨_, rfl, by decide +kernel, Or.inl (tpw1 191 (by decide +kernel) (by decide +kernel))⟩
theorem fSp_13 : tpF "TwigPatch$Spot" 13 9 1 := ⟨_, rfl, by decide +kernel, Or.inl (tpw1 192 (by decide +kernel) (by decide +kernel))⟩
theorem fSp_16 : tpF "TwigPatch$Spot" 16 9 2 := ⟨_, rfl, by decide +kernel, Or.inl (tpw1 193 (by decide +kernel) (by decide +kernel))⟩
theorem fFi_35 : tpF "TwigPatch$Finder" 35 1 0 := ⟨_, rfl, by decide +kernel, Or.inl (tpw1 201 (by decide +kernel) (by decide +kernel))⟩
theorem fFi_39 : tpF "TwigPatch$Finder" 39 1 1 := ⟨_, rfl, by decide +kernel, Or.inl (tpw1 202 (by decide +kernel) (by decide +kernel))⟩
theorem fFi_43 : tpF "TwigPatch$Finder" 43 1 2 := ⟨_, rfl, by decide +kernel, Or.inl (tpw1 203 (by decide +kernel) (by decide +kernel))⟩
theorem fFi_14 : tpF "TwigPatch$Finder" 14 1 3 := ⟨_, rfl, by decide +kernel, Or.inl (tpw1 204 (by decide +kernel) (by decide +kernel))⟩
theorem fFi_20 : tpF "TwigPatch$Finder" 20 1 4 := ⟨_, rfl, by decide +kernel, Or.inl (tpw1 205 (by decide +kernel) (by decide +kernel))⟩
theorem fFi_23 : tpF "TwigPatch$Finder" 23 1 5 := ⟨_, rfl, by decide +kernel, Or.inl (tpw1 206 (by decide +kernel) (by decide +kernel))⟩
theorem fFi_31 : tpF "TwigPatch$Finder" 31 1 6 := ⟨_, rfl, by decide +kernel, Or.inl (tpw1 207 (by decide +kernel) (by decide +kernel))⟩
theorem fMg_47 : tpF "TwigPatch$Merger" 47 6 0 := ⟨_, rfl, by decide +kernel, Or.inl (tpw1 231 (by decide +kernel) (by decide +kernel))⟩
theorem fMg_51 : tpF "TwigPatch$Merger" 51 6 1 := ⟨_, rfl, by decide +kernel, Or.inl (tpw1 232 (by decide +kernel) (by decide +kernel))⟩
theorem fMg_14 : tpF "TwigPatch$Merger" 14 6 2 := ⟨_, rfl, by decide +kernel, Or.inl (tpw1 233 (by decide +kernel) (by decide +kernel))⟩
theorem fTP_219 : tpF "TwigPatch" 219 6 2 := ⟨_, rfl, by decide +kernel, Or.inr ⟨"TwigPatch", by decide +kernel⟩⟩
theorem fMg_20 : tpF "TwigPatch$Merger" 20 6 3 := ⟨_, rfl, by decide +kernel, Or.inl (tpw1 235 (by decide +kernel) (by decide +kernel))⟩
theorem fMg_23 : tpF "TwigPatch$Merger" 23 6 4 := ⟨_, rfl, by decide +kernel, Or.inl (tpw1 236 (by decide +kernel) (by decide +kernel))⟩
theorem fMg_26 : tpF "TwigPatch$Merger" 26 6 5 := ⟨_, rfl, by decide +kernel, Or.inl (tpw1 237 (by decide +kernel) (by decide +kernel))⟩
theorem fMg_29 : tpF "TwigPatch$Merger" 29 6 6 := ⟨_, rfl, by decide +kernel, Or.inl (tpw1 238 (by decide +kernel) (by decide +kernel))⟩
theorem fMg_32 : tpF "TwigPatch$Merger" 32 6 7 := ⟨_, rfl, by decide +kernel, Or.inl (tpw1 239 (by decide +kernel) (by decide +kernel))⟩
theorem fMg_35 : tpF "TwigPatch$Merger" 35 6 8 := ⟨_, rfl, by decide +kernel, Or.inl (tpw2 0 (by decide +kernel) (by decide +kernel))⟩
theorem fMg_38 : tpF "TwigPatch$Merger" 38 6 9 := ⟨_, rfl, by decide +kernel, Or.inl (tpw2 1 (by decide +kernel) (by decide +kernel))⟩
theorem fMg_41 : tpF "TwigPatch$Merger" 41 6 10 := ⟨_, rfl, by decide +kernel, Or.inl (tpw2 2 (by decide +kernel) (by decide +kernel))⟩
theorem fTP_344 : tpF "TwigPatch" 344 6 10 := ⟨_, rfl, by decide +kernel, Or.inr ⟨"TwigPatch", by decide +kernel⟩⟩
theorem fMg_44 : tpF "TwigPatch$Merger" 44 6 11 := ⟨_, rfl, by decide +kernel, Or.inl (tpw2 4 (by decide +kernel) (by decide +kernel))⟩
theorem fTP_353 : tpF "TwigPatch" 353 6 11 := ⟨_, rfl, by decide +kernel, Or.inr ⟨"TwigPatch", by decide +kernel⟩⟩
theorem fHi_14 : tpF "TwigPatch$History" 14 2 0 := ⟨_, rfl, by decide +kernel, Or.inl (tpw2 39 (by decide +kernel) (by decide +kernel))⟩
theorem fHi_20 : tpF "TwigPatch$History" 20 2 1 := ⟨_, rfl, by decide +kernel, Or.inl (tpw2 40 (by decide +kernel) (by decide +kernel))⟩
theorem fHi_23 : tpF "TwigPatch$History" 23 2 2 := ⟨_, rfl, by decide +kernel, Or.inl (tpw2 41 (by decide +kernel) (by decide +kernel))⟩
theorem fHi_26 : tpF "TwigPatch$History" 26 2 3 := ⟨_, rfl, by decide +kernel, Or.inl (tpw2 42 (by decide +kernel) (by decide +kernel))⟩
theorem fHi_29 : tpF "TwigPatch$History" 29 2 4 := ⟨_, rfl, by decide +kernel, Or.inl (tpw2 43 (by decide +kernel) (by decide +kernel))⟩
theorem fTP_10 : tpF "TwigPatch" 10 12 0 := ⟨_, rfl, by decide +kernel, Or.inl (tpw2 59 (by decide +kernel) (by decide +kernel))⟩
theorem fTP_21 : tpF "TwigPatch" 21 12 1 := ⟨_, rfl, by decide +kernel, Or.inl (tpw2 60 (by decide +kernel) (by decide +kernel))⟩
theorem fTP_25 : tpF "TwigPatch" 25 12 2 := ⟨_, rfl, by decide +kernel, Or.inl (tpw2 61 (by decide +kernel) (by decide +kernel))⟩
theorem fTP_30 : tpF "TwigPatch" 30 12 3 := ⟨_, rfl, by decide +kernel, Or.inl (tpw2 62 (by decide +kernel) (by decide +kernel))⟩
theorem fTP_277 : tpF "TwigPatch" 277 12 4 := ⟨_, rfl, by decide +kernel, Or.inl (tpw2 63 (by decide +kernel) (by decide +kernel))⟩
theorem fTP_36 : tpF "TwigPatch" 36 12 5 := ⟨_, rfl, by decide +kernel, Or.inl (tpw2 64 (by decide +kernel) (by decide +kernel))⟩
theorem fTP_43 : tpF "TwigPatch" 43 12 7 := ⟨_, rfl, by decide +kernel, Or.inl (tpw2 65 (by decide +kernel) (by decide +kernel))⟩
theorem fTP_52 : tpF "TwigPatch" 52 12 8 := ⟨_, rfl, by decide +kernel, Or.inl (tpw2 66 (by decide +kernel) (by decide +kernel))⟩
theorem fTP_61 : tpF "TwigPatch" 61 12 9 := ⟨_, rfl, by decide +kernel, Or.inl (tpw2 67 (by decide +kernel) (by decide +kernel))⟩
theorem fTP_70 : tpF "TwigPatch" 70 12 11 := ⟨_, rfl, by decide +kernel, Or.inl (tpw2 68 (by decide +kernel) (by decide +kernel))⟩
theorem fTP_77 : tpF "TwigPatch" 77 12 12 := ⟨_, rfl, by decide +kernel, Or.inl (tpw2 69 (by decide +kernel) (by decide +kernel))⟩
theorem fTr_9 : tpF "TwigPatch$Tree" 9 11 0 := ⟨_, rfl, by decide +kernel, Or.inl (tpw3 200 (by decide +kernel) (by decide +kernel))⟩
theorem fTP_104 : tpF "TwigPatch" 104 11 0 := ⟨_, rfl, by decide +kernel, Or.inr ⟨"TwigPatch", by decide +kernel⟩⟩
theorem fBu_98 : tpF "TwigPatch$Bush" 98 11 0 := ⟨_, rfl, by decide +kernel, Or.inr ⟨"TwigPatch", by decide +kernel⟩⟩
theorem fTr_20 : tpF "TwigPatch$Tree" 20 11 1 := ⟨_, rfl, by decide +kernel, Or.inl (tpw3 203 (by decide +kernel) (by decide +kernel))⟩
theorem fTr_24 : tpF "TwigPatch$Tree" 24 11 2 := ⟨_, rfl, by decide +kernel, Or.inl (tpw3 204 (by decide +kernel) (by decide +kernel))⟩
theorem fTr_27 : tpF "TwigPatch$Tree" 27 11 3 := ⟨_, rfl, by decide +kernel, Or.inl (tpw3 205 (by decide +kernel) (by decide +kernel))⟩
theorem fTr_30 : tpF "TwigPatch$Tree" 30 11 4 := ⟨_, rfl, by decide +kernel, Or.inl (tpw3 206 (by decide +kernel) (by decide +kernel))⟩
theorem fTr_33 : tpF "TwigPatch$Tree" 33 11 5 := ⟨_, rfl, by decide +kernel, Or.inl (tpw3 207 (by decide +kernel) (by decide +kernel))⟩
theorem fTr_36 : tpF "TwigPatch$Tree" 36 11 6 := ⟨_, rfl, by decide +kernel, Or.inl (tpw3 208 (by decide +kernel) (by decide +kernel))⟩
theorem fTr_39 : tpF "TwigPatch$Tree" 39 11 7 := ⟨_, rfl, by decide +kernel, Or.inl (tpw3 209 (by decide +kernel) (by decide +kernel))⟩
theorem fTr_42 : tpF "TwigPatch$Tree" 42 11 8 := ⟨_, rfl, by decide +kernel, Or.inl (tpw3 210 (by decide +kernel) (by decide +kernel))⟩
theorem fTr_45 : tpF "TwigPatch$Tree" 45 11 9 := ⟨_, rfl, by decide +kernel, Or.inl (tpw3 211 (by decide +kernel) (by decide +kernel))⟩
