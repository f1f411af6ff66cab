def ztbl : List Cond := lw_tbl.filter goodWord
theorem zmem {w : Cond} (i : Nat) (h : lw_tbl[i]? = some w) (g : goodWord w = true := by rfl) : w ∈ ztbl := List.mem_filter.mpr ⟨List.mem_of_getElem? h, g⟩
theorem zsub {ws : List Cond} (ps : List Nat) (h : ps.filterMap (fun i => lw_tbl[i]?) = ws) (g : ws.all goodWord = true) : ∀ w ∈ ws, w ∈ ztbl := fun w hw => by have g1 := List.all_eq_true.mp g w hw; rw [← h] at hw; obtain ⟨i, -, hi⟩ := List.mem_filterMap.mp hw; exact List.mem_filter.mpr ⟨List.mem_of_getElem? hi, g1⟩
def zT0 : u_T := fun k => match k with
  | 0 => ("LittleCompiler", "text", "[I", true)
  | 1 => ("LittleCompiler", "globalsBefore", "[I", true)
  | 2 => ("LittleCompiler", "cellsBefore", "[I", true)
  | 3 => ("LittleCompiler", "parser", "LLittleCompiler$Parser;", true)
  | 4 => ("LittleCompiler", "machine", "LLittleCompiler$Machine;", true)
  | _ => ("LittleCompiler", "length", "I", false)
def zy0 : Nat → FieldType := fun k => match k with
  | 0 => (.array .int)
  | 1 => (.array .int)
  | 2 => (.array .int)
  | 3 => (.object "LittleCompiler$Parser")
  | 4 => (.object "LittleCompiler$Machine")
  | _ => .int
theorem zn0 : ∀ a, a < 6 → ∀ b, b < 6 → a ≠ b → (zT0 a).2.1 ≠ (zT0 b).2.1 := by decide +kernel
theorem zyok0 : ∀ k, k < 6 → parseFieldDescriptor (zT0 k).2.2.1 = some (zy0 k) := by decide +kernel
theorem zi0 : ∀ w ∈ u_ws "LittleCompiler" zT0 6, w ∈ ztbl := zsub [355, 357, 359, 361, 363, 365] (by decide +kernel) (by decide +kernel)
def zT1 : u_T := fun k => match k with
  | 0 => ("LittleCompiler$Code", "operations", "[I", true)
  | 1 => ("LittleCompiler$Code", "operands", "[I", true)
  | _ => ("LittleCompiler$Code", "size", "I", false)
def zy1 : Nat → FieldType := fun k => match k with
  | 0 => (.array .int)
  | 1 => (.array .int)
  | _ => .int
theorem zn1 : ∀ a, a < 3 → ∀ b, b < 3 → a ≠ b → (zT1 a).2.1 ≠ (zT1 b).2.1 := by decide +kernel
theorem zyok1 : ∀ k, k < 3 → parseFieldDescriptor (zT1 k).2.2.1 = some (zy1 k) := by decide +kernel
theorem zi1 : ∀ w ∈ u_ws "LittleCompiler$Code" zT1 3, w ∈ ztbl := zsub [118, 120, 122] (by decide +kernel) (by decide +kernel)
def zT2 : u_T := fun k => match k with
  | 0 => ("LittleCompiler$Procedures", "known", "[Z", true)
  | 1 => ("LittleCompiler$Procedures", "entries", "[I", true)
  | 2 => ("LittleCompiler$Procedures", "parameterCounts", "[I", true)
  | 3 => ("LittleCompiler$Procedures", "parameters", "[I", true)
  | 4 => ("LittleCompiler$Procedures", "callees", "[I", true)
  | 5 => ("LittleCompiler$Procedures", "argumentCounts", "[I", true)
  | 6 => ("LittleCompiler$Procedures", "mainEntry", "I", false)
  | 7 => ("LittleCompiler$Procedures", "current", "I", false)
  | 8 => ("LittleCompiler$Procedures", "ownNames", "I", false)
  | _ => ("LittleCompiler$Procedures", "firstFault", "I", false)
def zy2 : Nat → FieldType := fun k => match k with
  | 0 => (.array .boolean)
  | 1 => (.array .int)
  | 2 => (.array .int)
  | 3 => (.array .int)
  | 4 => (.array .int)
  | 5 => (.array .int)
  | 6 => .int
  | 7 => .int
  | 8 => .int
  | _ => .int
theorem zn2 : ∀ a, a < 10 → ∀ b, b < 10 → a ≠ b → (zT2 a).2.1 ≠ (zT2 b).2.1 := by decide +kernel
theorem zyok2 : ∀ k, k < 10 → parseFieldDescriptor (zT2 k).2.2.1 = some (zy2 k) := by decide +kernel
theorem zi2 : ∀ w ∈ u_ws "LittleCompiler$Procedures" zT2 10, w ∈ ztbl := zsub [142, 144, 146, 148, 150, 152, 154, 156, 158, 160] (by decide +kernel) (by decide +kernel)
def zT3 : u_T := fun k => match k with
  | 0 => ("LittleCompiler$Parser", "plainForm", "LLittleCompiler$PlainForm;", true)
  | 1 => ("LittleCompiler$Parser", "wrongToken", "I", false)
  | 2 => ("LittleCompiler$Parser", "faultyToken", "I", false)
  | 3 => ("LittleCompiler$Parser", "stale", "Z", false)
  | 4 => ("LittleCompiler$Parser", "code", "LLittleCompiler$Code;", true)
  | 5 => ("LittleCompiler$Parser", "procedures", "LLittleCompiler$Procedures;", true)
  | 6 => ("LittleCompiler$Parser", "pending", "LLittleCompiler$Pending;", true)
  | 7 => ("LittleCompiler$Parser", "expressions", "LLittleCompiler$Expressions;", true)
  | _ => ("LittleCompiler$Parser", "statements", "LLittleCompiler$Statements;", true)
def zy3 : Nat → FieldType := fun k => match k with
  | 0 => (.object "LittleCompiler$PlainForm")
  | 1 => .int
  | 2 => .int
  | 3 => .boolean
  | 4 => (.object "LittleCompiler$Code")
  | 5 => (.object "LittleCompiler$Procedures")
  | 6 => (.object "LittleCompiler$Pending")
  | 7 => (.object "LittleCompiler$Expressions")
  | _ => (.object "LittleCompiler$Statements")
theorem zn3 : ∀ a, a < 9 → ∀ b, b < 9 → a ≠ b → (zT3 a).2.1 ≠ (zT3 b).2.1 := by decide +kernel
theorem zyok3 : ∀ k, k < 9 → parseFieldDescriptor (zT3 k).2.2.1 = some (zy3 k) := by decide +kernel
theorem zi3 : ∀ w ∈ u_ws "LittleCompiler$Parser" zT3 9, w ∈ ztbl := zsub [264, 266, 268, 270, 272, 274, 276, 278, 280] (by decide +kernel) (by decide +kernel)
def zT4 : u_T := fun k => match k with
  | 0 => ("LittleCompiler$Pending", "kinds", "[I", true)
  | 1 => ("LittleCompiler$Pending", "firsts", "[I", true)
  | 2 => ("LittleCompiler$Pending", "seconds", "[I", true)
  | _ => ("LittleCompiler$Pending", "height", "I", false)
def zy4 : Nat → FieldType := fun k => match k with
  | 0 => (.array .int)
  | 1 => (.array .int)
  | 2 => (.array .int)
  | _ => .int
theorem zn4 : ∀ a, a < 4 → ∀ b, b < 4 → a ≠ b → (zT4 a).2.1 ≠ (zT4 b).2.1 := by decide +kernel
theorem zyok4 : ∀ k, k < 4 → parseFieldDescriptor (zT4 k).2.2.1 = some (zy4 k) := by decide +kernel
theorem zi4 : ∀ w ∈ u_ws "LittleCompiler$Pending" zT4 4, w ∈ ztbl := zsub [180, 182, 184, 186] (by decide +kernel) (by decide +kernel)
def zT5 : u_T := fun k => match k with
  | 0 => ("LittleCompiler$PlainForm", "text", "[I", true)
  | 1 => ("LittleCompiler$PlainForm", "size", "I", false)
  | 2 => ("LittleCompiler$PlainForm", "leftOut", "[Z", true)
  | 3 => ("LittleCompiler$PlainForm", "level", "I", false)
  | 4 => ("LittleCompiler$PlainForm", "open", "I", false)
  | _ => ("LittleCompiler$PlainForm", "close", "I", false)
def zy5 : Nat → FieldType := fun k => match k with
  | 0 => (.array .int)
  | 1 => .int
  | 2 => (.array .boolean)
  | 3 => .int
  | 4 => .int
  | _ => .int
theorem zn5 : ∀ a, a < 6 → ∀ b, b < 6 → a ≠ b → (zT5 a).2.1 ≠ (zT5 b).2.1 := by decide +kernel
theorem zyok5 : ∀ k, k < 6 → parseFieldDescriptor (zT5 k).2.2.1 = some (zy5 k) := by decide +kernel
theorem zi5 : ∀ w ∈ u_ws "LittleCompiler$PlainForm" zT5 6, w ∈ ztbl := zsub [203, 205, 207, 209, 211, 213] (by decide +kernel) (by decide +kernel)
def zT6 : u_T := fun k => match k with
  | 0 => ("LittleCompiler$Expressions", "code", "LLittleCompiler$Code;", true)
  | 1 => ("LittleCompiler$Expressions", "procedures", "LLittleCompiler$Procedures;", true)
  | 2 => ("LittleCompiler$Expressions", "pending", "LLittleCompiler$Pending;", true)
  | _ => ("LittleCompiler$Expressions", "plainForm", "LLittleCompiler$PlainForm;", true)
def zy6 : Nat → FieldType := fun k => match k with
  | 0 => (.object "LittleCompiler$Code")
  | 1 => (.object "LittleCompiler$Procedures")
  | 2 => (.object "LittleCompiler$Pending")
  | _ => (.object "LittleCompiler$PlainForm")
theorem zn6 : ∀ a, a < 4 → ∀ b, b < 4 → a ≠ b → (zT6 a).2.1 ≠ (zT6 b).2.1 := by decide +kernel
theorem zyok6 : ∀ k, k < 4 → parseFieldDescriptor (zT6 k).2.2.1 = some (zy6 k) := by decide +kernel
theorem zi6 : ∀ w ∈ u_ws "LittleCompiler$Expressions" zT6 4, w ∈ ztbl := zsub [226, 228, 230, 232] (by decide +kernel) (by decide +kernel)
def zT7 : u_T := fun k => match k with
  | 0 => ("LittleCompiler$Statements", "code", "LLittleCompiler$Code;", true)
  | 1 => ("LittleCompiler$Statements", "procedures", "LLittleCompiler$Procedures;", true)
  | _ => ("LittleCompiler$Statements", "pending", "LLittleCompiler$Pending;", true)
def zy7 : Nat → FieldType := fun k => match k with
  | 0 => (.object "LittleCompiler$Code")
  | 1 => (.object "LittleCompiler$Procedures")
  | _ => (.object "LittleCompiler$Pending")
theorem zn7 : ∀ a, a < 3 → ∀ b, b < 3 → a ≠ b → (zT7 a).2.1 ≠ (zT7 b).2.1 := by decide +kernel
theorem zyok7 : ∀ k, k < 3 → parseFieldDescriptor (zT7 k).2.2.1 = some (zy7 k) := by decide +kernel
theorem zi7 : ∀ w ∈ u_ws "LittleCompiler$Statements" zT7 3, w ∈ ztbl := zsub [244, 246, 248] (by decide +kernel) (by decide +kernel)
def zT8 : u_T := fun k => match k with
  | 0 => ("LittleCompiler$Machine", "globals", "[I", true)
  | 1 => ("LittleCompiler$Machine", "cells", "[I", true)
  | 2 => ("LittleCompiler$Machine", "numbersPut", "[I", true)
  | 3 => ("LittleCompiler$Machine", "putCount", "I", false)
  | 4 => ("LittleCompiler$Machine", "turnCount", "I", false)
  | 5 => ("LittleCompiler$Machine", "deepestCall", "I", false)
  | 6 => ("LittleCompiler$Machine", "ending", "I", false)
  | 7 => ("LittleCompiler$Machine", "stale", "Z", false)
  | 8 => ("LittleCompiler$Machine", "code", "LLittleCompiler$Code;", true)
  | 9 => ("LittleCompiler$Machine", "procedures", "LLittleCompiler$Procedures;", true)
  | 10 => ("LittleCompiler$Machine", "operands", "[I", true)
  | 11 => ("LittleCompiler$Machine", "locals", "[I", true)
  | 12 => ("LittleCompiler$Machine", "returns", "[I", true)
  | 13 => ("LittleCompiler$Machine", "operandCount", "I", false)
  | 14 => ("LittleCompiler$Machine", "callCount", "I", false)
  | 15 => ("LittleCompiler$Machine", "next", "I", false)
  | _ => ("LittleCompiler$Machine", "running", "Z", false)
def zy8 : Nat → FieldType := fun k => match k with
  | 0 => (.array .int)
  | 1 => (.array .int)
  | 2 => (.array .int)
  | 3 => .int
  | 4 => .int
  | 5 => .int
  | 6 => .int
  | 7 => .boolean
  | 8 => (.object "LittleCompiler$Code")
  | 9 => (.object "LittleCompiler$Procedures")
  | 10 => (.array .int)
  | 11 => (.array .int)
  | 12 => (.array .int)
  | 13 => .int
  | 14 => .int
  | 15 => .int
  | _ => .boolean
theorem zn8 : ∀ a, a < 17 → ∀ b, b < 17 → a ≠ b → (zT8 a).2.1 ≠ (zT8 b).2.1 := by decide +kernel
theorem zyok8 : ∀ k, k < 17 → parseFieldDescriptor (zT8 k).2.2.1 = some (zy8 k) := by decide +kernel
theorem zi8 : ∀ w ∈ u_ws "LittleCompiler$Machine" zT8 17, w ∈ ztbl := zsub [314, 316, 318, 320, 322, 324, 326, 328, 330, 332, 334, 336, 338, 340, 342, 344, 346] (by decide +kernel) (by decide +kernel)
def zT9 : u_T := fun k => match k with
  | 0 => ("LittleCompilerModel", "text", "[I", true)
  | 1 => ("LittleCompilerModel", "size", "I", false)
  | 2 => ("LittleCompilerModel", "globals", "[I", true)
  | 3 => ("LittleCompilerModel", "cells", "[I", true)
  | 4 => ("LittleCompilerModel", "tasks", "[I", true)
  | 5 => ("LittleCompilerModel", "taskCount", "I", false)
  | 6 => ("LittleCompilerModel", "place", "I", false)
  | 7 => ("LittleCompilerModel", "failed", "Z", false)
  | 8 => ("LittleCompilerModel", "kinds", "[I", true)
  | 9 => ("LittleCompilerModel", "numbers", "[I", true)
  | 10 => ("LittleCompilerModel", "as", "[I", true)
  | 11 => ("LittleCompilerModel", "bs", "[I", true)
  | 12 => ("LittleCompilerModel", "cs", "[I", true)
  | 13 => ("LittleCompilerModel", "nexts", "[I", true)
  | 14 => ("LittleCompilerModel", "nodes", "I", false)
  | 15 => ("LittleCompilerModel", "pile", "[I", true)
  | 16 => ("LittleCompilerModel", "height", "I", false)
  | 17 => ("LittleCompilerModel", "bodies", "[I", true)
  | 18 => ("LittleCompilerModel", "counts", "[I", true)
  | 19 => ("LittleCompilerModel", "locals", "[I", true)
  | 20 => ("LittleCompilerModel", "firsts", "[I", true)
  | 21 => ("LittleCompilerModel", "proc", "I", false)
  | 22 => ("LittleCompilerModel", "owned", "I", false)
  | 23 => ("LittleCompilerModel", "again", "Z", false)
  | 24 => ("LittleCompilerModel", "mainList", "I", false)
  | 25 => ("LittleCompilerModel", "starts", "[I", true)
  | 26 => ("LittleCompilerModel", "lists", "[I", true)
  | 27 => ("LittleCompilerModel", "defs", "I", false)
  | 28 => ("LittleCompilerModel", "faultPlace", "I", false)
  | 29 => ("LittleCompilerModel", "plainText", "[I", true)
  | 30 => ("LittleCompilerModel", "plainCount", "I", false)
  | 31 => ("LittleCompilerModel", "waits", "[I", true)
  | 32 => ("LittleCompilerModel", "heights", "[I", true)
  | 33 => ("LittleCompilerModel", "waiting", "I", false)
  | 34 => ("LittleCompilerModel", "values", "[I", true)
  | 35 => ("LittleCompilerModel", "held", "I", false)
  | 36 => ("LittleCompilerModel", "names", "[I", true)
  | 37 => ("LittleCompilerModel", "procs", "[I", true)
  | 38 => ("LittleCompilerModel", "under", "I", false)
  | 39 => ("LittleCompilerModel", "most", "I", false)
  | 40 => ("LittleCompilerModel", "turnCount", "I", false)
  | 41 => ("LittleCompilerModel", "prints", "[I", true)
  | 42 => ("LittleCompilerModel", "printCount", "I", false)
  | 43 => ("LittleCompilerModel", "now", "[I", true)
  | 44 => ("LittleCompilerModel", "cellsNow", "[I", true)
  | _ => ("LittleCompilerModel", "ending", "I", false)
def zy9 : Nat → FieldType := fun k => match k with
  | 0 => (.array .int)
  | 1 => .int
  | 2 => (.array .int)
  | 3 => (.array .int)
  | 4 => (.array .int)
  | 5 => .int
  | 6 => .int
  | 7 => .boolean
  | 8 => (.array .int)
  | 9 => (.array .int)
  | 10 => (.array .int)
  | 11 => (.array .int)
  | 12 => (.array .int)
  | 13 => (.array .int)
  | 14 => .int
  | 15 => (.array .int)
  | 16 => .int
  | 17 => (.array .int)
  | 18 => (.array .int)
  | 19 => (.array .int)
  | 20 => (.array .int)
  | 21 => .int
  | 22 => .int
  | 23 => .boolean
  | 24 => .int
  | 25 => (.array .int)
  | 26 => (.array .int)
  | 27 => .int
  | 28 => .int
  | 29 => (.array .int)
  | 30 => .int
  | 31 => (.array .int)
  | 32 => (.array .int)
  | 33 => .int
  | 34 => (.array .int)
  | 35 => .int
  | 36 => (.array .int)
  | 37 => (.array .int)
  | 38 => .int
  | 39 => .int
  | 40 => .int
  | 41 => (.array .int)
  | 42 => .int
  | 43 => (.array .int)
  | 44 => (.array .int)
  | _ => .int
theorem zn9 : ∀ a, a < 46 → ∀ b, b < 46 → a ≠ b → (zT9 a).2.1 ≠ (zT9 b).2.1 := by decide +kernel
theorem zyok9 : ∀ k, k < 46 → parseFieldDescriptor (zT9 k).2.2.1 = some (zy9 k) := by decide +kernel
theorem zi9 : ∀ w ∈ u_ws "LittleCompilerModel" zT9 46, w ∈ ztbl := zsub [933, 935, 937, 939, 941, 943, 945, 947, 949, 951, 953, 955, 957, 959, 961, 963, 965, 967, 969, 971, 973, 975, 977, 979, 981, 983, 985, 987, 989, 991, 993, 995, 997, 999, 1001, 1003, 1005, 1007, 1009, 1011, 1013, 1015, 1017, 1019, 1021, 1023] (by decide +kernel) (by decide +kernel)
abbrev zcl : List vw_C := [("LittleCompiler", zT0, 6), ("LittleCompiler$Code", zT1, 3), ("LittleCompiler$Procedures", zT2, 10), ("LittleCompiler$Parser", zT3, 9), ("LittleCompiler$Pending", zT4, 4), ("LittleCompiler$PlainForm", zT5, 6), ("LittleCompiler$Expressions", zT6, 4), ("LittleCompiler$Statements", zT7, 3), ("LittleCompiler$Machine", zT8, 17), ("LittleCompilerModel", zT9, 46)]
def zTy : Nat → Nat → FieldType := fun c => match c with
  | 0 => zy0
  | 1 => zy1
  | 2 => zy2
  | 3 => zy3
  | 4 => zy4
  | 5 => zy5
  | 6 => zy6
  | 7 => zy7
  | 8 => zy8
  | _ => zy9
abbrev zSh : Type := (Bool × Nat) ⊕ (Nat × List (Option Nat))
def zL : List zSh := [.inr (0, [some 1, some 2, some 3, some 14, some 27, none]),
  .inl (false, 150),
  .inl (false, 8),
  .inl (false, 16),
  .inr (1, [some 5, some 6, none]),
  .inl (false, 300),
  .inl (false, 300),
  .inr (2, [some 8, some 9, some 10, some 11, some 12, some 13, none, none, none, none]),
  .inl (true, 4),
  .inl (false, 4),
  .inl (false, 4),
  .inl (false, 32),
  .inl (false, 150),
  .inl (false, 150),
  .inr (3, [some 19, none, none, none, some 4, some 7, some 15, some 25, some 26]),
  .inr (4, [some 16, some 17, some 18, none]),
  .inl (false, 150),
  .inl (false, 150),
  .inl (false, 150),
  .inr (5, [some 20, none, some 21, none, none, none]),
  .inl (false, 150),
  .inl (true, 150),
  .inr (99, []),
  .inr (99, []),
  .inr (99, []),
  .inr (6, [some 4, some 7, some 15, some 19]),
  .inr (7, [some 4, some 7, some 15]),
  .inr (8, [some 28, some 29, some 30, none, none, none, none, none, some 4, some 7, some 31, some 32, some 33, none, none, none, none]),
  .inl (false, 8),
  .inl (false, 16),
  .inl (false, 20),
  .inl (false, 2048),
  .inl (false, 168),
  .inl (false, 21),
  .inr (9, [some 35, none, some 36, some 37, some 38, none, none, none, some 39, some 40, some 41, some 42, some 43, some 44, none, some 45, none, some 46, some 47, some 48, some 49, none, none, none, none, some 50, some 51, none, none, some 52, none, some 53, some 54, none, some 55, none, some 56, some 57, none, none, none, some 58, none, some 59, some 60, none]),
  .inl (false, 150),
  .inl (false, 8),
  .inl (false, 16),
  .inl (false, 1600),
  .inl (false, 400),
  .inl (false, 400),
  .inl (false, 400),
  .inl (false, 400),
  .inl (false, 400),
  .inl (false, 400),
  .inl (false, 300),
  .inl (false, 4),
  .inl (false, 4),
  .inl (false, 4),
  .inl (false, 32),
  .inl (false, 30),
  .inl (false, 30),
  .inl (false, 160),
  .inl (false, 3600),
  .inl (false, 3600),
  .inl (false, 3600),
  .inl (false, 168),
  .inl (false, 21),
  .inl (false, 20),
  .inl (false, 8),
  .inl (false, 16)]
/-- all the classes of the world: fields apart, types, words -/
theorem zcl_ok : ∀ (c : Nat) (C : String) (T : u_T) (N : Nat), zcl[c]? = some (C, T, N) → (∀ w ∈ u_ws C T N, w ∈ ztbl) ∧ (∀ k, k < N → parseFieldDescriptor (T k).2.2.1 = some (zTy c k)) ∧ (∀ a, a < N → ∀ b, b < N → a ≠ b → (T a).2.1 ≠ (T b).2.1) := by
  intro c C T N h
  match c, h with
  | 0, h => cases h; exact ⟨zi0, zyok0, zn0⟩
  | 1, h => cases h; exact ⟨zi1, zyok1, zn1⟩
  | 2, h => cases h; exact ⟨zi2, zyok2, zn2⟩
  | 3, h => cases h; exact ⟨zi3, zyok3, zn3⟩
  | 4, h => cases h; exact ⟨zi4, zyok4, zn4⟩
  | 5, h => cases h; exact ⟨zi5, zyok5, zn5⟩
  | 6, h => cases h; exact ⟨zi6, zyok6, zn6⟩
  | 7, h => cases h; exact ⟨zi7, zyok7, zn7⟩
  | 8, h => cases h; exact ⟨zi8, zyok8, zn8⟩
  | 9, h => cases h; exact ⟨zi9, zyok9, zn9⟩
  | c + 10, h => simp [zcl] at h
theorem zgood : ∀ w ∈ ztbl, (w.onTables && w.keeps) = true ∨ ∃ ty, w = .arrayClass ty := fun w hw => good_of_word (List.mem_filter.mp hw).2
theorem zin : ∀ w ∈ ztbl, w ∈ lw_tbl := fun w hw => (List.mem_filter.mp hw).1
