def isLS : Cond → Bool
  | .laysStatic _ _ _ => true
  | _ => false
/-- the words but for laysStatic (which speaks of the heap) -/
def lw_w : List Cond := lw_tbl.filter (fun w => !isLS w)
def kT0 : u_T := fun k => match k with
  | 0 => ("VersionMaps", "present", "LVersionMaps$Present;", true)
  | 1 => ("VersionMaps", "file", "LVersionMaps$BlockFile;", true)
  | 2 => ("VersionMaps", "chunks", "Ljava/util/ArrayList;", true)
  | 3 => ("VersionMaps", "versions", "Ljava/util/ArrayList;", true)
  | 4 => ("VersionMaps", "latest", "LVersionMaps$Version;", false)
  | 5 => ("VersionMaps", "holdLimit", "I", false)
  | 6 => ("VersionMaps", "nextId", "I", false)
  | _ => ("VersionMaps", "liveRound", "I", false)
def ky0 : Nat → FieldType := fun k => match k with
  | 0 => .object "VersionMaps$Present"
  | 1 => .object "VersionMaps$BlockFile"
  | 2 => .object "java/util/ArrayList"
  | 3 => .object "java/util/ArrayList"
  | 4 => .object "VersionMaps$Version"
  | 5 => .int
  | 6 => .int
  | _ => .int
def kT1 : u_T := fun k => match k with
  | 0 => ("VersionMaps$BlockFile", "contents", "[LVersionMaps$Chunk;", true)
  | 1 => ("VersionMaps$BlockFile", "settled", "[LVersionMaps$Chunk;", true)
  | 2 => ("VersionMaps$BlockFile", "isFree", "[Z", true)
  | 3 => ("VersionMaps$BlockFile", "isPending", "[Z", true)
  | 4 => ("VersionMaps$BlockFile", "pendingBlocks", "[I", true)
  | _ => ("VersionMaps$BlockFile", "pendingCount", "I", false)
def ky1 : Nat → FieldType := fun k => match k with
  | 0 => .array (.object "VersionMaps$Chunk")
  | 1 => .array (.object "VersionMaps$Chunk")
  | 2 => .array .boolean
  | 3 => .array .boolean
  | 4 => .array .int
  | _ => .int
def kT2 : u_T := fun k => match k with
  | 0 => ("VersionMaps$Chunk", "id", "I", true)
  | 1 => ("VersionMaps$Chunk", "first", "I", true)
  | 2 => ("VersionMaps$Chunk", "pages", "[LVersionMaps$Page;", true)
  | 3 => ("VersionMaps$Chunk", "filled", "I", false)
  | _ => ("VersionMaps$Chunk", "meta", "LVersionMaps$Meta;", false)
def ky2 : Nat → FieldType := fun k => match k with
  | 0 => .int
  | 1 => .int
  | 2 => .array (.object "VersionMaps$Page")
  | 3 => .int
  | _ => .object "VersionMaps$Meta"
def kT3 : u_T := fun k => match k with
  | 0 => ("VersionMaps$Page", "home", "LVersionMaps$Chunk;", false)
  | 1 => ("VersionMaps$Page", "place", "I", false)
  | 2 => ("VersionMaps$Page", "markedRound", "I", false)
  | 3 => ("VersionMaps$Leaf", "values", "[I", true)
  | _ => ("VersionMaps$Leaf", "keys", "I", false)
def ky3 : Nat → FieldType := fun k => match k with
  | 0 => .object "VersionMaps$Chunk"
  | 1 => .int
  | 2 => .int
  | 3 => .array .int
  | _ => .int
def kT4 : u_T := fun k => match k with
  | 0 => ("VersionMaps$Page", "home", "LVersionMaps$Chunk;", false)
  | 1 => ("VersionMaps$Page", "place", "I", false)
  | 2 => ("VersionMaps$Page", "markedRound", "I", false)
  | 3 => ("VersionMaps$Meta", "version", "I", true)
  | _ => ("VersionMaps$Meta", "roots", "[LVersionMaps$Root;", true)
def ky4 : Nat → FieldType := fun k => match k with
  | 0 => .object "VersionMaps$Chunk"
  | 1 => .int
  | 2 => .int
  | 3 => .int
  | _ => .array (.object "VersionMaps$Root")
def kT5 : u_T := fun k => match k with
  | 0 => ("VersionMaps$Present", "values", "[I", true)
  | 1 => ("VersionMaps$Present", "keys", "[I", true)
  | 2 => ("VersionMaps$Present", "touchedLeaves", "I", false)
  | _ => ("VersionMaps$Present", "touchedMaps", "I", false)
def ky5 : Nat → FieldType := fun k => match k with
  | 0 => .array .int
  | 1 => .array .int
  | 2 => .int
  | _ => .int
def kT6 : u_T := fun k => match k with
  | 0 => ("VersionMaps$Page", "home", "LVersionMaps$Chunk;", false)
  | 1 => ("VersionMaps$Page", "place", "I", false)
  | 2 => ("VersionMaps$Page", "markedRound", "I", false)
  | _ => ("VersionMaps$Root", "leaves", "[LVersionMaps$Leaf;", true)
def ky6 : Nat → FieldType := fun k => match k with
  | 0 => .object "VersionMaps$Chunk"
  | 1 => .int
  | 2 => .int
  | _ => .array (.object "VersionMaps$Leaf")
def kT7 : u_T := fun k => match k with
  | 0 => ("VersionMaps$Version", "number", "I", true)
  | 1 => ("VersionMaps$Version", "meta", "LVersionMaps$Meta;", false)
  | _ => ("VersionMaps$Version", "pins", "I", false)
def ky7 : Nat → FieldType := fun k => match k with
  | 0 => .int
  | 1 => .object "VersionMaps$Meta"
  | _ => .int
def kT8 : u_T := fun k => match k with
  | 0 => ("VersionMapsModel", "has", "[Z", true)
  | 1 => ("VersionMapsModel", "touchedLeaf", "[Z", true)
  | 2 => ("VersionMapsModel", "touchedMap", "[Z", true)
  | 3 => ("VersionMapsModel", "now", "[I", true)
  | 4 => ("VersionMapsModel", "pageId", "[I", true)
  | 5 => ("VersionMapsModel", "pageAt", "[I", true)
  | 6 => ("VersionMapsModel", "kind", "[I", true)
  | 7 => ("VersionMapsModel", "mapOf", "[I", true)
  | 8 => ("VersionMapsModel", "which", "[I", true)
  | 9 => ("VersionMapsModel", "keys", "[I", true)
  | 10 => ("VersionMapsModel", "ints", "[I", true)
  | 11 => ("VersionMapsModel", "leads", "[I", true)
  | 12 => ("VersionMapsModel", "live", "[Z", true)
  | 13 => ("VersionMapsModel", "holdsId", "[I", true)
  | 14 => ("VersionMapsModel", "holdsAt", "[I", true)
  | 15 => ("VersionMapsModel", "syncedId", "[I", true)
  | 16 => ("VersionMapsModel", "syncedAt", "[I", true)
  | 17 => ("VersionMapsModel", "pending", "[I", true)
  | 18 => ("VersionMapsModel", "free", "[Z", true)
  | 19 => ("VersionMapsModel", "pendings", "I", false)
  | 20 => ("VersionMapsModel", "chunkId", "[I", true)
  | 21 => ("VersionMapsModel", "first", "[I", true)
  | 22 => ("VersionMapsModel", "long1", "[I", true)
  | 23 => ("VersionMapsModel", "pages", "[I", true)
  | 24 => ("VersionMapsModel", "chunkVersion", "[I", true)
  | 25 => ("VersionMapsModel", "chunks", "I", false)
  | 26 => ("VersionMapsModel", "nextId", "I", false)
  | 27 => ("VersionMapsModel", "version", "[I", true)
  | 28 => ("VersionMapsModel", "pins", "[I", true)
  | 29 => ("VersionMapsModel", "meta", "[I", true)
  | 30 => ("VersionMapsModel", "versions", "I", false)
  | 31 => ("VersionMapsModel", "latest", "I", false)
  | 32 => ("VersionMapsModel", "holds", "I", false)
  | _ => ("VersionMapsModel", "newRoots", "[I", true)
def ky8 : Nat → FieldType := fun k => match k with
  | 0 => .array .boolean
  | 1 => .array .boolean
  | 2 => .array .boolean
  | 3 => .array .int
  | 4 => .array .int
  | 5 => .array .int
  | 6 => .array .int
  | 7 => .array .int
  | 8 => .array .int
  | 9 => .array .int
  | 10 => .array .int
  | 11 => .array .int
  | 12 => .array .boolean
  | 13 => .array .int
  | 14 => .array .int
  | 15 => .array .int
  | 16 => .array .int
  | 17 => .array .int
  | 18 => .array .boolean
  | 19 => .int
  | 20 => .array .int
  | 21 => .array .int
  | 22 => .array .int
  | 23 => .array .int
  | 24 => .array .int
  | 25 => .int
  | 26 => .int
  | 27 => .array .int
  | 28 => .array .int
  | 29 => .array .int
  | 30 => .int
  | 31 => .int
  | 32 => .int
  | _ => .array .int
def kT9 : u_T := fun k => match k with
  | 0 => ("java/util/ArrayList", "elementData", "[Ljava/lang/Object;", false)
  | 1 => ("java/util/ArrayList", "size", "I", false)
  | _ => ("java/util/AbstractList", "modCount", "I", false)
def ky9 : Nat → FieldType := fun k => match k with
  | 0 => .array (.object "java/lang/Object")
  | 1 => .int
  | _ => .int
def kcl : List vw_C := [("VersionMaps", kT0, 8), ("VersionMaps$BlockFile", kT1, 6), ("VersionMaps$Chunk", kT2, 5), ("VersionMaps$Leaf", kT3, 5), ("VersionMaps$Meta", kT4, 5), ("VersionMaps$Present", kT5, 4), ("VersionMaps$Root", kT6, 4), ("VersionMaps$Version", kT7, 3), ("VersionMapsModel", kT8, 34), ("java/util/ArrayList", kT9, 3)]
def kty (κ : Nat) : Nat → FieldType := match κ with
  | 0 => ky0
  | 1 => ky1
  | 2 => ky2
  | 3 => ky3
  | 4 => ky4
  | 5 => ky5
  | 6 => ky6
  | 7 => ky7
  | 8 => ky8
  | _ => ky9
/-- is the field an int? -/
def kfi : List (List Bool) := [[false, false, false, false, false, true, true, true], [false, false, false, false, false, true], [true, true, false, true, false], [false, true, true, false, true], [false, true, true, true, false], [false, false, true, true], [false, true, true, false], [true, false, true], [false, false, false, false, false, false, false, false, false, false, false, false, false, false, false, false, false, false, false, true, false, false, false, false, false, true, true, false, false, false, true, true, true, false], [false, true, true]]
def fint (κ k : Nat) : Bool := (kfi.getD κ []).getD k true
theorem kin0 : ∀ w ∈ u_ws "VersionMaps" kT0 8, w ∈ lw_w := by decide +kernel
theorem knm0 : ∀ a, a < 8 → ∀ b, b < 8 → a ≠ b → (kT0 a).2.1 ≠ (kT0 b).2.1 := by decide +kernel
theorem kok0 : ∀ k, k < 8 → parseFieldDescriptor (kT0 k).2.2.1 = some (ky0 k) := by decide +kernel
theorem kis0 : Cond.instantiable "VersionMaps" 8 ∈ lw_w := by decide +kernel
theorem kii0 : Cond.initialized "VersionMaps" ∈ lw_w := by decide +kernel
theorem kfo0 : ∀ k, k < 8 → (fint 0 k = true ∧ ky0 k = .int) ∨ (fint 0 k = false ∧ (ky0 k).isReference = true) := by decide +kernel
theorem kin1 : ∀ w ∈ u_ws "VersionMaps$BlockFile" kT1 6, w ∈ lw_w := by decide +kernel
theorem knm1 : ∀ a, a < 6 → ∀ b, b < 6 → a ≠ b → (kT1 a).2.1 ≠ (kT1 b).2.1 := by decide +kernel
theorem kok1 : ∀ k, k < 6 → parseFieldDescriptor (kT1 k).2.2.1 = some (ky1 k) := by decide +kernel
theorem kis1 : Cond.instantiable "VersionMaps$BlockFile" 6 ∈ lw_w := by decide +kernel
theorem kii1 : Cond.initialized "VersionMaps$BlockFile" ∈ lw_w := by decide +kernel
theorem kfo1 : ∀ k, k < 6 → (fint 1 k = true ∧ ky1 k = .int) ∨ (fint 1 k = false ∧ (ky1 k).isReference = true) := by decide +kernel
theorem kin2 : ∀ w ∈ u_ws "VersionMaps$Chunk" kT2 5, w ∈ lw_w := by decide +kernel
theorem knm2 : ∀ a, a < 5 → ∀ b, b < 5 → a ≠ b → (kT2 a).2.1 ≠ (kT2 b).2.1 := by decide +kernel
theorem kok2 : ∀ k, k < 5 → parseFieldDescriptor (kT2 k).2.2.1 = some (ky2 k) := by decide +kernel
theorem kis2 : Cond.instantiable "VersionMaps$Chunk" 5 ∈ lw_w := by decide +kernel
theorem kii2 : Cond.initialized "VersionMaps$Chunk" ∈ lw_w := by decide +kernel
theorem kfo2 : ∀ k, k < 5 → (fint 2 k = true ∧ ky2 k = .int) ∨ (fint 2 k = false ∧ (ky2 k).isReference = true) := by decide +kernel
theorem kin3 : ∀ w ∈ u_ws "VersionMaps$Leaf" kT3 5, w ∈ lw_w := by decide +kernel
theorem knm3 : ∀ a, a < 5 → ∀ b, b < 5 → a ≠ b → (kT3 a).2.1 ≠ (kT3 b).2.1 := by decide +kernel
theorem kok3 : ∀ k, k < 5 → parseFieldDescriptor (kT3 k).2.2.1 = some (ky3 k) := by decide +kernel
theorem kis3 : Cond.instantiable "VersionMaps$Leaf" 5 ∈ lw_w := by decide +kernel
theorem kii3 : Cond.initialized "VersionMaps$Leaf" ∈ lw_w := by decide +kernel
theorem kfo3 : ∀ k, k < 5 → (fint 3 k = true ∧ ky3 k = .int) ∨ (fint 3 k = false ∧ (ky3 k).isReference = true) := by decide +kernel
theorem kin4 : ∀ w ∈ u_ws "VersionMaps$Meta" kT4 5, w ∈ lw_w := by decide +kernel
theorem knm4 : ∀ a, a < 5 → ∀ b, b < 5 → a ≠ b → (kT4 a).2.1 ≠ (kT4 b).2.1 := by decide +kernel
theorem kok4 : ∀ k, k < 5 → parseFieldDescriptor (kT4 k).2.2.1 = some (ky4 k) := by decide +kernel
theorem kis4 : Cond.instantiable "VersionMaps$Meta" 5 ∈ lw_w := by decide +kernel
theorem kii4 : Cond.initialized "VersionMaps$Meta" ∈ lw_w := by decide +kernel
theorem kfo4 : ∀ k, k < 5 → (fint 4 k = true ∧ ky4 k = .int) ∨ (fint 4 k = false ∧ (ky4 k).isReference = true) := by decide +kernel
theorem kin5 : ∀ w ∈ u_ws "VersionMaps$Present" kT5 4, w ∈ lw_w := by decide +kernel
theorem knm5 : ∀ a, a < 4 → ∀ b, b < 4 → a ≠ b → (kT5 a).2.1 ≠ (kT5 b).2.1 := by decide +kernel
theorem kok5 : ∀ k, k < 4 → parseFieldDescriptor (kT5 k).2.2.1 = some (ky5 k) := by decide +kernel
theorem kis5 : Cond.instantiable "VersionMaps$Present" 4 ∈ lw_w := by decide +kernel
theorem kii5 : Cond.initialized "VersionMaps$Present" ∈ lw_w := by decide +kernel
theorem kfo5 : ∀ k, k < 4 → (fint 5 k = true ∧ ky5 k = .int) ∨ (fint 5 k = false ∧ (ky5 k).isReference = true) := by decide +kernel
theorem kin6 : ∀ w ∈ u_ws "VersionMaps$Root" kT6 4, w ∈ lw_w := by decide +kernel
theorem knm6 : ∀ a, a < 4 → ∀ b, b < 4 → a ≠ b → (kT6 a).2.1 ≠ (kT6 b).2.1 := by decide +kernel
theorem kok6 : ∀ k, k < 4 → parseFieldDescriptor (kT6 k).2.2.1 = some (ky6 k) := by decide +kernel
theorem kis6 : Cond.instantiable "VersionMaps$Root" 4 ∈ lw_w := by decide +kernel
theorem kii6 : Cond.initialized "VersionMaps$Root" ∈ lw_w := by decide +kernel
theorem kfo6 : ∀ k, k < 4 → (fint 6 k = true ∧ ky6 k = .int) ∨ (fint 6 k = false ∧ (ky6 k).isReference = true) := by decide +kernel
theorem kin7 : ∀ w ∈ u_ws "VersionMaps$Version" kT7 3, w ∈ lw_w := by decide +kernel
theorem knm7 : ∀ a, a < 3 → ∀ b, b < 3 → a ≠ b → (kT7 a).2.1 ≠ (kT7 b).2.1 := by decide +kernel
theorem kok7 : ∀ k, k < 3 → parseFieldDescriptor (kT7 k).2.2.1 = some (ky7 k) := by decide +kernel
theorem kis7 : Cond.instantiable "VersionMaps$Version" 3 ∈ lw_w := by decide +kernel
theorem kii7 : Cond.initialized "VersionMaps$Version" ∈ lw_w := by decide +kernel
theorem kfo7 : ∀ k, k < 3 → (fint 7 k = true ∧ ky7 k = .int) ∨ (fint 7 k = false ∧ (ky7 k).isReference = true) := by decide +kernel
theorem kin8 : ∀ w ∈ u_ws "VersionMapsModel" kT8 34, w ∈ lw_w := by decide +kernel
theorem knm8 : ∀ a, a < 34 → ∀ b, b < 34 → a ≠ b → (kT8 a).2.1 ≠ (kT8 b).2.1 := by decide +kernel
theorem kok8 : ∀ k, k < 34 → parseFieldDescriptor (kT8 k).2.2.1 = some (ky8 k) := by decide +kernel
theorem kis8 : Cond.instantiable "VersionMapsModel" 34 ∈ lw_w := by decide +kernel
theorem kii8 : Cond.initialized "VersionMapsModel" ∈ lw_w := by decide +kernel
theorem kfo8 : ∀ k, k < 34 → (fint 8 k = true ∧ ky8 k = .int) ∨ (fint 8 k = false ∧ (ky8 k).isReference = true) := by decide +kernel
theorem kin9 : ∀ w ∈ u_ws "java/util/ArrayList" kT9 3, w ∈ lw_w := by decide +kernel
theorem knm9 : ∀ a, a < 3 → ∀ b, b < 3 → a ≠ b → (kT9 a).2.1 ≠ (kT9 b).2.1 := by decide +kernel
theorem kok9 : ∀ k, k < 3 → parseFieldDescriptor (kT9 k).2.2.1 = some (ky9 k) := by decide +kernel
theorem kis9 : Cond.instantiable "java/util/ArrayList" 3 ∈ lw_w := by decide +kernel
theorem kii9 : Cond.initialized "java/util/ArrayList" ∈ lw_w := by decide +kernel
theorem kfo9 : ∀ k, k < 3 → (fint 9 k = true ∧ ky9 k = .int) ∨ (fint 9 k = false ∧ (ky9 k).isReference = true) := by decide +kernel
theorem kcl_lt {κ : Nat} {q : vw_C} (h : kcl[κ]? = some q) : κ < 10 := (List.getElem?_eq_some_iff.mp h).1
theorem kin : ∀ {κ : Nat} {q : vw_C}, kcl[κ]? = some q → ∀ w ∈ u_ws q.1 q.2.1 q.2.2, w ∈ lw_w := by
  intro κ q h
  have hl := kcl_lt h
  by_cases e0 : κ = 0
  · subst e0; cases (Option.some.inj h); exact kin0
  by_cases e1 : κ = 1
  · subst e1; cases (Option.some.inj h); exact kin1
  by_cases e2 : κ = 2
  · subst e2; cases (Option.some.inj h); exact kin2
  by_cases e3 : κ = 3
  · subst e3; cases (Option.some.inj h); exact kin3
  by_cases e4 : κ = 4
  · subst e4; cases (Option.some.inj h); exact kin4
  by_cases e5 : κ = 5
  · subst e5; cases (Option.some.inj h); exact kin5
  by_cases e6 : κ = 6
  · subst e6; cases (Option.some.inj h); exact kin6
  by_cases e7 : κ = 7
  · subst e7; cases (Option.some.inj h); exact kin7
  by_cases e8 : κ = 8
  · subst e8; cases (Option.some.inj h); exact kin8
  by_cases e9 : κ = 9
  · subst e9; cases (Option.some.inj h); exact kin9
  omega
theorem knm : ∀ {κ : Nat} {q : vw_C}, kcl[κ]? = some q → ∀ a, a < q.2.2 → ∀ b, b < q.2.2 → a ≠ b → (q.2.1 a).2.1 ≠ (q.2.1 b).2.1 := by
  intro κ q h
  have hl := kcl_lt h
  by_cases e0 : κ = 0
  · subst e0; cases (Option.some.inj h); exact knm0
  by_cases e1 : κ = 1
  · subst e1; cases (Option.some.inj h); exact knm1
  by_cases e2 : κ = 2
  · subst e2; cases (Option.some.inj h); exact knm2
  by_cases e3 : κ = 3
  · subst e3; cases (Option.some.inj h); exact knm3
  by_cases e4 : κ = 4
  · subst e4; cases (Option.some.inj h); exact knm4
  by_cases e5 : κ = 5
  · subst e5; cases (Option.some.inj h); exact knm5
  by_cases e6 : κ = 6
  · subst e6; cases (Option.some.inj h); exact knm6
  by_cases e7 : κ = 7
  · subst e7; cases (Option.some.inj h); exact knm7
  by_cases e8 : κ = 8
  · subst e8; cases (Option.some.inj h); exact knm8
  by_cases e9 : κ = 9
  · subst e9; cases (Option.some.inj h); exact knm9
  omega
theorem kok : ∀ {κ : Nat} {q : vw_C}, kcl[κ]? = some q → ∀ k, k < q.2.2 → parseFieldDescriptor (q.2.1 k).2.2.1 = some (kty κ k) := by
  intro κ q h
  have hl := kcl_lt h
  by_cases e0 : κ = 0
  · subst e0; cases (Option.some.inj h); exact kok0
  by_cases e1 : κ = 1
  · subst e1; cases (Option.some.inj h); exact kok1
  by_cases e2 : κ = 2
  · subst e2; cases (Option.some.inj h); exact kok2
  by_cases e3 : κ = 3
  · subst e3; cases (Option.some.inj h); exact kok3
  by_cases e4 : κ = 4
  · subst e4; cases (Option.some.inj h); exact kok4
  by_cases e5 : κ = 5
  · subst e5; cases (Option.some.inj h); exact kok5
  by_cases e6 : κ = 6
  · subst e6; cases (Option.some.inj h); exact kok6
  by_cases e7 : κ = 7
  · subst e7; cases (Option.some.inj h); exact kok7
  by_cases e8 : κ = 8
  · subst e8; cases (Option.some.inj h); exact kok8
  by_cases e9 : κ = 9
  · subst e9; cases (Option.some.inj h); exact kok9
  omega
theorem kis : ∀ {κ : Nat} {q : vw_C}, kcl[κ]? = some q → Cond.instantiable q.1 q.2.2 ∈ lw_w := by
  intro κ q h
  have hl := kcl_lt h
  by_cases e0 : κ = 0
  · subst e0; cases (Option.some.inj h); exact kis0
  by_cases e1 : κ = 1
  · subst e1; cases (Option.some.inj h); exact kis1
  by_cases e2 : κ = 2
  · subst e2; cases (Option.some.inj h); exact kis2
  by_cases e3 : κ = 3
  · subst e3; cases (Option.some.inj h); exact kis3
  by_cases e4 : κ = 4
  · subst e4; cases (Option.some.inj h); exact kis4
  by_cases e5 : κ = 5
  · subst e5; cases (Option.some.inj h); exact kis5
  by_cases e6 : κ = 6
  · subst e6; cases (Option.some.inj h); exact kis6
  by_cases e7 : κ = 7
  · subst e7; cases (Option.some.inj h); exact kis7
  by_cases e8 : κ = 8
  · subst e8; cases (Option.some.inj h); exact kis8
  by_cases e9 : κ = 9
  · subst e9; cases (Option.some.inj h); exact kis9
  omega
theorem kii : ∀ {κ : Nat} {q : vw_C}, kcl[κ]? = some q → Cond.initialized q.1 ∈ lw_w := by
  intro κ q h
  have hl := kcl_lt h
  by_cases e0 : κ = 0
  · subst e0; cases (Option.some.inj h); exact kii0
  by_cases e1 : κ = 1
  · subst e1; cases (Option.some.inj h); exact kii1
  by_cases e2 : κ = 2
  · subst e2; cases (Option.some.inj h); exact kii2
  by_cases e3 : κ = 3
  · subst e3; cases (Option.some.inj h); exact kii3
  by_cases e4 : κ = 4
  · subst e4; cases (Option.some.inj h); exact kii4
  by_cases e5 : κ = 5
  · subst e5; cases (Option.some.inj h); exact kii5
  by_cases e6 : κ = 6
  · subst e6; cases (Option.some.inj h); exact kii6
  by_cases e7 : κ = 7
  · subst e7; cases (Option.some.inj h); exact kii7
  by_cases e8 : κ = 8
  · subst e8; cases (Option.some.inj h); exact kii8
  by_cases e9 : κ = 9
  · subst e9; cases (Option.some.inj h); exact kii9
  omega
theorem kfo : ∀ {κ : Nat} {q : vw_C}, kcl[κ]? = some q → ∀ k, k < q.2.2 → (fint κ k = true ∧ kty κ k = .int) ∨ (fint κ k = false ∧ (kty κ k).isReference = true) := by
  intro κ q h
  have hl := kcl_lt h
  by_cases e0 : κ = 0
  · subst e0; cases (Option.some.inj h); exact kfo0
  by_cases e1 : κ = 1
  · subst e1; cases (Option.some.inj h); exact kfo1
  by_cases e2 : κ = 2
  · subst e2; cases (Option.some.inj h); exact kfo2
  by_cases e3 : κ = 3
  · subst e3; cases (Option.some.inj h); exact kfo3
  by_cases e4 : κ = 4
  · subst e4; cases (Option.some.inj h); exact kfo4
  by_cases e5 : κ = 5
  · subst e5; cases (Option.some.inj h); exact kfo5
  by_cases e6 : κ = 6
  · subst e6; cases (Option.some.inj h); exact kfo6
  by_cases e7 : κ = 7
  · subst e7; cases (Option.some.inj h); exact kfo7
  by_cases e8 : κ = 8
  · subst e8; cases (Option.some.inj h); exact kfo8
  by_cases e9 : κ = 9
  · subst e9; cases (Option.some.inj h); exact kfo9
  omega
/-- element types of the arrays -/
def atl : List FieldType := [.int, .boolean, .object "VersionMaps$Chunk", .object "VersionMaps$Page", .object "VersionMaps$Root", .object "VersionMaps$Leaf", .object "java/lang/Object"]
