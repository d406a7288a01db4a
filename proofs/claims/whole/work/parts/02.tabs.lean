def mR_0 : String := "LeastCurves$Edge"
def mT_0 : u_T := fun k => match k with
  | 0 => ("LeastCurves$Edge", "foot", "I", false)
  | 1 => ("LeastCurves$Edge", "head", "I", false)
  | 2 => ("LeastCurves$Edge", "rise", "I", false)
  | 3 => ("LeastCurves$Edge", "weight", "I", false)
  | 4 => ("LeastCurves$Edge", "start", "I", false)
  | 5 => ("LeastCurves$Edge", "end", "I", false)
  | 6 => ("LeastCurves$Edge", "u", "I", false)
  | 7 => ("LeastCurves$Edge", "v", "I", false)
  | 8 => ("LeastCurves$Edge", "lengthTop", "I", false)
  | 9 => ("LeastCurves$Edge", "lengthBottom", "I", false)
  | _ => ("LeastCurves$Edge", "isBridge", "Z", false)
def mY_0 : Nat → FieldType := fun k => match k with
  | 0 => .int
  | 1 => .int
  | 2 => .int
  | 3 => .int
  | 4 => .int
  | 5 => .int
  | 6 => .int
  | 7 => .int
  | 8 => .int
  | 9 => .int
  | _ => .boolean
theorem mY_0_ok : ∀ k, k < 11 → parseFieldDescriptor (mT_0 k).2.2.1 = some (mY_0 k) := by decide +kernel
theorem mN_0_ok : ∀ a, a < 11 → ∀ b, b < 11 → a ≠ b → (mT_0 a).2.1 ≠ (mT_0 b).2.1 := by decide +kernel
def mR_1 : String := "LeastCurves$Meetings"
def mT_1 : u_T := fun k => match k with
  | 0 => ("LeastCurves$Meetings", "one", "LLeastCurves$Shape;", true)
  | 1 => ("LeastCurves$Meetings", "other", "LLeastCurves$Shape;", true)
  | 2 => ("LeastCurves$Meetings", "changesOfOne", "I", false)
  | 3 => ("LeastCurves$Meetings", "changesOfOther", "I", false)
  | _ => ("LeastCurves$Meetings", "points", "LLeastCurves$Points;", true)
def mY_1 : Nat → FieldType := fun k => match k with
  | 0 => .object "LeastCurves$Shape"
  | 1 => .object "LeastCurves$Shape"
  | 2 => .int
  | 3 => .int
  | _ => .object "LeastCurves$Points"
theorem mY_1_ok : ∀ k, k < 5 → parseFieldDescriptor (mT_1 k).2.2.1 = some (mY_1 k) := by decide +kernel
theorem mN_1_ok : ∀ a, a < 5 → ∀ b, b < 5 → a ≠ b → (mT_1 a).2.1 ≠ (mT_1 b).2.1 := by decide +kernel
def mR_2 : String := "LeastCurves"
def mT_2 : u_T := fun k => match k with
  | 0 => ("LeastCurves", "text", "LLeastCurves$Text;", true)
  | 1 => ("LeastCurves", "reader", "LLeastCurves$Reader;", true)
  | 2 => ("LeastCurves", "now", "LLeastCurves$Pair;", true)
  | 3 => ("LeastCurves", "draft", "LLeastCurves$Terms;", true)
  | 4 => ("LeastCurves", "past", "LLeastCurves$Past;", true)
  | 5 => ("LeastCurves", "slot0", "LLeastCurves$Pair;", true)
  | 6 => ("LeastCurves", "slot1", "LLeastCurves$Pair;", true)
  | 7 => ("LeastCurves", "shape0", "LLeastCurves$Shape;", true)
  | 8 => ("LeastCurves", "shape1", "LLeastCurves$Shape;", true)
  | 9 => ("LeastCurves", "meetings", "LLeastCurves$Meetings;", true)
  | 10 => ("LeastCurves", "kept0", "Z", false)
  | _ => ("LeastCurves", "kept1", "Z", false)
def mY_2 : Nat → FieldType := fun k => match k with
  | 0 => .object "LeastCurves$Text"
  | 1 => .object "LeastCurves$Reader"
  | 2 => .object "LeastCurves$Pair"
  | 3 => .object "LeastCurves$Terms"
  | 4 => .object "LeastCurves$Past"
  | 5 => .object "LeastCurves$Pair"
  | 6 => .object "LeastCurves$Pair"
  | 7 => .object "LeastCurves$Shape"
  | 8 => .object "LeastCurves$Shape"
  | 9 => .object "LeastCurves$Meetings"
  | 10 => .boolean
  | _ => .boolean
theorem mY_2_ok : ∀ k, k < 12 → parseFieldDescriptor (mT_2 k).2.2.1 = some (mY_2 k) := by decide +kernel
theorem mN_2_ok : ∀ a, a < 12 → ∀ b, b < 12 → a ≠ b → (mT_2 a).2.1 ≠ (mT_2 b).2.1 := by decide +kernel
def mR_3 : String := "LeastCurves$Pair"
def mT_3 : u_T := fun k => match k with
  | 0 => ("LeastCurves$Pair", "first", "LLeastCurves$Terms;", true)
  | _ => ("LeastCurves$Pair", "second", "LLeastCurves$Terms;", true)
def mY_3 : Nat → FieldType := fun k => match k with
  | 0 => .object "LeastCurves$Terms"
  | _ => .object "LeastCurves$Terms"
theorem mY_3_ok : ∀ k, k < 2 → parseFieldDescriptor (mT_3 k).2.2.1 = some (mY_3 k) := by decide +kernel
theorem mN_3_ok : ∀ a, a < 2 → ∀ b, b < 2 → a ≠ b → (mT_3 a).2.1 ≠ (mT_3 b).2.1 := by decide +kernel
def mR_4 : String := "LeastCurves$Past"
def mT_4 : u_T := fun k => match k with
  | 0 => ("LeastCurves$Past", "rows", "[LLeastCurves$Pair;", true)
  | 1 => ("LeastCurves$Past", "next", "I", false)
  | _ => ("LeastCurves$Past", "size", "I", false)
def mY_4 : Nat → FieldType := fun k => match k with
  | 0 => .array (.object "LeastCurves$Pair")
  | 1 => .int
  | _ => .int
theorem mY_4_ok : ∀ k, k < 3 → parseFieldDescriptor (mT_4 k).2.2.1 = some (mY_4 k) := by decide +kernel
theorem mN_4_ok : ∀ a, a < 3 → ∀ b, b < 3 → a ≠ b → (mT_4 a).2.1 ≠ (mT_4 b).2.1 := by decide +kernel
def mR_5 : String := "LeastCurves$Points"
def mT_5 : u_T := fun k => match k with
  | 0 => ("LeastCurves$Points", "xTop", "[I", true)
  | 1 => ("LeastCurves$Points", "xBottom", "[I", true)
  | 2 => ("LeastCurves$Points", "yTop", "[I", true)
  | 3 => ("LeastCurves$Points", "yBottom", "[I", true)
  | 4 => ("LeastCurves$Points", "mark", "[I", true)
  | _ => ("LeastCurves$Points", "size", "I", false)
def mY_5 : Nat → FieldType := fun k => match k with
  | 0 => .array .int
  | 1 => .array .int
  | 2 => .array .int
  | 3 => .array .int
  | 4 => .array .int
  | _ => .int
theorem mY_5_ok : ∀ k, k < 6 → parseFieldDescriptor (mT_5 k).2.2.1 = some (mY_5 k) := by decide +kernel
theorem mN_5_ok : ∀ a, a < 6 → ∀ b, b < 6 → a ≠ b → (mT_5 a).2.1 ≠ (mT_5 b).2.1 := by decide +kernel
def mR_6 : String := "LeastCurves$Reader"
def mT_6 : u_T := fun k => match k with
  | 0 => ("LeastCurves$Reader", "text", "LLeastCurves$Text;", true)
  | 1 => ("LeastCurves$Reader", "state", "I", false)
  | 2 => ("LeastCurves$Reader", "result", "LLeastCurves$Pair;", true)
  | 3 => ("LeastCurves$Reader", "names0", "Z", false)
  | 4 => ("LeastCurves$Reader", "names1", "Z", false)
  | 5 => ("LeastCurves$Reader", "clauses", "I", false)
  | 6 => ("LeastCurves$Reader", "curve", "I", false)
  | 7 => ("LeastCurves$Reader", "i", "I", false)
  | 8 => ("LeastCurves$Reader", "j", "I", false)
  | 9 => ("LeastCurves$Reader", "c", "I", false)
  | 10 => ("LeastCurves$Reader", "parts", "I", false)
  | 11 => ("LeastCurves$Reader", "hasX", "Z", false)
  | 12 => ("LeastCurves$Reader", "hasY", "Z", false)
  | 13 => ("LeastCurves$Reader", "hasNumber", "Z", false)
  | _ => ("LeastCurves$Reader", "digits", "I", false)
def mY_6 : Nat → FieldType := fun k => match k with
  | 0 => .object "LeastCurves$Text"
  | 1 => .int
  | 2 => .object "LeastCurves$Pair"
  | 3 => .boolean
  | 4 => .boolean
  | 5 => .int
  | 6 => .int
  | 7 => .int
  | 8 => .int
  | 9 => .int
  | 10 => .int
  | 11 => .boolean
  | 12 => .boolean
  | 13 => .boolean
  | _ => .int
theorem mY_6_ok : ∀ k, k < 15 → parseFieldDescriptor (mT_6 k).2.2.1 = some (mY_6 k) := by decide +kernel
theorem mN_6_ok : ∀ a, a < 15 → ∀ b, b < 15 → a ≠ b → (mT_6 a).2.1 ≠ (mT_6 b).2.1 := by decide +kernel
def mR_7 : String := "LeastCurves$Shape"
def mT_7 : u_T := fun k => match k with
  | 0 => ("LeastCurves$Shape", "terms", "LLeastCurves$Terms;", true)
  | 1 => ("LeastCurves$Shape", "changesSeen", "I", false)
  | 2 => ("LeastCurves$Shape", "corners", "LLeastCurves$Points;", true)
  | 3 => ("LeastCurves$Shape", "edges", "[LLeastCurves$Edge;", true)
  | 4 => ("LeastCurves$Shape", "edgeCount", "I", false)
  | 5 => ("LeastCurves$Shape", "unit", "J", false)
  | 6 => ("LeastCurves$Shape", "far", "[J", true)
  | _ => ("LeastCurves$Shape", "steps", "[I", true)
def mY_7 : Nat → FieldType := fun k => match k with
  | 0 => .object "LeastCurves$Terms"
  | 1 => .int
  | 2 => .object "LeastCurves$Points"
  | 3 => .array (.object "LeastCurves$Edge")
  | 4 => .int
  | 5 => .long
  | 6 => .array .long
  | _ => .array .int
theorem mY_7_ok : ∀ k, k < 8 → parseFieldDescriptor (mT_7 k).2.2.1 = some (mY_7 k) := by decide +kernel
theorem mN_7_ok : ∀ a, a < 8 → ∀ b, b < 8 → a ≠ b → (mT_7 a).2.1 ≠ (mT_7 b).2.1 := by decide +kernel
def mR_8 : String := "LeastCurves$Terms"
def mT_8 : u_T := fun k => match k with
  | 0 => ("LeastCurves$Terms", "c", "[I", true)
  | _ => ("LeastCurves$Terms", "changes", "I", false)
def mY_8 : Nat → FieldType := fun k => match k with
  | 0 => .array .int
  | _ => .int
theorem mY_8_ok : ∀ k, k < 2 → parseFieldDescriptor (mT_8 k).2.2.1 = some (mY_8 k) := by decide +kernel
theorem mN_8_ok : ∀ a, a < 2 → ∀ b, b < 2 → a ≠ b → (mT_8 a).2.1 ≠ (mT_8 b).2.1 := by decide +kernel
def mR_9 : String := "LeastCurves$Text"
def mT_9 : u_T := fun k => match k with
  | 0 => ("LeastCurves$Text", "bytes", "[I", true)
  | 1 => ("LeastCurves$Text", "length", "I", false)
  | 2 => ("LeastCurves$Text", "at", "I", false)
  | 3 => ("LeastCurves$Text", "kind", "I", false)
  | 4 => ("LeastCurves$Text", "start", "I", false)
  | 5 => ("LeastCurves$Text", "digits", "I", false)
  | _ => ("LeastCurves$Text", "number", "I", false)
def mY_9 : Nat → FieldType := fun k => match k with
  | 0 => .array .int
  | 1 => .int
  | 2 => .int
  | 3 => .int
  | 4 => .int
  | 5 => .int
  | _ => .int
theorem mY_9_ok : ∀ k, k < 7 → parseFieldDescriptor (mT_9 k).2.2.1 = some (mY_9 k) := by decide +kernel
theorem mN_9_ok : ∀ a, a < 7 → ∀ b, b < 7 → a ≠ b → (mT_9 a).2.1 ≠ (mT_9 b).2.1 := by decide +kernel
def mR_10 : String := "LeastCurvesModel"
def mT_10 : u_T := fun k => match k with
  | 0 => ("LeastCurvesModel", "row", "[I", true)
  | 1 => ("LeastCurvesModel", "undos", "I", false)
  | 2 => ("LeastCurvesModel", "isKept", "[Z", true)
  | 3 => ("LeastCurvesModel", "text", "[I", true)
  | 4 => ("LeastCurvesModel", "length", "I", false)
  | 5 => ("LeastCurvesModel", "first", "I", false)
  | 6 => ("LeastCurvesModel", "behind", "I", false)
  | 7 => ("LeastCurvesModel", "clauses", "I", false)
  | 8 => ("LeastCurvesModel", "doing", "Z", false)
  | 9 => ("LeastCurvesModel", "curve", "I", false)
  | 10 => ("LeastCurvesModel", "number", "I", false)
  | 11 => ("LeastCurvesModel", "hasNumber", "Z", false)
  | 12 => ("LeastCurvesModel", "times", "I", false)
  | 13 => ("LeastCurvesModel", "hasX", "Z", false)
  | 14 => ("LeastCurvesModel", "timesY", "I", false)
  | 15 => ("LeastCurvesModel", "hasY", "Z", false)
  | 16 => ("LeastCurvesModel", "parts", "I", false)
  | 17 => ("LeastCurvesModel", "is", "[I", true)
  | 18 => ("LeastCurvesModel", "js", "[I", true)
  | 19 => ("LeastCurvesModel", "size", "I", false)
  | 20 => ("LeastCurvesModel", "grid", "[Z", true)
  | 21 => ("LeastCurvesModel", "known", "Z", false)
  | 22 => ("LeastCurvesModel", "cornerX", "[J", true)
  | 23 => ("LeastCurvesModel", "cornerY", "[J", true)
  | 24 => ("LeastCurvesModel", "cornerLead", "[I", true)
  | 25 => ("LeastCurvesModel", "corners", "[I", true)
  | 26 => ("LeastCurvesModel", "foot", "[I", true)
  | 27 => ("LeastCurvesModel", "head", "[I", true)
  | 28 => ("LeastCurvesModel", "from", "[I", true)
  | 29 => ("LeastCurvesModel", "to", "[I", true)
  | 30 => ("LeastCurvesModel", "u", "[I", true)
  | 31 => ("LeastCurvesModel", "v", "[I", true)
  | 32 => ("LeastCurvesModel", "edges", "[I", true)
  | 33 => ("LeastCurvesModel", "meetX", "[J", true)
  | 34 => ("LeastCurvesModel", "meetY", "[J", true)
  | 35 => ("LeastCurvesModel", "meetings", "I", false)
  | 36 => ("LeastCurvesModel", "then", "[I", true)
  | 37 => ("LeastCurvesModel", "reached", "[Z", true)
  | 38 => ("LeastCurvesModel", "bar", "J", false)
  | 39 => ("LeastCurvesModel", "barred", "Z", false)
  | 40 => ("LeastCurvesModel", "far", "[J", true)
  | _ => ("LeastCurvesModel", "steps", "[I", true)
def mY_10 : Nat → FieldType := fun k => match k with
  | 0 => .array .int
  | 1 => .int
  | 2 => .array .boolean
  | 3 => .array .int
  | 4 => .int
  | 5 => .int
  | 6 => .int
  | 7 => .int
  | 8 => .boolean
  | 9 => .int
  | 10 => .int
  | 11 => .boolean
  | 12 => .int
  | 13 => .boolean
  | 14 => .int
  | 15 => .boolean
  | 16 => .int
  | 17 => .array .int
  | 18 => .array .int
  | 19 => .int
  | 20 => .array .boolean
  | 21 => .boolean
  | 22 => .array .long
  | 23 => .array .long
  | 24 => .array .int
  | 25 => .array .int
  | 26 => .array .int
  | 27 => .array .int
  | 28 => .array .int
  | 29 => .array .int
  | 30 => .array .int
  | 31 => .array .int
  | 32 => .array .int
  | 33 => .array .long
  | 34 => .array .long
  | 35 => .int
  | 36 => .array .int
  | 37 => .array .boolean
  | 38 => .long
  | 39 => .boolean
  | 40 => .array .long
  | _ => .array .int
theorem mY_10_ok : ∀ k, k < 42 → parseFieldDescriptor (mT_10 k).2.2.1 = some (mY_10 k) := by decide +kernel
theorem mN_10_ok : ∀ a, a < 42 → ∀ b, b < 42 → a ≠ b → (mT_10 a).2.1 ≠ (mT_10 b).2.1 := by decide +kernel
abbrev mCl : List vw_C := [(mR_0, mT_0, 11), (mR_1, mT_1, 5), (mR_2, mT_2, 12), (mR_3, mT_3, 2), (mR_4, mT_4, 3), (mR_5, mT_5, 6), (mR_6, mT_6, 15), (mR_7, mT_7, 8), (mR_8, mT_8, 2), (mR_9, mT_9, 7), (mR_10, mT_10, 42)]
/-- kinds of the fields: 0 int, 1 long, 2 reference, 3 boolean -/
def mFT : List (List Nat) := [[0, 0, 0, 0, 0, 0, 0, 0, 0, 0, 3], [2, 2, 0, 0, 2], [2, 2, 2, 2, 2, 2, 2, 2, 2, 2, 3, 3], [2, 2], [2, 0, 0], [2, 2, 2, 2, 2, 0], [2, 0, 2, 3, 3, 0, 0, 0, 0, 0, 0, 3, 3, 3, 0], [2, 0, 2, 2, 0, 1, 2, 2], [2, 0], [2, 0, 0, 0, 0, 0, 0], [2, 0, 2, 2, 0, 0, 0, 0, 3, 0, 0, 3, 0, 3, 0, 3, 0, 2, 2, 0, 2, 3, 2, 2, 2, 2, 2, 2, 2, 2, 2, 2, 2, 2, 2, 0, 2, 2, 1, 3, 2, 2]]
def mCN : List String := ["LeastCurves$Edge", "LeastCurves$Meetings", "LeastCurves", "LeastCurves$Pair", "LeastCurves$Past", "LeastCurves$Points", "LeastCurves$Reader", "LeastCurves$Shape", "LeastCurves$Terms", "LeastCurves$Text", "LeastCurvesModel", "LeastCurves$Places", "LeastCurvesLaw", "java/lang/Math", "java/lang/Integer", "java/lang/Long"]
/-- field links: class, entry, class and place of the field -/
def mFL : List (Nat × Nat × Nat × Nat) := [(0, 9, 0, 0), (0, 15, 0, 1), (0, 18, 0, 2), (0, 21, 0, 3), (0, 25, 0, 4), (0, 28, 0, 5), (0, 31, 0, 6), (0, 34, 0, 7), (0, 37, 0, 8), (0, 40, 0, 9), (0, 43, 0, 10), (1, 9, 1, 2), (1, 15, 1, 3), (1, 23, 1, 4), (1, 27, 1, 0), (1, 31, 1, 1), (1, 34, 7, 0), (1, 40, 8, 1), (1, 48, 7, 4), (1, 51, 7, 3), (1, 68, 0, 2), (1, 71, 0, 0), (1, 92, 5, 5), (1, 99, 7, 2), (2, 10, 2, 0), (2, 21, 2, 1), (2, 28, 2, 2), (2, 35, 2, 3), (2, 42, 2, 4), (2, 46, 2, 5), (2, 49, 2, 6), (2, 54, 3, 0), (2, 60, 2, 7), (2, 64, 3, 1), (2, 67, 2, 8), (2, 75, 2, 9), (2, 79, 2, 10), (2, 83, 2, 11), (2, 91, 9, 1), (2, 102, 6, 3), (2, 105, 6, 2), (2, 111, 6, 4), (2, 117, 6, 5), (2, 182, 4, 2), (2, 194, 7, 2), (2, 198, 5, 5), (2, 214, 7, 4), (2, 217, 7, 3), (2, 265, 1, 4), (3, 10, 3, 0), (3, 16, 3, 1), (4, 11, 4, 0), (4, 17, 4, 1), (4, 21, 4, 2), (5, 7, 5, 5), (5, 19, 5, 0), (5, 23, 5, 1), (5, 26, 5, 2), (5, 29, 5, 3), (5, 32, 5, 4), (6, 11, 6, 1), (6, 18, 6, 2), (6, 22, 6, 3), (6, 26, 6, 4), (6, 29, 6, 5), (6, 32, 6, 6), (6, 35, 6, 7), (6, 38, 6, 8), (6, 41, 6, 9), (6, 44, 6, 10), (6, 47, 6, 11), (6, 50, 6, 12), (6, 53, 6, 13), (6, 56, 6, 14), (6, 59, 6, 0), (6, 74, 9, 3), (6, 81, 9, 4), (6, 85, 9, 1), (6, 94, 9, 5), (6, 95, 9, 6), (7, 9, 7, 1), (7, 20, 7, 2), (7, 26, 7, 3), (7, 30, 7, 4), (7, 33, 7, 5), (7, 37, 7, 6), (7, 41, 7, 7), (7, 45, 7, 0), (7, 50, 8, 1), (7, 106, 5, 5), (7, 124, 0, 4), (7, 139, 0, 2), (7, 142, 0, 0), (7, 145, 0, 1), (7, 148, 0, 9), (7, 162, 0, 10), (7, 169, 0, 5), (7, 178, 0, 3), (7, 210, 0, 8), (7, 237, 0, 6), (7, 240, 0, 7), (8, 9, 8, 0), (8, 15, 8, 1), (9, 9, 9, 0), (9, 15, 9, 1), (9, 19, 9, 2), (9, 22, 9, 3), (9, 25, 9, 4), (9, 28, 9, 5), (9, 31, 9, 6), (10, 7, 10, 0), (10, 13, 10, 2), (10, 17, 10, 3), (10, 20, 10, 17), (10, 23, 10, 18), (10, 26, 10, 20), (10, 29, 10, 22), (10, 33, 10, 23), (10, 36, 10, 24), (10, 39, 10, 25), (10, 42, 10, 26), (10, 45, 10, 27), (10, 48, 10, 28), (10, 51, 10, 29), (10, 54, 10, 30), (10, 57, 10, 31), (10, 60, 10, 32), (10, 63, 10, 33), (10, 66, 10, 34), (10, 69, 10, 36), (10, 72, 10, 37), (10, 75, 10, 40), (10, 78, 10, 41), (10, 98, 10, 4), (10, 107, 10, 6), (10, 110, 10, 5), (10, 120, 10, 13), (10, 124, 10, 14), (10, 127, 10, 15), (10, 130, 10, 12), (10, 136, 10, 16), (10, 139, 10, 7), (10, 142, 10, 11), (10, 149, 10, 10), (10, 162, 10, 8), (10, 165, 10, 9), (10, 180, 10, 1), (10, 183, 10, 21), (10, 215, 10, 19), (10, 275, 10, 35), (10, 369, 10, 39), (10, 372, 10, 38)]
def mML : List (Nat × Nat × Nat) := [(0, 47, 83), (0, 51, 84), (0, 54, 78), (0, 60, 85), (0, 63, 91), (0, 67, 92), (0, 72, 79), (1, 20, 8), (1, 45, 70), (1, 55, 127), (1, 59, 83), (1, 65, 84), (1, 74, 73), (1, 78, 47), (1, 82, 99), (1, 88, 74), (1, 95, 86), (1, 102, 129), (1, 106, 128), (2, 18, 2), (2, 34, 4), (2, 41, 6), (2, 57, 7), (2, 72, 11), (2, 87, 13), (2, 96, 16), (2, 108, 34), (2, 114, 35), (2, 120, 37), (2, 124, 38), (2, 130, 24), (2, 134, 31), (2, 138, 40), (2, 141, 41), (2, 144, 44), (2, 148, 47), (2, 151, 49), (2, 155, 32), (2, 159, 30), (2, 162, 53), (2, 166, 54), (2, 170, 56), (2, 174, 58), (2, 178, 60), (2, 184, 62), (2, 187, 50), (2, 189, 64), (2, 190, 67), (2, 201, 92), (2, 205, 86), (2, 208, 98), (2, 211, 101), (2, 221, 104), (2, 232, 106), (2, 235, 107), (2, 240, 110), (2, 244, 112), (2, 248, 114), (2, 251, 120), (2, 255, 122), (2, 258, 123), (2, 261, 125), (2, 268, 128), (2, 271, 132), (2, 274, 133), (2, 277, 134), (2, 280, 136), (2, 283, 137), (2, 286, 138), (2, 289, 139), (2, 292, 140), (2, 295, 142), (2, 298, 42), (2, 301, 99), (2, 304, 143), (2, 307, 144), (2, 311, 68), (2, 314, 126), (3, 9, 4), (3, 19, 34), (3, 23, 41), (4, 25, 50), (4, 29, 46), (5, 13, 9), (5, 35, 75), (5, 39, 77), (5, 43, 78), (5, 48, 76), (5, 53, 92), (5, 56, 130), (6, 63, 17), (6, 68, 18), (6, 71, 19), (6, 77, 22), (6, 88, 23), (6, 91, 25), (6, 98, 27), (6, 101, 26), (6, 105, 28), (6, 108, 24), (6, 112, 5), (6, 117, 29), (7, 17, 8), (7, 55, 69), (7, 58, 80), (7, 61, 94), (7, 64, 95), (7, 67, 70), (7, 70, 30), (7, 74, 71), (7, 78, 72), (7, 84, 31), (7, 88, 73), (7, 92, 47), (7, 95, 74), (7, 99, 81), (7, 103, 82), (7, 109, 86), (7, 112, 87), (7, 116, 89), (7, 120, 90), (7, 128, 93), (7, 132, 83), (7, 136, 84), (7, 151, 91), (7, 155, 78), (7, 159, 96), (7, 166, 97), (7, 172, 102), (7, 175, 135), (7, 181, 9), (7, 186, 98), (7, 189, 138), (7, 192, 108), (7, 195, 107), (7, 198, 41), (7, 200, 109), (7, 203, 106), (7, 206, 111), (7, 215, 121), (7, 219, 122), (7, 223, 123), (7, 226, 145), (7, 230, 146), (7, 233, 147), (7, 243, 130), (8, 19, 5), (8, 23, 31), (8, 27, 30), (8, 31, 32), (8, 35, 42), (8, 39, 43), (8, 44, 9), (8, 50, 45), (8, 54, 46), (8, 57, 34), (8, 61, 29), (8, 64, 38), (8, 70, 115), (8, 74, 118), (8, 77, 72), (8, 80, 116), (8, 83, 117), (9, 34, 20), (9, 38, 21), (10, 81, 150), (10, 91, 167), (10, 113, 155), (10, 117, 157), (10, 133, 154), (10, 145, 160), (10, 152, 161), (10, 155, 159), (10, 159, 162), (10, 168, 158), (10, 171, 156), (10, 174, 153), (10, 186, 165), (10, 190, 166), (10, 199, 169), (10, 203, 170), (10, 207, 172), (10, 211, 171), (10, 218, 190), (10, 222, 201), (10, 226, 202), (10, 230, 200), (10, 233, 198), (10, 237, 206), (10, 240, 207), (10, 243, 192), (10, 249, 191), (10, 253, 189), (10, 257, 197), (10, 260, 195), (10, 264, 196), (10, 268, 194), (10, 271, 199), (10, 278, 205), (10, 281, 204), (10, 285, 208), (10, 288, 188), (10, 291, 193), (10, 294, 203), (10, 297, 210), (10, 301, 176), (10, 304, 174), (10, 307, 175), (10, 314, 180), (10, 317, 187), (10, 320, 209), (10, 323, 211), (10, 326, 212), (10, 329, 215), (10, 332, 214), (10, 335, 216), (10, 339, 217), (10, 342, 221), (10, 345, 220), (10, 356, 219), (10, 359, 222), (10, 366, 223), (10, 376, 226), (10, 380, 225), (10, 385, 229), (10, 389, 228), (10, 392, 231), (10, 395, 232), (10, 398, 234), (10, 401, 235), (10, 404, 236), (10, 407, 237), (10, 410, 238), (10, 413, 239), (10, 416, 240), (10, 419, 246), (10, 422, 242), (10, 425, 243), (10, 428, 244), (10, 431, 245), (11, 9, 88), (11, 15, 72), (11, 19, 46), (11, 25, 9), (11, 28, 87), (11, 32, 100), (11, 35, 99), (11, 38, 79), (12, 9, 0), (12, 12, 148), (12, 13, 12), (12, 17, 149), (12, 18, 14), (12, 22, 151), (12, 23, 15), (12, 26, 152), (12, 27, 33), (12, 30, 163), (12, 31, 36), (12, 35, 164), (12, 36, 39), (12, 40, 168), (12, 41, 48), (12, 45, 173), (12, 46, 51), (12, 49, 177), (12, 50, 52), (12, 53, 178), (12, 54, 55), (12, 57, 179), (12, 58, 57), (12, 61, 181), (12, 62, 59), (12, 65, 182), (12, 66, 61), (12, 69, 183), (12, 70, 63), (12, 73, 184), (12, 74, 65), (12, 77, 185), (12, 78, 66), (12, 81, 186), (12, 82, 103), (12, 85, 213), (12, 86, 105), (12, 90, 218), (12, 91, 113), (12, 94, 224), (12, 95, 119), (12, 98, 227), (12, 99, 124), (12, 103, 230), (12, 104, 131), (12, 107, 233), (12, 108, 141), (12, 111, 241)]
def mNL : List (Nat × Nat × Nat) := [(2, 9, 1), (2, 27, 3), (4, 24, 3), (6, 17, 3), (7, 49, 10)]
def mOL : List (Nat × Nat) := [(2, 1), (0, 3), (1, 3), (3, 1), (4, 3), (5, 1), (6, 3), (7, 3), (8, 3), (9, 3), (10, 1)]
def mCK : List (Nat × Nat × Nat) := [(2, 7, 9), (2, 16, 6), (2, 25, 3), (2, 32, 8), (2, 39, 4), (2, 52, 7), (2, 70, 1), (1, 18, 5), (3, 7, 8), (4, 9, 3), (6, 15, 3), (7, 15, 5), (7, 24, 0), (12, 7, 2), (12, 10, 10)]
def mKI : List (Nat × Nat × Int) := [(2, 86, -1000002), (2, 95, -1000004), (2, 100, -1000000), (2, 101, -1000003), (2, 123, -1000001), (0, 24, -1000000), (6, 84, -1000000), (7, 127, -1000000), (8, 22, -1000000), (10, 97, -1000002), (10, 102, -1000004), (10, 178, -1000000), (10, 179, -1000003), (10, 189, -1000001), (14, 265, 1431655765), (14, 266, 858993459), (14, 267, 252645135)]
def mKL : List (Nat × Nat × Int) := [(2, 226, -1000001), (2, 228, -1000002), (2, 230, -1000003), (2, 238, -1000000), (7, 213, -1), (10, 85, 4), (10, 87, -999), (10, 89, 999), (10, 95, 255), (10, 103, 48), (10, 105, 57), (10, 193, -9999), (10, 195, 9999), (10, 197, 60), (10, 247, 720720), (10, 310, -99), (10, 312, 99), (10, 348, -1000001), (10, 350, 3), (10, 352, -1000002), (10, 354, -1000003), (10, 362, 2), (10, 364, -1000000), (10, 383, -1)]
