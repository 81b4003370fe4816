def T0 : u_T := fun k => match k with
  | 0 => ("SeesawPark$Contest", "weights", "[I", true)
  | 1 => ("SeesawPark$Contest", "steps", "[I", true)
  | 2 => ("SeesawPark$Contest", "children", "I", false)
  | 3 => ("SeesawPark$Contest", "seats", "I", false)
  | _ => ("SeesawPark$Contest", "slack", "I", false)
def ty0 : Nat → FieldType := fun k => match k with
  | 0 => .array .int
  | 1 => .array .int
  | 2 => .int
  | 3 => .int
  | _ => .int
theorem nm0 : ∀ a, a < 5 → ∀ b, b < 5 → a ≠ b → (T0 a).2.1 ≠ (T0 b).2.1 := by decide +kernel
theorem tyok0 : ∀ k, k < 5 → parseFieldDescriptor (T0 k).2.2.1 = some (ty0 k) := by decide +kernel
def T1 : u_T := fun k => match k with
  | _ => ("SeesawPark$Crowd", "rows", "[J", true)
def ty1 : Nat → FieldType := fun k => match k with
  | _ => .array .long
theorem nm1 : ∀ a, a < 1 → ∀ b, b < 1 → a ≠ b → (T1 a).2.1 ≠ (T1 b).2.1 := by decide +kernel
theorem tyok1 : ∀ k, k < 1 → parseFieldDescriptor (T1 k).2.2.1 = some (ty1 k) := by decide +kernel
def T2 : u_T := fun k => match k with
  | 0 => ("SeesawPark$Queue", "roster", "LSeesawPark$Roster;", true)
  | 1 => ("SeesawPark$Queue", "ridden", "[I", true)
  | 2 => ("SeesawPark$Queue", "row", "[I", true)
  | 3 => ("SeesawPark$Queue", "rider", "[I", true)
  | 4 => ("SeesawPark$Queue", "partner", "[I", true)
  | _ => ("SeesawPark$Queue", "waiting", "I", false)
def ty2 : Nat → FieldType := fun k => match k with
  | 0 => .object "SeesawPark$Roster"
  | 1 => .array .int
  | 2 => .array .int
  | 3 => .array .int
  | 4 => .array .int
  | _ => .int
theorem nm2 : ∀ a, a < 6 → ∀ b, b < 6 → a ≠ b → (T2 a).2.1 ≠ (T2 b).2.1 := by decide +kernel
theorem tyok2 : ∀ k, k < 6 → parseFieldDescriptor (T2 k).2.2.1 = some (ty2 k) := by decide +kernel
def T3 : u_T := fun k => match k with
  | 0 => ("SeesawPark$Roster", "half", "[I", true)
  | 1 => ("SeesawPark$Roster", "slack", "[I", true)
  | 2 => ("SeesawPark$Roster", "weight", "[I", true)
  | 3 => ("SeesawPark$Roster", "wish", "[I", true)
  | 4 => ("SeesawPark$Roster", "stoneWeight", "[I", true)
  | 5 => ("SeesawPark$Roster", "planks", "I", false)
  | 6 => ("SeesawPark$Roster", "children", "I", false)
  | _ => ("SeesawPark$Roster", "stones", "I", false)
def ty3 : Nat → FieldType := fun k => match k with
  | 0 => .array .int
  | 1 => .array .int
  | 2 => .array .int
  | 3 => .array .int
  | 4 => .array .int
  | 5 => .int
  | 6 => .int
  | _ => .int
theorem nm3 : ∀ a, a < 8 → ∀ b, b < 8 → a ≠ b → (T3 a).2.1 ≠ (T3 b).2.1 := by decide +kernel
theorem tyok3 : ∀ k, k < 8 → parseFieldDescriptor (T3 k).2.2.1 = some (ty3 k) := by decide +kernel
def T4 : u_T := fun k => match k with
  | 0 => ("SeesawPark$Scene", "roster", "LSeesawPark$Roster;", true)
  | 1 => ("SeesawPark$Scene", "childPlank", "[I", true)
  | 2 => ("SeesawPark$Scene", "childStep", "[I", true)
  | 3 => ("SeesawPark$Scene", "bumped", "[I", true)
  | 4 => ("SeesawPark$Scene", "stonePlank", "[I", true)
  | 5 => ("SeesawPark$Scene", "stoneStep", "[I", true)
  | _ => ("SeesawPark$Scene", "filled", "Z", false)
def ty4 : Nat → FieldType := fun k => match k with
  | 0 => .object "SeesawPark$Roster"
  | 1 => .array .int
  | 2 => .array .int
  | 3 => .array .int
  | 4 => .array .int
  | 5 => .array .int
  | _ => .boolean
theorem nm4 : ∀ a, a < 7 → ∀ b, b < 7 → a ≠ b → (T4 a).2.1 ≠ (T4 b).2.1 := by decide +kernel
theorem tyok4 : ∀ k, k < 7 → parseFieldDescriptor (T4 k).2.2.1 = some (ty4 k) := by decide +kernel
def T5 : u_T := fun k => match k with
  | 0 => ("SeesawPark$Seating", "steps", "[I", true)
  | 1 => ("SeesawPark$Seating", "weights", "[I", true)
  | 2 => ("SeesawPark$Seating", "now", "[I", true)
  | 3 => ("SeesawPark$Seating", "chosen", "[I", true)
  | 4 => ("SeesawPark$Seating", "reach", "[I", true)
  | 5 => ("SeesawPark$Seating", "seats", "I", false)
  | 6 => ("SeesawPark$Seating", "bodies", "I", false)
  | 7 => ("SeesawPark$Seating", "startMoment", "I", false)
  | 8 => ("SeesawPark$Seating", "slack", "I", false)
  | _ => ("SeesawPark$Seating", "fewest", "I", false)
def ty5 : Nat → FieldType := fun k => match k with
  | 0 => .array .int
  | 1 => .array .int
  | 2 => .array .int
  | 3 => .array .int
  | 4 => .array .int
  | 5 => .int
  | 6 => .int
  | 7 => .int
  | 8 => .int
  | _ => .int
theorem nm5 : ∀ a, a < 10 → ∀ b, b < 10 → a ≠ b → (T5 a).2.1 ≠ (T5 b).2.1 := by decide +kernel
theorem tyok5 : ∀ k, k < 10 → parseFieldDescriptor (T5 k).2.2.1 = some (ty5 k) := by decide +kernel
def T6 : u_T := fun k => match k with
  | 0 => ("SeesawPark$Told", "draft", "LSeesawPark$Roster;", true)
  | 1 => ("SeesawPark$Told", "bytes", "[I", true)
  | 2 => ("SeesawPark$Told", "length", "I", false)
  | 3 => ("SeesawPark$Told", "tokenStart", "I", false)
  | 4 => ("SeesawPark$Told", "place", "I", false)
  | 5 => ("SeesawPark$Told", "token", "I", false)
  | _ => ("SeesawPark$Told", "value", "I", false)
def ty6 : Nat → FieldType := fun k => match k with
  | 0 => .object "SeesawPark$Roster"
  | 1 => .array .int
  | 2 => .int
  | 3 => .int
  | 4 => .int
  | 5 => .int
  | _ => .int
theorem nm6 : ∀ a, a < 7 → ∀ b, b < 7 → a ≠ b → (T6 a).2.1 ≠ (T6 b).2.1 := by decide +kernel
theorem tyok6 : ∀ k, k < 7 → parseFieldDescriptor (T6 k).2.2.1 = some (ty6 k) := by decide +kernel
def T7 : u_T := fun k => match k with
  | 0 => ("SeesawPark$Weighing", "first", "[I", true)
  | 1 => ("SeesawPark$Weighing", "second", "[I", true)
  | 2 => ("SeesawPark$Weighing", "outcome", "[I", true)
  | 3 => ("SeesawPark$Weighing", "guess", "[I", true)
  | 4 => ("SeesawPark$Weighing", "byWeight", "[I", true)
  | 5 => ("SeesawPark$Weighing", "byOutcome", "[I", true)
  | 6 => ("SeesawPark$Weighing", "strangers", "I", false)
  | 7 => ("SeesawPark$Weighing", "trials", "I", false)
  | 8 => ("SeesawPark$Weighing", "total", "I", false)
  | _ => ("SeesawPark$Weighing", "surveyed", "Z", false)
def ty7 : Nat → FieldType := fun k => match k with
  | 0 => .array .int
  | 1 => .array .int
  | 2 => .array .int
  | 3 => .array .int
  | 4 => .array .int
  | 5 => .array .int
  | 6 => .int
  | 7 => .int
  | 8 => .int
  | _ => .boolean
theorem nm7 : ∀ a, a < 10 → ∀ b, b < 10 → a ≠ b → (T7 a).2.1 ≠ (T7 b).2.1 := by decide +kernel
theorem tyok7 : ∀ k, k < 10 → parseFieldDescriptor (T7 k).2.2.1 = some (ty7 k) := by decide +kernel
def T8 : u_T := fun k => match k with
  | 0 => ("SeesawPark", "roster", "LSeesawPark$Roster;", true)
  | 1 => ("SeesawPark", "scene", "LSeesawPark$Scene;", true)
  | 2 => ("SeesawPark", "imageZero", "LSeesawPark$Scene;", true)
  | 3 => ("SeesawPark", "imageOne", "LSeesawPark$Scene;", true)
  | 4 => ("SeesawPark", "told", "LSeesawPark$Told;", true)
  | 5 => ("SeesawPark", "seating", "LSeesawPark$Seating;", true)
  | 6 => ("SeesawPark", "crowd", "LSeesawPark$Crowd;", true)
  | 7 => ("SeesawPark", "contest", "LSeesawPark$Contest;", true)
  | 8 => ("SeesawPark", "weighing", "LSeesawPark$Weighing;", true)
  | 9 => ("SeesawPark", "queue", "LSeesawPark$Queue;", true)
  | _ => ("SeesawPark", "marks", "J", false)
def ty8 : Nat → FieldType := fun k => match k with
  | 0 => .object "SeesawPark$Roster"
  | 1 => .object "SeesawPark$Scene"
  | 2 => .object "SeesawPark$Scene"
  | 3 => .object "SeesawPark$Scene"
  | 4 => .object "SeesawPark$Told"
  | 5 => .object "SeesawPark$Seating"
  | 6 => .object "SeesawPark$Crowd"
  | 7 => .object "SeesawPark$Contest"
  | 8 => .object "SeesawPark$Weighing"
  | 9 => .object "SeesawPark$Queue"
  | _ => .long
theorem nm8 : ∀ a, a < 11 → ∀ b, b < 11 → a ≠ b → (T8 a).2.1 ≠ (T8 b).2.1 := by decide +kernel
theorem tyok8 : ∀ k, k < 11 → parseFieldDescriptor (T8 k).2.2.1 = some (ty8 k) := by decide +kernel
def T9 : u_T := fun k => match k with
  | 0 => ("SeesawParkModel", "thrown", "I", false)
  | 1 => ("SeesawParkModel", "trace", "J", false)
  | 2 => ("SeesawParkModel", "text", "[I", true)
  | 3 => ("SeesawParkModel", "typed", "I", false)
  | 4 => ("SeesawParkModel", "next", "I", false)
  | 5 => ("SeesawParkModel", "token", "I", false)
  | 6 => ("SeesawParkModel", "place", "I", false)
  | 7 => ("SeesawParkModel", "value", "I", false)
  | 8 => ("SeesawParkModel", "fault", "I", false)
  | 9 => ("SeesawParkModel", "half", "[I", true)
  | 10 => ("SeesawParkModel", "slack", "[I", true)
  | 11 => ("SeesawParkModel", "weight", "[I", true)
  | 12 => ("SeesawParkModel", "wish", "[I", true)
  | 13 => ("SeesawParkModel", "stone", "[I", true)
  | 14 => ("SeesawParkModel", "planks", "I", false)
  | 15 => ("SeesawParkModel", "children", "I", false)
  | 16 => ("SeesawParkModel", "stones", "I", false)
  | 17 => ("SeesawParkModel", "draftPlanks", "I", false)
  | 18 => ("SeesawParkModel", "draftChildren", "I", false)
  | 19 => ("SeesawParkModel", "draftStones", "I", false)
  | 20 => ("SeesawParkModel", "s", "[I", true)
  | 21 => ("SeesawParkModel", "kept", "[I", true)
  | 22 => ("SeesawParkModel", "isKept", "[Z", true)
  | 23 => ("SeesawParkModel", "who", "[I", true)
  | 24 => ("SeesawParkModel", "many", "I", false)
  | 25 => ("SeesawParkModel", "seat", "[I", true)
  | 26 => ("SeesawParkModel", "first", "[I", true)
  | 27 => ("SeesawParkModel", "strangers", "I", false)
  | 28 => ("SeesawParkModel", "tried", "[I", true)
  | 29 => ("SeesawParkModel", "trials", "I", false)
  | 30 => ("SeesawParkModel", "rode", "[I", true)
  | 31 => ("SeesawParkModel", "row", "[I", true)
  | 32 => ("SeesawParkModel", "waiting", "I", false)
  | 33 => ("SeesawParkModel", "one", "[I", true)
  | 34 => ("SeesawParkModel", "other", "[I", true)
  | _ => ("SeesawParkModel", "until", "[I", true)
def ty9 : Nat → FieldType := fun k => match k with
  | 0 => .int
  | 1 => .long
  | 2 => .array .int
  | 3 => .int
  | 4 => .int
  | 5 => .int
  | 6 => .int
  | 7 => .int
  | 8 => .int
  | 9 => .array .int
  | 10 => .array .int
  | 11 => .array .int
  | 12 => .array .int
  | 13 => .array .int
  | 14 => .int
  | 15 => .int
  | 16 => .int
  | 17 => .int
  | 18 => .int
  | 19 => .int
  | 20 => .array .int
  | 21 => .array .int
  | 22 => .array .boolean
  | 23 => .array .int
  | 24 => .int
  | 25 => .array .int
  | 26 => .array .int
  | 27 => .int
  | 28 => .array .int
  | 29 => .int
  | 30 => .array .int
  | 31 => .array .int
  | 32 => .int
  | 33 => .array .int
  | 34 => .array .int
  | _ => .array .int
theorem nm9 : ∀ a, a < 36 → ∀ b, b < 36 → a ≠ b → (T9 a).2.1 ≠ (T9 b).2.1 := by decide +kernel
theorem tyok9 : ∀ k, k < 36 → parseFieldDescriptor (T9 k).2.2.1 = some (ty9 k) := by decide +kernel
abbrev cls : List vw_C := [("SeesawPark$Contest", T0, 5), ("SeesawPark$Crowd", T1, 1), ("SeesawPark$Queue", T2, 6), ("SeesawPark$Roster", T3, 8), ("SeesawPark$Scene", T4, 7), ("SeesawPark$Seating", T5, 10), ("SeesawPark$Told", T6, 7), ("SeesawPark$Weighing", T7, 10), ("SeesawPark", T8, 11), ("SeesawParkModel", T9, 36)]
def tyc : List (Nat → FieldType) := [ty0, ty1, ty2, ty3, ty4, ty5, ty6, ty7, ty8, ty9]
def cnm : List String := ["SeesawPark$Contest", "SeesawPark$Crowd", "SeesawPark$Queue", "SeesawPark$Roster", "SeesawPark$Scene", "SeesawPark$Seating", "SeesawPark$Told", "SeesawPark$Weighing", "SeesawPark", "SeesawParkModel", "java/lang/Integer", "java/lang/Math", "java/util/Arrays", "java/lang/String", "java/lang/StringLatin1", "jdk/internal/util/Preconditions"]
abbrev Mth : Type := Nat × MethodName × ByteArray × Nat × Option FieldType × Bool × Nat
def m_X0_begin : Mth := (0, ⟨"SeesawPark$Contest", "begin", "(LSeesawPark$Roster;LSeesawPark$Scene;I)V"⟩, prog_2_method_2_code, 7, none, false, 3)
def m_X0_winningMove : Mth := (0, ⟨"SeesawPark$Contest", "winningMove", "(II)I"⟩, prog_2_method_3_code, 3, (some .int), false, 2)
def m_X0_moveFrom : Mth := (0, ⟨"SeesawPark$Contest", "moveFrom", "(IIII)I"⟩, prog_2_method_4_code, 8, (some .int), false, 4)
def m_X1_spread : Mth := (1, ⟨"SeesawPark$Crowd", "spread", "(LSeesawPark$Roster;I)V"⟩, prog_3_method_2_code, 8, none, false, 2)
def m_X1_addSeatOf : Mth := (1, ⟨"SeesawPark$Crowd", "addSeatOf", "(LSeesawPark$Roster;II)V"⟩, prog_3_method_3_code, 5, none, false, 3)
def m_X1_mergeShifted : Mth := (1, ⟨"SeesawPark$Crowd", "mergeShifted", "(III)V"⟩, prog_3_method_4_code, 9, none, false, 3)
def m_X1_wordAt : Mth := (1, ⟨"SeesawPark$Crowd", "wordAt", "(II)J"⟩, prog_3_method_5_code, 3, (some .long), false, 2)
def m_X1_largestLevel : Mth := (1, ⟨"SeesawPark$Crowd", "largestLevel", "(III)I"⟩, prog_3_method_6_code, 6, (some .int), false, 3)
def m_X1_canLevel : Mth := (1, ⟨"SeesawPark$Crowd", "canLevel", "(III)Z"⟩, prog_3_method_7_code, 6, (some .boolean), false, 3)
def m_X2_run : Mth := (2, ⟨"SeesawPark$Queue", "run", "(I)V"⟩, prog_4_method_2_code, 4, none, false, 1)
def m_X2_letOff : Mth := (2, ⟨"SeesawPark$Queue", "letOff", "(I)V"⟩, prog_4_method_3_code, 4, none, false, 1)
def m_X2_wantsMore : Mth := (2, ⟨"SeesawPark$Queue", "wantsMore", "(I)Z"⟩, prog_4_method_4_code, 2, (some .boolean), false, 1)
def m_X2_letOn : Mth := (2, ⟨"SeesawPark$Queue", "letOn", "(I)V"⟩, prog_4_method_5_code, 4, none, false, 1)
def m_X2_rideOn : Mth := (2, ⟨"SeesawPark$Queue", "rideOn", "()V"⟩, prog_4_method_6_code, 2, none, false, 0)
def m_X2_joinRow : Mth := (2, ⟨"SeesawPark$Queue", "joinRow", "(I)V"⟩, prog_4_method_7_code, 2, none, false, 1)
def m_X2_leaveRow : Mth := (2, ⟨"SeesawPark$Queue", "leaveRow", "(I)V"⟩, prog_4_method_8_code, 3, none, false, 1)
def m_X3_forget : Mth := (3, ⟨"SeesawPark$Roster", "forget", "()V"⟩, prog_5_method_2_code, 1, none, false, 0)
def m_X3_copyFrom : Mth := (3, ⟨"SeesawPark$Roster", "copyFrom", "(LSeesawPark$Roster;)V"⟩, prog_5_method_3_code, 2, none, false, 1)
def m_X3_hasPlank : Mth := (3, ⟨"SeesawPark$Roster", "hasPlank", "(I)Z"⟩, prog_5_method_4_code, 2, (some .boolean), false, 1)
def m_X3_hasChild : Mth := (3, ⟨"SeesawPark$Roster", "hasChild", "(I)Z"⟩, prog_5_method_5_code, 2, (some .boolean), false, 1)
def m_X3_hasStone : Mth := (3, ⟨"SeesawPark$Roster", "hasStone", "(I)Z"⟩, prog_5_method_6_code, 2, (some .boolean), false, 1)
def m_X3_hasSeat : Mth := (3, ⟨"SeesawPark$Roster", "hasSeat", "(II)Z"⟩, prog_5_method_7_code, 3, (some .boolean), false, 2)
def m_X3_allChildren : Mth := (3, ⟨"SeesawPark$Roster", "allChildren", "()I"⟩, prog_5_method_8_code, 1, (some .int), false, 0)
def m_X3_fits : Mth := (3, ⟨"SeesawPark$Roster", "fits", "(III)Z"⟩, prog_5_method_9_code, 4, (some .boolean), false, 3)
def m_X4_reset : Mth := (4, ⟨"SeesawPark$Scene", "reset", "()V"⟩, prog_6_method_2_code, 2, none, false, 0)
def m_X4_copyFrom : Mth := (4, ⟨"SeesawPark$Scene", "copyFrom", "(LSeesawPark$Scene;)V"⟩, prog_6_method_3_code, 2, none, false, 1)
def m_X4_hasChildAt : Mth := (4, ⟨"SeesawPark$Scene", "hasChildAt", "(II)Z"⟩, prog_6_method_4_code, 4, (some .boolean), false, 2)
def m_X4_hasStoneAt : Mth := (4, ⟨"SeesawPark$Scene", "hasStoneAt", "(II)Z"⟩, prog_6_method_5_code, 4, (some .boolean), false, 2)
def m_X4_childrenOn : Mth := (4, ⟨"SeesawPark$Scene", "childrenOn", "(I)I"⟩, prog_6_method_6_code, 4, (some .int), false, 1)
def m_X4_idleChildren : Mth := (4, ⟨"SeesawPark$Scene", "idleChildren", "()I"⟩, prog_6_method_7_code, 3, (some .int), false, 0)
def m_X4_idleStones : Mth := (4, ⟨"SeesawPark$Scene", "idleStones", "()I"⟩, prog_6_method_8_code, 3, (some .int), false, 0)
def m_X4_seatedChildren : Mth := (4, ⟨"SeesawPark$Scene", "seatedChildren", "()I"⟩, prog_6_method_9_code, 1, (some .int), false, 0)
def m_X4_stoneMoment : Mth := (4, ⟨"SeesawPark$Scene", "stoneMoment", "(I)I"⟩, prog_6_method_10_code, 4, (some .int), false, 1)
def m_X4_moment : Mth := (4, ⟨"SeesawPark$Scene", "moment", "(I)I"⟩, prog_6_method_11_code, 4, (some .int), false, 1)
def m_X4_tilt : Mth := (4, ⟨"SeesawPark$Scene", "tilt", "(I)I"⟩, prog_6_method_12_code, 3, (some .int), false, 1)
def m_X4_seatChild : Mth := (4, ⟨"SeesawPark$Scene", "seatChild", "(III)I"⟩, prog_6_method_13_code, 5, (some .int), false, 3)
def m_X4_unseatChild : Mth := (4, ⟨"SeesawPark$Scene", "unseatChild", "(I)I"⟩, prog_6_method_14_code, 4, (some .int), false, 1)
def m_X4_putStone : Mth := (4, ⟨"SeesawPark$Scene", "putStone", "(III)I"⟩, prog_6_method_15_code, 5, (some .int), false, 3)
def m_X4_liftStone : Mth := (4, ⟨"SeesawPark$Scene", "liftStone", "(I)I"⟩, prog_6_method_16_code, 4, (some .int), false, 1)
def m_X4_settle : Mth := (4, ⟨"SeesawPark$Scene", "settle", "(II)I"⟩, prog_6_method_17_code, 6, (some .int), false, 2)
def m_X5_begin : Mth := (5, ⟨"SeesawPark$Seating", "begin", "(II)V"⟩, prog_7_method_2_code, 3, none, false, 2)
def m_X5_addSeat : Mth := (5, ⟨"SeesawPark$Seating", "addSeat", "(I)V"⟩, prog_7_method_3_code, 2, none, false, 1)
def m_X5_addBody : Mth := (5, ⟨"SeesawPark$Seating", "addBody", "(II)V"⟩, prog_7_method_4_code, 3, none, false, 2)
def m_X5_chosenStep : Mth := (5, ⟨"SeesawPark$Seating", "chosenStep", "(I)I"⟩, prog_7_method_5_code, 2, (some .int), false, 1)
def m_X5_countWays : Mth := (5, ⟨"SeesawPark$Seating", "countWays", "()I"⟩, prog_7_method_6_code, 1, (some .int), false, 0)
def m_X5_findFirst : Mth := (5, ⟨"SeesawPark$Seating", "findFirst", "()Z"⟩, prog_7_method_7_code, 1, (some .boolean), false, 0)
def m_X5_fewestChanges : Mth := (5, ⟨"SeesawPark$Seating", "fewestChanges", "()I"⟩, prog_7_method_8_code, 1, (some .int), false, 0)
def m_X5_measureReach : Mth := (5, ⟨"SeesawPark$Seating", "measureReach", "()V"⟩, prog_7_method_9_code, 2, none, false, 0)
def m_X5_isHopeless : Mth := (5, ⟨"SeesawPark$Seating", "isHopeless", "(II)Z"⟩, prog_7_method_10_code, 3, (some .boolean), false, 2)
def m_X5_countFrom : Mth := (5, ⟨"SeesawPark$Seating", "countFrom", "(III)I"⟩, prog_7_method_11_code, 6, (some .int), false, 3)
def m_X5_findFrom : Mth := (5, ⟨"SeesawPark$Seating", "findFrom", "(III)Z"⟩, prog_7_method_12_code, 5, (some .boolean), false, 3)
def m_X5_changeFrom : Mth := (5, ⟨"SeesawPark$Seating", "changeFrom", "(IIII)V"⟩, prog_7_method_13_code, 7, none, false, 4)
def m_X6_append : Mth := (6, ⟨"SeesawPark$Told", "append", "(I)V"⟩, prog_8_method_2_code, 2, none, false, 1)
def m_X6_readAll : Mth := (6, ⟨"SeesawPark$Told", "readAll", "()I"⟩, prog_8_method_3_code, 3, (some .int), false, 0)
def m_X6_readPlank : Mth := (6, ⟨"SeesawPark$Told", "readPlank", "()Z"⟩, prog_8_method_4_code, 2, (some .boolean), false, 0)
def m_X6_readChild : Mth := (6, ⟨"SeesawPark$Told", "readChild", "()Z"⟩, prog_8_method_5_code, 2, (some .boolean), false, 0)
def m_X6_readStone : Mth := (6, ⟨"SeesawPark$Told", "readStone", "()Z"⟩, prog_8_method_6_code, 2, (some .boolean), false, 0)
def m_X6_readNumber : Mth := (6, ⟨"SeesawPark$Told", "readNumber", "(II)Z"⟩, prog_8_method_7_code, 3, (some .boolean), false, 2)
def m_X6_readSemicolon : Mth := (6, ⟨"SeesawPark$Told", "readSemicolon", "()Z"⟩, prog_8_method_8_code, 1, (some .boolean), false, 0)
def m_X6_readToken : Mth := (6, ⟨"SeesawPark$Told", "readToken", "()V"⟩, prog_8_method_9_code, 2, none, false, 0)
def m_X6_readWord : Mth := (6, ⟨"SeesawPark$Told", "readWord", "()V"⟩, prog_8_method_10_code, 1, none, false, 0)
def m_X6_spells : Mth := (6, ⟨"SeesawPark$Told", "spells", "(Ljava/lang/String;)Z"⟩, prog_8_method_11_code, 3, (some .boolean), false, 1)
def m_X6_readDigits : Mth := (6, ⟨"SeesawPark$Told", "readDigits", "()V"⟩, prog_8_method_12_code, 2, none, false, 0)
def m_X6_isLetter : Mth := (6, ⟨"SeesawPark$Told", "isLetter", "(I)Z"⟩, prog_8_method_13_code, 1, (some .boolean), true, 1)
def m_X6_isDigit : Mth := (6, ⟨"SeesawPark$Told", "isDigit", "(I)Z"⟩, prog_8_method_14_code, 1, (some .boolean), true, 1)
def m_X7_begin : Mth := (7, ⟨"SeesawPark$Weighing", "begin", "(I)V"⟩, prog_9_method_2_code, 2, none, false, 1)
def m_X7_hasStranger : Mth := (7, ⟨"SeesawPark$Weighing", "hasStranger", "(I)Z"⟩, prog_9_method_3_code, 2, (some .boolean), false, 1)
def m_X7_addTrial : Mth := (7, ⟨"SeesawPark$Weighing", "addTrial", "(III)V"⟩, prog_9_method_4_code, 4, none, false, 3)
def m_X7_fitting : Mth := (7, ⟨"SeesawPark$Weighing", "fitting", "()I"⟩, prog_9_method_5_code, 1, (some .int), false, 0)
def m_X7_fittingWith : Mth := (7, ⟨"SeesawPark$Weighing", "fittingWith", "(II)I"⟩, prog_9_method_6_code, 3, (some .int), false, 2)
def m_X7_onlyWeight : Mth := (7, ⟨"SeesawPark$Weighing", "onlyWeight", "(I)I"⟩, prog_9_method_7_code, 4, (some .int), false, 1)
def m_X7_bestPair : Mth := (7, ⟨"SeesawPark$Weighing", "bestPair", "()I"⟩, prog_9_method_8_code, 4, (some .int), false, 0)
def m_X7_leftAtWorst : Mth := (7, ⟨"SeesawPark$Weighing", "leftAtWorst", "(II)I"⟩, prog_9_method_9_code, 4, (some .int), false, 2)
def m_X7_outcomeCell : Mth := (7, ⟨"SeesawPark$Weighing", "outcomeCell", "(III)I"⟩, prog_9_method_10_code, 3, (some .int), true, 3)
def m_X7_survey : Mth := (7, ⟨"SeesawPark$Weighing", "survey", "()V"⟩, prog_9_method_11_code, 1, none, false, 0)
def m_X7_guessFrom : Mth := (7, ⟨"SeesawPark$Weighing", "guessFrom", "(I)V"⟩, prog_9_method_12_code, 3, none, false, 1)
def m_X7_guessFits : Mth := (7, ⟨"SeesawPark$Weighing", "guessFits", "()Z"⟩, prog_9_method_13_code, 2, (some .boolean), false, 0)
def m_X7_tally : Mth := (7, ⟨"SeesawPark$Weighing", "tally", "()V"⟩, prog_9_method_14_code, 3, none, false, 0)
def m_X8_type : Mth := (8, ⟨"SeesawPark", "type", "(JI)I"⟩, prog_1_method_2_code, 5, (some .int), false, 2)
def m_X8_clear : Mth := (8, ⟨"SeesawPark", "clear", "()I"⟩, prog_1_method_3_code, 2, (some .int), false, 0)
def m_X8_park : Mth := (8, ⟨"SeesawPark", "park", "()I"⟩, prog_1_method_4_code, 2, (some .int), false, 0)
def m_X8_plank : Mth := (8, ⟨"SeesawPark", "plank", "(II)I"⟩, prog_1_method_5_code, 3, (some .int), false, 2)
def m_X8_child : Mth := (8, ⟨"SeesawPark", "child", "(II)I"⟩, prog_1_method_6_code, 3, (some .int), false, 2)
def m_X8_stone : Mth := (8, ⟨"SeesawPark", "stone", "(II)I"⟩, prog_1_method_7_code, 3, (some .int), false, 2)
def m_X8_sits : Mth := (8, ⟨"SeesawPark", "sits", "(III)I"⟩, prog_1_method_8_code, 5, (some .int), false, 3)
def m_X8_leaves : Mth := (8, ⟨"SeesawPark", "leaves", "(I)I"⟩, prog_1_method_9_code, 2, (some .int), false, 1)
def m_X8_lay : Mth := (8, ⟨"SeesawPark", "lay", "(III)I"⟩, prog_1_method_10_code, 5, (some .int), false, 3)
def m_X8_take : Mth := (8, ⟨"SeesawPark", "take", "(I)I"⟩, prog_1_method_11_code, 2, (some .int), false, 1)
def m_X8_ways : Mth := (8, ⟨"SeesawPark", "ways", "(III)I"⟩, prog_1_method_12_code, 5, (some .int), false, 3)
def m_X8_most : Mth := (8, ⟨"SeesawPark", "most", "(II)I"⟩, prog_1_method_13_code, 4, (some .int), false, 2)
def m_X8_moves : Mth := (8, ⟨"SeesawPark", "moves", "(I)I"⟩, prog_1_method_14_code, 3, (some .int), false, 1)
def m_X8_ballast : Mth := (8, ⟨"SeesawPark", "ballast", "(II)I"⟩, prog_1_method_15_code, 3, (some .int), false, 2)
def m_X8_game : Mth := (8, ⟨"SeesawPark", "game", "(II)I"⟩, prog_1_method_16_code, 5, (some .int), false, 2)
def m_X8_strangers : Mth := (8, ⟨"SeesawPark", "strangers", "(I)I"⟩, prog_1_method_17_code, 3, (some .int), false, 1)
def m_X8_trial : Mth := (8, ⟨"SeesawPark", "trial", "(III)I"⟩, prog_1_method_18_code, 4, (some .int), false, 3)
def m_X8_could : Mth := (8, ⟨"SeesawPark", "could", "(II)I"⟩, prog_1_method_19_code, 3, (some .int), false, 2)
def m_X8_sure : Mth := (8, ⟨"SeesawPark", "sure", "(I)I"⟩, prog_1_method_20_code, 3, (some .int), false, 1)
def m_X8_next : Mth := (8, ⟨"SeesawPark", "next", "(I)I"⟩, prog_1_method_21_code, 3, (some .int), false, 1)
def m_X8_rides : Mth := (8, ⟨"SeesawPark", "rides", "(II)I"⟩, prog_1_method_22_code, 3, (some .int), false, 2)
def m_X8_forever : Mth := (8, ⟨"SeesawPark", "forever", "()I"⟩, prog_1_method_23_code, 3, (some .int), false, 0)
def m_X8_rate : Mth := (8, ⟨"SeesawPark", "rate", "(II)I"⟩, prog_1_method_24_code, 3, (some .int), false, 2)
def m_X8_keep : Mth := (8, ⟨"SeesawPark", "keep", "(I)I"⟩, prog_1_method_25_code, 3, (some .int), false, 1)
def m_X8_back : Mth := (8, ⟨"SeesawPark", "back", "(I)I"⟩, prog_1_method_26_code, 3, (some .int), false, 1)
def m_X8_count : Mth := (8, ⟨"SeesawPark", "count", "(I)I"⟩, prog_1_method_27_code, 2, (some .int), false, 1)
def m_X8_trace : Mth := (8, ⟨"SeesawPark", "trace", "()J"⟩, prog_1_method_28_code, 1, (some .long), false, 0)
def m_X8_isZeroOrOne : Mth := (8, ⟨"SeesawPark", "isZeroOrOne", "(I)Z"⟩, prog_1_method_29_code, 1, (some .boolean), true, 1)
def m_X8_stepOfSeat : Mth := (8, ⟨"SeesawPark", "stepOfSeat", "(II)I"⟩, prog_1_method_30_code, 2, (some .int), true, 2)
def m_X8_countOrSet : Mth := (8, ⟨"SeesawPark", "countOrSet", "(II)I"⟩, prog_1_method_31_code, 2, (some .int), true, 2)
def m_X8_imageOf : Mth := (8, ⟨"SeesawPark", "imageOf", "(I)LSeesawPark$Scene;"⟩, prog_1_method_32_code, 2, (some (.object "SeesawPark$Scene")), false, 1)
def m_X8_askWays : Mth := (8, ⟨"SeesawPark", "askWays", "(II)V"⟩, prog_1_method_33_code, 5, none, false, 2)
def m_X8_leastBallast : Mth := (8, ⟨"SeesawPark", "leastBallast", "(I)I"⟩, prog_1_method_34_code, 5, (some .int), false, 1)
def m_X8_canBallast : Mth := (8, ⟨"SeesawPark", "canBallast", "(II)Z"⟩, prog_1_method_35_code, 6, (some .boolean), false, 2)
def m_X8_hasPartner : Mth := (8, ⟨"SeesawPark", "hasPartner", "(I)Z"⟩, prog_1_method_36_code, 4, (some .boolean), false, 1)
def m_X8_rateAs : Mth := (8, ⟨"SeesawPark", "rateAs", "(III)I"⟩, prog_1_method_37_code, 5, (some .int), false, 3)
def m_X9_in : Mth := (9, ⟨"SeesawParkModel", "in", "(III)Z"⟩, prog_11_method_3_code, 3, (some .boolean), true, 3)
def m_X9_size : Mth := (9, ⟨"SeesawParkModel", "size", "(I)I"⟩, prog_11_method_4_code, 1, (some .int), true, 1)
def m_X9_type : Mth := (9, ⟨"SeesawParkModel", "type", "(JI)I"⟩, prog_11_method_5_code, 5, (some .int), false, 2)
def m_X9_clear : Mth := (9, ⟨"SeesawParkModel", "clear", "()I"⟩, prog_11_method_6_code, 2, (some .int), false, 0)
def m_X9_byteAt : Mth := (9, ⟨"SeesawParkModel", "byteAt", "(I)I"⟩, prog_11_method_7_code, 2, (some .int), false, 1)
def m_X9_add : Mth := (9, ⟨"SeesawParkModel", "add", "(JI)J"⟩, prog_11_method_8_code, 3, (some .long), true, 2)
def m_X9_named : Mth := (9, ⟨"SeesawParkModel", "named", "(IIIII)J"⟩, prog_11_method_9_code, 5, (some .long), true, 5)
def m_X9_wordOf : Mth := (9, ⟨"SeesawParkModel", "wordOf", "(J)I"⟩, prog_11_method_10_code, 2, (some .int), true, 1)
def m_X9_advances : Mth := (9, ⟨"SeesawParkModel", "advances", "()V"⟩, prog_11_method_11_code, 4, none, false, 0)
def m_X9_isWell : Mth := (9, ⟨"SeesawParkModel", "isWell", "()Z"⟩, prog_11_method_12_code, 1, (some .boolean), false, 0)
def m_X9_takes : Mth := (9, ⟨"SeesawParkModel", "takes", "(Z)I"⟩, prog_11_method_13_code, 3, (some .int), false, 1)
def m_X9_number : Mth := (9, ⟨"SeesawParkModel", "number", "(II)I"⟩, prog_11_method_14_code, 3, (some .int), false, 2)
def m_X9_readsItem : Mth := (9, ⟨"SeesawParkModel", "readsItem", "(I)V"⟩, prog_11_method_15_code, 2, none, false, 1)
def m_X9_park : Mth := (9, ⟨"SeesawParkModel", "park", "()I"⟩, prog_11_method_16_code, 3, (some .int), false, 0)
def m_X9_begins : Mth := (9, ⟨"SeesawParkModel", "begins", "()V"⟩, prog_11_method_17_code, 2, none, false, 0)
def m_X9_isPlank : Mth := (9, ⟨"SeesawParkModel", "isPlank", "(I)Z"⟩, prog_11_method_18_code, 2, (some .boolean), false, 1)
def m_X9_isChild : Mth := (9, ⟨"SeesawParkModel", "isChild", "(I)Z"⟩, prog_11_method_19_code, 2, (some .boolean), false, 1)
def m_X9_isStone : Mth := (9, ⟨"SeesawParkModel", "isStone", "(I)Z"⟩, prog_11_method_20_code, 2, (some .boolean), false, 1)
def m_X9_stonesOn : Mth := (9, ⟨"SeesawParkModel", "stonesOn", "(I)I"⟩, prog_11_method_21_code, 4, (some .int), false, 1)
def m_X9_momentOf : Mth := (9, ⟨"SeesawParkModel", "momentOf", "(I)I"⟩, prog_11_method_22_code, 4, (some .int), false, 1)
def m_X9_tiltBy : Mth := (9, ⟨"SeesawParkModel", "tiltBy", "(II)I"⟩, prog_11_method_23_code, 3, (some .int), false, 2)
def m_X9_tiltOf : Mth := (9, ⟨"SeesawParkModel", "tiltOf", "(I)I"⟩, prog_11_method_24_code, 2, (some .int), false, 1)
def m_X9_sittingOn : Mth := (9, ⟨"SeesawParkModel", "sittingOn", "(I)I"⟩, prog_11_method_25_code, 4, (some .int), false, 1)
def m_X9_plank : Mth := (9, ⟨"SeesawParkModel", "plank", "(II)I"⟩, prog_11_method_26_code, 3, (some .int), false, 2)
def m_X9_child : Mth := (9, ⟨"SeesawParkModel", "child", "(II)I"⟩, prog_11_method_27_code, 3, (some .int), false, 2)
def m_X9_stone : Mth := (9, ⟨"SeesawParkModel", "stone", "(II)I"⟩, prog_11_method_28_code, 3, (some .int), false, 2)
def m_X9_bumps : Mth := (9, ⟨"SeesawParkModel", "bumps", "(II)I"⟩, prog_11_method_29_code, 7, (some .int), false, 2)
def m_X9_goes : Mth := (9, ⟨"SeesawParkModel", "goes", "(II)I"⟩, prog_11_method_30_code, 5, (some .int), false, 2)
def m_X9_comes : Mth := (9, ⟨"SeesawParkModel", "comes", "(IIII)I"⟩, prog_11_method_31_code, 6, (some .int), false, 4)
def m_X9_sits : Mth := (9, ⟨"SeesawParkModel", "sits", "(III)I"⟩, prog_11_method_32_code, 5, (some .int), false, 3)
def m_X9_leaves : Mth := (9, ⟨"SeesawParkModel", "leaves", "(I)I"⟩, prog_11_method_33_code, 2, (some .int), false, 1)
def m_X9_lay : Mth := (9, ⟨"SeesawParkModel", "lay", "(III)I"⟩, prog_11_method_34_code, 5, (some .int), false, 3)
def m_X9_take : Mth := (9, ⟨"SeesawParkModel", "take", "(I)I"⟩, prog_11_method_35_code, 2, (some .int), false, 1)
def m_X9_stepOf : Mth := (9, ⟨"SeesawParkModel", "stepOf", "(II)I"⟩, prog_11_method_36_code, 3, (some .int), false, 2)
def m_X9_seats : Mth := (9, ⟨"SeesawParkModel", "seats", "(I)V"⟩, prog_11_method_37_code, 3, none, false, 1)
def m_X9_freeSeat : Mth := (9, ⟨"SeesawParkModel", "freeSeat", "(II)I"⟩, prog_11_method_38_code, 6, (some .int), false, 2)
def m_X9_waysOf : Mth := (9, ⟨"SeesawParkModel", "waysOf", "(III)I"⟩, prog_11_method_39_code, 9, (some .int), false, 3)
def m_X9_all : Mth := (9, ⟨"SeesawParkModel", "all", "()I"⟩, prog_11_method_40_code, 1, (some .int), false, 0)
def m_X9_ways : Mth := (9, ⟨"SeesawParkModel", "ways", "(III)I"⟩, prog_11_method_41_code, 7, (some .int), false, 3)
def m_X9_ones : Mth := (9, ⟨"SeesawParkModel", "ones", "(I)I"⟩, prog_11_method_42_code, 3, (some .int), true, 1)
def m_X9_most : Mth := (9, ⟨"SeesawParkModel", "most", "(II)I"⟩, prog_11_method_43_code, 6, (some .int), false, 2)
def m_X9_moves : Mth := (9, ⟨"SeesawParkModel", "moves", "(I)I"⟩, prog_11_method_44_code, 10, (some .int), false, 1)
def m_X9_hasStone : Mth := (9, ⟨"SeesawParkModel", "hasStone", "(II)Z"⟩, prog_11_method_45_code, 5, (some .boolean), false, 2)
def m_X9_levels : Mth := (9, ⟨"SeesawParkModel", "levels", "(II)Z"⟩, prog_11_method_46_code, 8, (some .boolean), false, 2)
def m_X9_ballast : Mth := (9, ⟨"SeesawParkModel", "ballast", "(II)I"⟩, prog_11_method_47_code, 7, (some .int), false, 2)
def m_X9_isTaken : Mth := (9, ⟨"SeesawParkModel", "isTaken", "(II)Z"⟩, prog_11_method_48_code, 5, (some .boolean), false, 2)
def m_X9_mayPut : Mth := (9, ⟨"SeesawParkModel", "mayPut", "(IIIIII)Z"⟩, prog_11_method_49_code, 8, (some .boolean), false, 6)
def m_X9_lastMove : Mth := (9, ⟨"SeesawParkModel", "lastMove", "(IIII)I"⟩, prog_11_method_50_code, 7, (some .int), false, 4)
def m_X9_twoMoves : Mth := (9, ⟨"SeesawParkModel", "twoMoves", "(IIII)I"⟩, prog_11_method_51_code, 7, (some .int), false, 4)
def m_X9_threeMoves : Mth := (9, ⟨"SeesawParkModel", "threeMoves", "(IIII)I"⟩, prog_11_method_52_code, 7, (some .int), false, 4)
def m_X9_fourMoves : Mth := (9, ⟨"SeesawParkModel", "fourMoves", "(II)I"⟩, prog_11_method_53_code, 5, (some .int), false, 2)
def m_X9_game : Mth := (9, ⟨"SeesawParkModel", "game", "(II)I"⟩, prog_11_method_54_code, 6, (some .int), false, 2)
def m_X9_strangers : Mth := (9, ⟨"SeesawParkModel", "strangers", "(I)I"⟩, prog_11_method_55_code, 3, (some .int), false, 1)
def m_X9_isStranger : Mth := (9, ⟨"SeesawParkModel", "isStranger", "(I)Z"⟩, prog_11_method_56_code, 2, (some .boolean), false, 1)
def m_X9_trial : Mth := (9, ⟨"SeesawParkModel", "trial", "(III)I"⟩, prog_11_method_57_code, 4, (some .int), false, 3)
def m_X9_weightIn : Mth := (9, ⟨"SeesawParkModel", "weightIn", "(II)I"⟩, prog_11_method_58_code, 4, (some .int), true, 2)
def m_X9_weighs : Mth := (9, ⟨"SeesawParkModel", "weighs", "(III)I"⟩, prog_11_method_59_code, 4, (some .int), true, 3)
def m_X9_allWays : Mth := (9, ⟨"SeesawParkModel", "allWays", "()I"⟩, prog_11_method_60_code, 3, (some .int), false, 0)
def m_X9_fits : Mth := (9, ⟨"SeesawParkModel", "fits", "(I)Z"⟩, prog_11_method_61_code, 4, (some .boolean), false, 1)
def m_X9_couldBe : Mth := (9, ⟨"SeesawParkModel", "couldBe", "(II)I"⟩, prog_11_method_62_code, 5, (some .int), false, 2)
def m_X9_could : Mth := (9, ⟨"SeesawParkModel", "could", "(II)I"⟩, prog_11_method_63_code, 3, (some .int), false, 2)
def m_X9_sure : Mth := (9, ⟨"SeesawParkModel", "sure", "(I)I"⟩, prog_11_method_64_code, 5, (some .int), false, 1)
def m_X9_next : Mth := (9, ⟨"SeesawParkModel", "next", "(I)I"⟩, prog_11_method_65_code, 10, (some .int), false, 1)
def m_X9_areAPair : Mth := (9, ⟨"SeesawParkModel", "areAPair", "(III)Z"⟩, prog_11_method_66_code, 4, (some .boolean), false, 3)
def m_X9_waits : Mth := (9, ⟨"SeesawParkModel", "waits", "(I)V"⟩, prog_11_method_67_code, 2, none, false, 1)
def m_X9_letsOff : Mth := (9, ⟨"SeesawParkModel", "letsOff", "(I)V"⟩, prog_11_method_68_code, 4, none, false, 1)
def m_X9_lesser : Mth := (9, ⟨"SeesawParkModel", "lesser", "(II)I"⟩, prog_11_method_69_code, 2, (some .int), true, 2)
def m_X9_outOfRow : Mth := (9, ⟨"SeesawParkModel", "outOfRow", "(I)V"⟩, prog_11_method_70_code, 3, none, false, 1)
def m_X9_takesOn : Mth := (9, ⟨"SeesawParkModel", "takesOn", "(II)V"⟩, prog_11_method_71_code, 5, none, false, 2)
def m_X9_goesBy : Mth := (9, ⟨"SeesawParkModel", "goesBy", "(I)V"⟩, prog_11_method_72_code, 4, none, false, 1)
def m_X9_rides : Mth := (9, ⟨"SeesawParkModel", "rides", "(II)I"⟩, prog_11_method_73_code, 3, (some .int), false, 2)
def m_X9_forever : Mth := (9, ⟨"SeesawParkModel", "forever", "()I"⟩, prog_11_method_74_code, 6, (some .int), false, 0)
def m_X9_rate : Mth := (9, ⟨"SeesawParkModel", "rate", "(II)I"⟩, prog_11_method_75_code, 5, (some .int), false, 2)
def m_X9_sitting : Mth := (9, ⟨"SeesawParkModel", "sitting", "()I"⟩, prog_11_method_76_code, 3, (some .int), false, 0)
def m_X9_keep : Mth := (9, ⟨"SeesawParkModel", "keep", "(I)I"⟩, prog_11_method_77_code, 3, (some .int), false, 1)
def m_X9_back : Mth := (9, ⟨"SeesawParkModel", "back", "(I)I"⟩, prog_11_method_78_code, 3, (some .int), false, 1)
def m_X9_count : Mth := (9, ⟨"SeesawParkModel", "count", "(I)I"⟩, prog_11_method_79_code, 2, (some .int), false, 1)
def m_X9_trace : Mth := (9, ⟨"SeesawParkModel", "trace", "()J"⟩, prog_11_method_80_code, 1, (some .long), false, 0)
def m_J6_bitCount_0f7a4 : Mth := (10, ⟨"java/lang/Integer", "bitCount", "(I)I"⟩, prog_12_method_49_code, 1, (some .int), true, 1)
def m_J6_signum_0f7a4 : Mth := (10, ⟨"java/lang/Integer", "signum", "(I)I"⟩, prog_12_method_56_code, 1, (some .int), true, 1)
def m_J0_length_8abf5 : Mth := (13, ⟨"java/lang/String", "length", "()I"⟩, prog_14_method_54_code, 1, (some .int), false, 0)
def m_J0_charAt_5068e : Mth := (13, ⟨"java/lang/String", "charAt", "(I)C"⟩, prog_14_method_56_code, 2, (some .char), false, 1)
def m_J0_coder_7d493 : Mth := (13, ⟨"java/lang/String", "coder", "()B"⟩, prog_14_method_152_code, 1, (some .byte), false, 0)
def m_J0_isLatin1_aae02 : Mth := (13, ⟨"java/lang/String", "isLatin1", "()Z"⟩, prog_14_method_154_code, 1, (some .boolean), false, 0)
def m_J0_checkIndex_df160 : Mth := (13, ⟨"java/lang/String", "checkIndex", "(II)V"⟩, prog_14_method_155_code, 2, none, true, 2)
def m_J1_charAt_3b067 : Mth := (14, ⟨"java/lang/StringLatin1", "charAt", "([BI)C"⟩, prog_15_method_2_code, 2, (some .char), true, 2)
def m_J7_fill_53178 : Mth := (12, ⟨"java/util/Arrays", "fill", "([II)V"⟩, prog_18_method_103_code, 4, none, true, 2)
def m_J3_checkIndex_8e157 : Mth := (15, ⟨"jdk/internal/util/Preconditions", "checkIndex", "(IILjava/util/function/BiFunction;)I"⟩, prog_19_method_11_code, 3, (some .int), true, 3)
abbrev Shp : Type := (Nat × Nat) ⊕ (Nat × List (Nat × Nat))
def shp : List Shp := [.inr (8, [(2, 1), (2, 7), (2, 13), (2, 19), (2, 25), (2, 33), (2, 39), (2, 41), (2, 44), (2, 51), (1, 0)]), .inr (3, [(2, 2), (2, 3), (2, 4), (2, 5), (2, 6), (0, 0), (0, 0), (0, 0)]), .inl (0, 3), .inl (0, 3), .inl (0, 8), .inl (0, 8), .inl (0, 5), .inr (4, [(2, 1), (2, 8), (2, 9), (2, 10), (2, 11), (2, 12), (3, 0)]), .inl (0, 8), .inl (0, 8), .inl (0, 8), .inl (0, 5), .inl (0, 5), .inr (4, [(2, 1), (2, 14), (2, 15), (2, 16), (2, 17), (2, 18), (3, 0)]), .inl (0, 8), .inl (0, 8), .inl (0, 8), .inl (0, 5), .inl (0, 5), .inr (4, [(2, 1), (2, 20), (2, 21), (2, 22), (2, 23), (2, 24), (3, 0)]), .inl (0, 8), .inl (0, 8), .inl (0, 8), .inl (0, 5), .inl (0, 5), .inr (6, [(2, 26), (2, 32), (0, 0), (0, 0), (0, 0), (0, 0), (0, 0)]), .inr (3, [(2, 27), (2, 28), (2, 29), (2, 30), (2, 31), (0, 0), (0, 0), (0, 0)]), .inl (0, 3), .inl (0, 3), .inl (0, 8), .inl (0, 8), .inl (0, 5), .inl (0, 300), .inr (5, [(2, 34), (2, 35), (2, 36), (2, 37), (2, 38), (0, 0), (0, 0), (0, 0), (0, 0), (0, 0)]), .inl (0, 8), .inl (0, 8), .inl (0, 8), .inl (0, 8), .inl (0, 9), .inr (1, [(2, 40)]), .inl (2, 4864), .inr (0, [(2, 42), (2, 43), (0, 0), (0, 0), (0, 0)]), .inl (0, 8), .inl (0, 8), .inr (7, [(2, 45), (2, 46), (2, 47), (2, 48), (2, 49), (2, 50), (0, 0), (0, 0), (0, 0), (3, 0)]), .inl (0, 12), .inl (0, 12), .inl (0, 12), .inl (0, 5), .inl (0, 35), .inl (0, 75), .inr (2, [(2, 1), (2, 52), (2, 53), (2, 54), (2, 55), (0, 0)]), .inl (0, 8), .inl (0, 8), .inl (0, 3), .inl (0, 3), .inr (9, [(0, 0), (1, 0), (2, 57), (0, 0), (0, 0), (0, 0), (0, 0), (0, 0), (0, 0), (2, 58), (2, 59), (2, 60), (2, 61), (2, 62), (0, 0), (0, 0), (0, 0), (0, 0), (0, 0), (0, 0), (2, 63), (2, 64), (2, 65), (2, 66), (0, 0), (2, 67), (2, 68), (0, 0), (2, 69), (0, 0), (2, 70), (2, 71), (0, 0), (2, 72), (2, 73), (2, 74)]), .inl (0, 300), .inl (0, 6), .inl (0, 6), .inl (0, 16), .inl (0, 16), .inl (0, 10), .inl (0, 34), .inl (0, 68), .inl (1, 2), .inl (0, 8), .inl (0, 8), .inl (0, 8), .inl (0, 36), .inl (0, 8), .inl (0, 8), .inl (0, 3), .inl (0, 3), .inl (0, 3)]
def m_copy : Mth := (16, arraycopyName, ⟨#[]⟩, 0, none, true, 5)
def cll0 : List (Nat × Mth × Nat) := [(28, m_copy, 3), (45, m_X8_stepOfSeat, 2), (49, m_X4_hasChildAt, 0), (55, m_X0_moveFrom, 0), (59, m_copy, 4)]
def cll1 : List (Nat × Mth × Nat) := [(27, m_X8_stepOfSeat, 2), (31, m_X1_addSeatOf, 0), (38, m_X1_mergeShifted, 0), (42, m_X1_wordAt, 0), (46, m_J6_bitCount_0f7a4, 1), (52, m_X1_canLevel, 0)]
def cll2 : List (Nat × Mth × Nat) := [(37, m_X2_joinRow, 0), (44, m_X2_letOff, 0), (47, m_X2_letOn, 0), (50, m_X2_rideOn, 0), (53, m_X2_wantsMore, 0), (60, m_X3_fits, 0), (64, m_X2_leaveRow, 0)]
def cll3 : List (Nat × Mth × Nat) := [(37, m_copy, 3), (43, m_X3_hasPlank, 0), (47, m_copy, 4)]
def cll4 : List (Nat × Mth × Nat) := [(31, m_copy, 3), (46, m_X4_idleChildren, 0), (50, m_J6_bitCount_0f7a4, 1), (59, m_X4_stoneMoment, 0), (65, m_X4_moment, 0), (68, m_copy, 4), (76, m_X4_tilt, 0), (79, m_X4_settle, 0), (83, m_J6_signum_0f7a4, 1)]
def cll5 : List (Nat × Mth × Nat) := [(40, m_X5_measureReach, 0), (43, m_X5_countFrom, 0), (47, m_X5_findFrom, 0), (54, m_X5_changeFrom, 0), (58, m_copy, 4), (64, m_X5_isHopeless, 0)]
def cll6 : List (Nat × Mth × Nat) := [(26, m_X3_forget, 0), (32, m_X6_readToken, 0), (38, m_X6_readPlank, 0), (42, m_X6_readChild, 0), (45, m_X6_readStone, 0), (51, m_X6_readNumber, 0), (64, m_X6_readSemicolon, 0), (85, m_X6_isLetter, 1), (89, m_X6_readWord, 0), (92, m_X6_isDigit, 1), (95, m_X6_readDigits, 0), (100, m_X6_spells, 0), (108, m_J0_length_8abf5, 0), (113, m_J0_charAt_5068e, 0), (117, m_copy, 6)]
def cll7 : List (Nat × Mth × Nat) := [(39, m_X7_survey, 0), (45, m_X7_fittingWith, 0), (49, m_X7_leftAtWorst, 0), (52, m_X7_outcomeCell, 1), (56, m_copy, 5), (61, m_J7_fill_53178, 1), (67, m_X7_guessFrom, 0), (71, m_X7_guessFits, 0), (75, m_X7_tally, 0), (78, m_J6_signum_0f7a4, 1)]
def cll8 : List (Nat × Mth × Nat) := [(83, m_X6_append, 0), (87, m_X6_readAll, 0), (97, m_X3_copyFrom, 0), (100, m_X4_reset, 0), (107, m_X3_hasPlank, 0), (119, m_X4_moment, 0), (123, m_X4_tilt, 0), (126, m_X4_childrenOn, 0), (129, m_J6_bitCount_0f7a4, 1), (134, m_X3_hasChild, 0), (152, m_X3_hasStone, 0), (164, m_X3_hasSeat, 0), (168, m_X4_hasChildAt, 0), (171, m_X4_unseatChild, 0), (174, m_X4_seatChild, 0), (178, m_X4_hasStoneAt, 0), (181, m_X4_liftStone, 0), (184, m_X4_putStone, 0), (187, m_X3_allChildren, 0), (190, m_X8_askWays, 0), (194, m_X5_countWays, 0), (197, m_X5_findFirst, 0), (201, m_X5_chosenStep, 0), (204, m_X8_isZeroOrOne, 1), (207, m_X1_spread, 0), (214, m_X4_stoneMoment, 0), (217, m_X1_largestLevel, 0), (220, m_X8_countOrSet, 1), (224, m_X5_fewestChanges, 0), (227, m_X8_leastBallast, 0), (230, m_X4_idleChildren, 0), (233, m_X0_begin, 0), (237, m_X0_winningMove, 0), (243, m_X7_begin, 0), (245, m_X7_hasStranger, 0), (251, m_X7_addTrial, 0), (255, m_X7_fitting, 0), (258, m_X7_fittingWith, 0), (261, m_X7_onlyWeight, 0), (264, m_X7_bestPair, 0), (267, m_X7_leftAtWorst, 0), (270, m_X2_run, 0), (279, m_X8_hasPartner, 0), (282, m_X8_rateAs, 0), (285, m_X8_imageOf, 0), (289, m_X4_copyFrom, 0), (292, m_X4_seatedChildren, 0), (301, m_X5_begin, 0), (303, m_X8_stepOfSeat, 1), (306, m_X5_addSeat, 0), (309, m_X5_addBody, 0), (312, m_X4_idleStones, 0), (315, m_X8_canBallast, 0), (318, m_X3_fits, 0)]
def cll9 : List (Nat × Mth × Nat) := [(69, m_X9_begins, 0), (75, m_X9_in, 1), (86, m_X9_add, 1), (90, m_X9_named, 1), (97, m_X9_byteAt, 0), (107, m_X9_wordOf, 1), (117, m_X9_isWell, 0), (121, m_X9_advances, 0), (124, m_X9_takes, 0), (131, m_X9_number, 0), (141, m_X9_readsItem, 0), (154, m_X9_stonesOn, 0), (157, m_X9_size, 1), (160, m_X9_momentOf, 0), (163, m_X9_tiltBy, 0), (166, m_X9_isPlank, 0), (171, m_X9_tiltOf, 0), (174, m_X9_sittingOn, 0), (177, m_X9_isChild, 0), (180, m_X9_isStone, 0), (183, m_X9_bumps, 0), (186, m_X9_goes, 0), (189, m_X9_comes, 0), (196, m_X9_seats, 0), (199, m_X9_freeSeat, 0), (202, m_X9_stepOf, 0), (205, m_X9_all, 0), (210, m_X9_waysOf, 0), (214, m_X9_ones, 1), (217, m_X9_hasStone, 0), (221, m_X9_levels, 0), (224, m_X9_isTaken, 0), (227, m_X9_mayPut, 0), (231, m_X9_lastMove, 0), (234, m_X9_twoMoves, 0), (237, m_X9_threeMoves, 0), (240, m_X9_fourMoves, 0), (246, m_X9_isStranger, 0), (249, m_X9_weightIn, 1), (252, m_X9_weighs, 1), (255, m_X9_allWays, 0), (258, m_X9_fits, 0), (261, m_X9_couldBe, 0), (267, m_X9_lesser, 1), (270, m_X9_waits, 0), (273, m_X9_areAPair, 0), (276, m_X9_outOfRow, 0), (279, m_X9_letsOff, 0), (282, m_X9_takesOn, 0), (286, m_X9_goesBy, 0), (303, m_X9_sitting, 0)]
def cll10 : List (Nat × Mth × Nat) := []
def cll11 : List (Nat × Mth × Nat) := []
def cll12 : List (Nat × Mth × Nat) := []
def cll13 : List (Nat × Mth × Nat) := [(335, m_J0_coder_7d493, 0), (492, m_J0_isLatin1_aae02, 0), (495, m_J1_charAt_3b067, 1), (1059, m_J3_checkIndex_8e157, 1)]
def cll14 : List (Nat × Mth × Nat) := [(9, m_J0_checkIndex_df160, 1)]
def cll15 : List (Nat × Mth × Nat) := []
def cll : List (List (Nat × Mth × Nat)) := [cll0, cll1, cll2, cll3, cll4, cll5, cll6, cll7, cll8, cll9, cll10, cll11, cll12, cll13, cll14, cll15]
def fll0 : List (Nat × Nat × Nat) := [(9, 0, 0), (15, 0, 1), (18, 3, 6), (24, 0, 2), (25, 3, 2), (34, 3, 1), (37, 0, 4), (39, 0, 3), (42, 3, 0)]
def kil0 : List (Nat × Int32) := []
def kll0 : List (Nat × Int64) := []
def fll1 : List (Nat × Nat × Nat) := [(11, 1, 0), (15, 3, 6), (23, 3, 0), (35, 3, 2)]
def kil1 : List (Nat × Int32) := []
def kll1 : List (Nat × Int64) := [(21, 16777216)]
def fll2 : List (Nat × Nat × Nat) := [(9, 2, 1), (15, 2, 2), (18, 2, 3), (21, 2, 4), (24, 2, 0), (28, 2, 5), (32, 3, 6), (41, 3, 5), (57, 3, 3)]
def kil2 : List (Nat × Int32) := []
def kll2 : List (Nat × Int64) := []
def fll3 : List (Nat × Nat × Nat) := [(9, 3, 0), (15, 3, 1), (18, 3, 2), (21, 3, 3), (24, 3, 4), (27, 3, 5), (31, 3, 6), (34, 3, 7)]
def kil3 : List (Nat × Int32) := []
def kll3 : List (Nat × Int64) := []
def fll4 : List (Nat × Nat × Nat) := [(9, 4, 1), (15, 4, 2), (18, 4, 3), (21, 4, 4), (24, 4, 5), (27, 4, 0), (37, 3, 6), (43, 3, 7), (56, 3, 4), (62, 3, 2), (73, 3, 1)]
def kil4 : List (Nat × Int32) := []
def kll4 : List (Nat × Int64) := []
def fll5 : List (Nat × Nat × Nat) := [(9, 5, 0), (15, 5, 1), (18, 5, 2), (21, 5, 3), (24, 5, 4), (27, 5, 5), (31, 5, 6), (34, 5, 7), (37, 5, 8), (51, 5, 9)]
def kil5 : List (Nat × Int32) := []
def kll5 : List (Nat × Int64) := []
def fll6 : List (Nat × Nat × Nat) := [(12, 6, 0), (18, 6, 1), (22, 6, 2), (29, 6, 4), (35, 6, 5), (48, 3, 5), (55, 3, 0), (58, 6, 6), (61, 3, 1), (67, 3, 6), (70, 3, 2), (73, 3, 3), (76, 3, 7), (79, 3, 4), (82, 6, 3)]
def kil6 : List (Nat × Int32) := []
def kll6 : List (Nat × Int64) := []
def fll7 : List (Nat × Nat × Nat) := [(9, 7, 0), (13, 7, 1), (16, 7, 2), (19, 7, 3), (22, 7, 4), (25, 7, 5), (28, 7, 6), (32, 7, 7), (35, 7, 9), (42, 7, 8)]
def kil7 : List (Nat × Int32) := []
def kll7 : List (Nat × Int64) := []
def fll8 : List (Nat × Nat × Nat) := [(12, 8, 0), (21, 8, 1), (25, 8, 2), (28, 8, 3), (34, 8, 4), (41, 8, 5), (48, 8, 6), (55, 8, 7), (62, 8, 8), (69, 8, 9), (73, 8, 10), (77, 6, 2), (91, 6, 3), (94, 6, 0), (103, 4, 6), (112, 3, 0), (116, 3, 1), (137, 3, 2), (140, 3, 3), (143, 4, 2), (146, 4, 1), (149, 4, 3), (155, 3, 4), (158, 4, 5), (161, 4, 4), (211, 3, 6), (240, 7, 6), (248, 7, 7), (273, 2, 5), (276, 2, 1), (295, 3, 5), (298, 3, 7)]
def kil8 : List (Nat × Int32) := [(111, -1000000)]
def kll8 : List (Nat × Int64) := [(81, 255)]
def fll9 : List (Nat × Nat × Nat) := [(7, 9, 2), (13, 9, 9), (16, 9, 10), (19, 9, 11), (22, 9, 12), (25, 9, 13), (28, 9, 20), (31, 9, 21), (34, 9, 22), (38, 9, 23), (41, 9, 25), (44, 9, 26), (47, 9, 28), (50, 9, 30), (53, 9, 31), (56, 9, 33), (59, 9, 34), (62, 9, 35), (65, 9, 27), (72, 9, 0), (79, 9, 3), (94, 9, 4), (101, 9, 6), (104, 9, 5), (111, 9, 7), (114, 9, 8), (128, 9, 17), (135, 9, 18), (138, 9, 19), (145, 9, 14), (148, 9, 15), (151, 9, 16), (193, 9, 24), (243, 9, 29), (264, 9, 32), (289, 9, 1)]
def kil9 : List (Nat × Int32) := [(170, -1000000), (209, 1000000)]
def kll9 : List (Nat × Int64) := [(82, 255), (84, 256), (293, 11), (295, 101), (297, 1011), (299, 10101), (301, 100001)]
def fll10 : List (Nat × Nat × Nat) := []
def kil10 : List (Nat × Int32) := [(265, 1431655765), (266, 858993459), (267, 252645135)]
def kll10 : List (Nat × Int64) := []
def fll11 : List (Nat × Nat × Nat) := []
def kil11 : List (Nat × Int32) := []
def kll11 : List (Nat × Int64) := []
def fll12 : List (Nat × Nat × Nat) := []
def kil12 : List (Nat × Int32) := []
def kll12 : List (Nat × Int64) := []
def fll13 : List (Nat × Nat × Nat) := []
def kil13 : List (Nat × Int32) := []
def kll13 : List (Nat × Int64) := []
def fll14 : List (Nat × Nat × Nat) := []
def kil14 : List (Nat × Int32) := []
def kll14 : List (Nat × Int64) := []
def fll15 : List (Nat × Nat × Nat) := []
def kil15 : List (Nat × Int32) := []
def kll15 : List (Nat × Int64) := []
def fll : List (List (Nat × Nat × Nat)) := [fll0, fll1, fll2, fll3, fll4, fll5, fll6, fll7, fll8, fll9, fll10, fll11, fll12, fll13, fll14, fll15]
def kil : List (List (Nat × Int32)) := [kil0, kil1, kil2, kil3, kil4, kil5, kil6, kil7, kil8, kil9, kil10, kil11, kil12, kil13, kil14, kil15]
def kll : List (List (Nat × Int64)) := [kll0, kll1, kll2, kll3, kll4, kll5, kll6, kll7, kll8, kll9, kll10, kll11, kll12, kll13, kll14, kll15]
def lkp {α : Type} : List (Nat × α) → Nat → Option α
  | [], _ => none
  | q :: r, i => if q.1 = i then some q.2 else lkp r i
theorem lkp_mem {α : Type} : ∀ {l : List (Nat × α)} {i : Nat} {a : α}, lkp l i = some a → (i, a) ∈ l
  | q :: r, i, a, h => by
    unfold lkp at h
    by_cases hq : q.1 = i
    · rw [if_pos hq] at h; cases h; subst hq; exact List.mem_cons_self
    · rw [if_neg hq] at h; exact List.mem_cons_of_mem _ (lkp_mem h)
def nmo (own : Nat) : String := cnm.getD own ""
def fcl (ci : Nat) : vw_C := cls.getD ci ("", T0, 0)
def flw (own : Nat) (q : Nat × Nat × Nat) : Cond := .fieldLink (nmo own) q.1 ((fcl q.2.1).2.1 q.2.2).1 ((fcl q.2.1).2.1 q.2.2).2.1 ((fcl q.2.1).2.1 q.2.2).2.2.1
def flok (own : Nat) (q : Nat × Nat × Nat) : Prop := flw own q ∈ gw ∧ q.2.1 < 10 ∧ q.2.2 < (fcl q.2.1).2.2
def clok (own : Nat) (q : Nat × Mth × Nat) : Prop := match q.2.2 with
  | 2 => True
  | 3 => Cond.methodLink (nmo own) q.1 arraycopyName ∈ gw ∧ Cond.native arraycopyName ∈ gw ∧ Cond.static arraycopyName ∈ gw ∧ Cond.initialized "java/lang/System" ∈ gw
  | 4 => Cond.methodLink (nmo own) q.1 Lib.Math.abs.name ∈ gw
  | 5 => Cond.methodLink (nmo own) q.1 Lib.Math.max.name ∈ gw
  | 6 => Cond.methodLink (nmo own) q.1 Lib.Math.min.name ∈ gw
  | _ => Cond.methodLink (nmo own) q.1 q.2.1.2.1 ∈ gw
def mcode (μ : Mth) : Cond := .code μ.2.1 μ.2.2.1 μ.2.2.2.1 μ.2.2.2.2.1
def mok (μ : Mth) : Prop := mcode μ ∈ gw ∧ Cond.initialized μ.2.1.cls ∈ gw ∧ nmo μ.1 = μ.2.1.cls ∧ (μ.2.1.cls ≠ "java/lang/invoke/MethodHandle" ∧ μ.2.1.cls ≠ "java/lang/invoke/VarHandle" ∧ (parseMethodDescriptor μ.2.1.desc).map (fun d => d.parameters.length) = some μ.2.2.2.2.2.2) ∧ μ.2.2.2.1 ≤ 30 ∧ plainName μ.2.1.cls = true ∧
  (if μ.2.2.2.2.2.1 = true then Cond.static μ.2.1 ∈ gw else Cond.instanceMethod μ.2.1 ∈ gw ∧ Cond.selects μ.2.1.cls μ.2.1 μ.2.1 ∈ gw)
theorem gt1 {i : Nat} {w : Cond} (h0 : tables_1_1[i]? = some w) (hg : goodWord w = true) : w ∈ gw := by
  have h := List.mem_of_getElem? h0
  have h1 : w ∈ tables_1 := List.mem_append_left _ h
  exact List.mem_filter.mpr ⟨List.mem_append_right _ h1, hg⟩
theorem gp1 {i : Nat} {y : MethodName} {n : Nat} (h0 : lw_privs_1[i]? = some (y, n)) : Cond.selects y.cls y y ∈ gw := by
  have h := List.mem_of_getElem? h0
  have h1 : (y, n) ∈ lw_privs := List.mem_append_left _ h
  exact List.mem_filter.mpr ⟨List.mem_append_left _ (List.mem_map.mpr ⟨(y, n), h1, rfl⟩), rfl⟩
theorem gt2 {i : Nat} {w : Cond} (h0 : tables_1_2[i]? = some w) (hg : goodWord w = true) : w ∈ gw := by
  have h := List.mem_of_getElem? h0
  have h1 : w ∈ tables_1 := List.mem_append_right _ (List.mem_append_left _ h)
  exact List.mem_filter.mpr ⟨List.mem_append_right _ h1, hg⟩
theorem gp2 {i : Nat} {y : MethodName} {n : Nat} (h0 : lw_privs_2[i]? = some (y, n)) : Cond.selects y.cls y y ∈ gw := by
  have h := List.mem_of_getElem? h0
  have h1 : (y, n) ∈ lw_privs := List.mem_append_right _ (List.mem_append_left _ h)
  exact List.mem_filter.mpr ⟨List.mem_append_left _ (List.mem_map.mpr ⟨(y, n), h1, rfl⟩), rfl⟩
theorem gt3 {i : Nat} {w : Cond} (h0 : tables_1_3[i]? = some w) (hg : goodWord w = true) : w ∈ gw := by
  have h := List.mem_of_getElem? h0
  have h1 : w ∈ tables_1 := List.mem_append_right _ (List.mem_append_right _ (List.mem_append_left _ h))
  exact List.mem_filter.mpr ⟨List.mem_append_right _ h1, hg⟩
theorem gp3 {i : Nat} {y : MethodName} {n : Nat} (h0 : lw_privs_3[i]? = some (y, n)) : Cond.selects y.cls y y ∈ gw := by
  have h := List.mem_of_getElem? h0
  have h1 : (y, n) ∈ lw_privs := List.mem_append_right _ (List.mem_append_right _ (List.mem_append_left _ h))
  exact List.mem_filter.mpr ⟨List.mem_append_left _ (List.mem_map.mpr ⟨(y, n), h1, rfl⟩), rfl⟩
theorem gt4 {i : Nat} {w : Cond} (h0 : tables_1_4[i]? = some w) (hg : goodWord w = true) : w ∈ gw := by
  have h := List.mem_of_getElem? h0
  have h1 : w ∈ tables_1 := List.mem_append_right _ (List.mem_append_right _ (List.mem_append_right _ (List.mem_append_left _ h)))
  exact List.mem_filter.mpr ⟨List.mem_append_right _ h1, hg⟩
theorem gp4 {i : Nat} {y : MethodName} {n : Nat} (h0 : lw_privs_4[i]? = some (y, n)) : Cond.selects y.cls y y ∈ gw := by
  have h := List.mem_of_getElem? h0
  have h1 : (y, n) ∈ lw_privs := List.mem_append_right _ (List.mem_append_right _ (List.mem_append_right _ (List.mem_append_left _ h)))
  exact List.mem_filter.mpr ⟨List.mem_append_left _ (List.mem_map.mpr ⟨(y, n), h1, rfl⟩), rfl⟩
theorem gt5 {i : Nat} {w : Cond} (h0 : tables_1_5[i]? = some w) (hg : goodWord w = true) : w ∈ gw := by
  have h := List.mem_of_getElem? h0
  have h1 : w ∈ tables_1 := List.mem_append_right _ (List.mem_append_right _ (List.mem_append_right _ (List.mem_append_right _ (List.mem_append_left _ h))))
  exact List.mem_filter.mpr ⟨List.mem_append_right _ h1, hg⟩
theorem gp5 {i : Nat} {y : MethodName} {n : Nat} (h0 : lw_privs_5[i]? = some (y, n)) : Cond.selects y.cls y y ∈ gw := by
  have h := List.mem_of_getElem? h0
  have h1 : (y, n) ∈ lw_privs := List.mem_append_right _ (List.mem_append_right _ (List.mem_append_right _ (List.mem_append_right _ (h))))
  exact List.mem_filter.mpr ⟨List.mem_append_left _ (List.mem_map.mpr ⟨(y, n), h1, rfl⟩), rfl⟩
theorem gt6 {i : Nat} {w : Cond} (h0 : tables_1_6[i]? = some w) (hg : goodWord w = true) : w ∈ gw := by
  have h := List.mem_of_getElem? h0
  have h1 : w ∈ tables_1 := List.mem_append_right _ (List.mem_append_right _ (List.mem_append_right _ (List.mem_append_right _ (List.mem_append_right _ (h)))))
  exact List.mem_filter.mpr ⟨List.mem_append_right _ h1, hg⟩
theorem ini_0 : Cond.initialized "SeesawPark$Contest" ∈ gw := (gt1 (i := 7) rfl rfl)
theorem ini_1 : Cond.initialized "SeesawPark$Crowd" ∈ gw := (gt1 (i := 6) rfl rfl)
theorem ini_2 : Cond.initialized "SeesawPark$Queue" ∈ gw := (gt1 (i := 9) rfl rfl)
theorem ini_3 : Cond.initialized "SeesawPark$Roster" ∈ gw := (gt1 (i := 2) rfl rfl)
theorem ini_4 : Cond.initialized "SeesawPark$Scene" ∈ gw := (gt1 (i := 3) rfl rfl)
theorem ini_5 : Cond.initialized "SeesawPark$Seating" ∈ gw := (gt1 (i := 5) rfl rfl)
theorem ini_6 : Cond.initialized "SeesawPark$Told" ∈ gw := (gt1 (i := 4) rfl rfl)
theorem ini_7 : Cond.initialized "SeesawPark$Weighing" ∈ gw := (gt1 (i := 8) rfl rfl)
theorem ini_8 : Cond.initialized "SeesawPark" ∈ gw := (gt1 (i := 1) rfl rfl)
theorem ini_9 : Cond.initialized "SeesawParkModel" ∈ gw := (gt1 (i := 10) rfl rfl)
theorem ini_10 : Cond.initialized "java/lang/Integer" ∈ gw := (gt1 (i := 17) rfl rfl)
theorem ini_11 : Cond.initialized "java/lang/Math" ∈ gw := (gt1 (i := 15) rfl rfl)
theorem ini_12 : Cond.initialized "java/util/Arrays" ∈ gw := (gt1 (i := 18) rfl rfl)
theorem ini_13 : Cond.initialized "java/lang/String" ∈ gw := (gt1 (i := 11) rfl rfl)
theorem ini_14 : Cond.initialized "java/lang/StringLatin1" ∈ gw := (gt1 (i := 12) rfl rfl)
theorem ini_15 : Cond.initialized "jdk/internal/util/Preconditions" ∈ gw := (gt1 (i := 13) rfl rfl)
theorem mt_abs_c : Cond.code Lib.Math.abs.name Lib.Math.abs.code 1 (some .int) ∈ gw := (gt3 (i := 3) rfl rfl)
theorem mt_abs_s : Cond.static Lib.Math.abs.name ∈ gw := (gt3 (i := 2) rfl rfl)
theorem mt_max_c : Cond.code Lib.Math.max.name Lib.Math.max.code 2 (some .int) ∈ gw := (gt4 (i := 67) rfl rfl)
theorem mt_max_s : Cond.static Lib.Math.max.name ∈ gw := (gt4 (i := 66) rfl rfl)
theorem mt_min_c : Cond.code Lib.Math.min.name Lib.Math.min.code 2 (some .int) ∈ gw := (gt2 (i := 186) rfl rfl)
theorem mt_min_s : Cond.static Lib.Math.min.name ∈ gw := (gt2 (i := 185) rfl rfl)
theorem fll0_0 : flok 0 (9, 0, 0) := ⟨(gt1 (i := 210) rfl rfl), by decide, by decide⟩
theorem fll0_1 : flok 0 (15, 0, 1) := ⟨(gt1 (i := 211) rfl rfl), by decide, by decide⟩
theorem fll0_2 : flok 0 (18, 3, 6) := ⟨(gt1 (i := 62) rfl rfl), by decide, by decide⟩
theorem fll0_3 : flok 0 (24, 0, 2) := ⟨(gt1 (i := 212) rfl rfl), by decide, by decide⟩
theorem fll0_4 : flok 0 (25, 3, 2) := ⟨(gt1 (i := 44) rfl rfl), by decide, by decide⟩
theorem fll0_5 : flok 0 (34, 3, 1) := ⟨(gt1 (i := 39) rfl rfl), by decide, by decide⟩
theorem fll0_6 : flok 0 (37, 0, 4) := ⟨(gt1 (i := 214) rfl rfl), by decide, by decide⟩
theorem fll0_7 : flok 0 (39, 0, 3) := ⟨(gt1 (i := 213) rfl rfl), by decide, by decide⟩
theorem fll0_8 : flok 0 (42, 3, 0) := ⟨(gt1 (i := 34) rfl rfl), by decide, by decide⟩
theorem fll0_ok : ∀ q ∈ fll0, flok 0 q := List.forall_mem_cons.mpr ⟨fll0_0, List.forall_mem_cons.mpr ⟨fll0_1, List.forall_mem_cons.mpr ⟨fll0_2, List.forall_mem_cons.mpr ⟨fll0_3, List.forall_mem_cons.mpr ⟨fll0_4, List.forall_mem_cons.mpr ⟨fll0_5, List.forall_mem_cons.mpr ⟨fll0_6, List.forall_mem_cons.mpr ⟨fll0_7, List.forall_mem_cons.mpr ⟨fll0_8, fun _ h => absurd h List.not_mem_nil⟩⟩⟩⟩⟩⟩⟩⟩⟩
theorem cll0_0 : clok 0 (28, m_copy, 3) := ⟨(gt3 (i := 217) rfl rfl), (gt2 (i := 213) rfl rfl), (gt2 (i := 212) rfl rfl), (gt1 (i := 16) rfl rfl)⟩
theorem cll0_1 : clok 0 (45, m_X8_stepOfSeat, 2) := trivial
theorem cll0_2 : clok 0 (49, m_X4_hasChildAt, 0) := (gt3 (i := 219) rfl rfl)
theorem cll0_3 : clok 0 (55, m_X0_moveFrom, 0) := (gt3 (i := 224) rfl rfl)
theorem cll0_4 : clok 0 (59, m_copy, 4) := (gt3 (i := 228) rfl rfl)
theorem cll0_ok : ∀ q ∈ cll0, clok 0 q := List.forall_mem_cons.mpr ⟨cll0_0, List.forall_mem_cons.mpr ⟨cll0_1, List.forall_mem_cons.mpr ⟨cll0_2, List.forall_mem_cons.mpr ⟨cll0_3, List.forall_mem_cons.mpr ⟨cll0_4, fun _ h => absurd h List.not_mem_nil⟩⟩⟩⟩⟩
theorem kil0_ok : ∀ q ∈ kil0, Cond.constant (nmo 0) q.1 q.2 ∈ gw := fun _ h => absurd h List.not_mem_nil
theorem kll0_ok : ∀ q ∈ kll0, Cond.constantLong (nmo 0) q.1 q.2 ∈ gw := fun _ h => absurd h List.not_mem_nil
theorem fll1_0 : flok 1 (11, 1, 0) := ⟨(gt1 (i := 199) rfl rfl), by decide, by decide⟩
theorem fll1_1 : flok 1 (15, 3, 6) := ⟨(gt1 (i := 61) rfl rfl), by decide, by decide⟩
theorem fll1_2 : flok 1 (23, 3, 0) := ⟨(gt1 (i := 35) rfl rfl), by decide, by decide⟩
theorem fll1_3 : flok 1 (35, 3, 2) := ⟨(gt1 (i := 45) rfl rfl), by decide, by decide⟩
theorem fll1_ok : ∀ q ∈ fll1, flok 1 q := List.forall_mem_cons.mpr ⟨fll1_0, List.forall_mem_cons.mpr ⟨fll1_1, List.forall_mem_cons.mpr ⟨fll1_2, List.forall_mem_cons.mpr ⟨fll1_3, fun _ h => absurd h List.not_mem_nil⟩⟩⟩⟩
theorem cll1_0 : clok 1 (27, m_X8_stepOfSeat, 2) := trivial
theorem cll1_1 : clok 1 (31, m_X1_addSeatOf, 0) := (gt3 (i := 153) rfl rfl)
theorem cll1_2 : clok 1 (38, m_X1_mergeShifted, 0) := (gt3 (i := 157) rfl rfl)
theorem cll1_3 : clok 1 (42, m_X1_wordAt, 0) := (gt3 (i := 161) rfl rfl)
theorem cll1_4 : clok 1 (46, m_J6_bitCount_0f7a4, 1) := (gt3 (i := 169) rfl rfl)
theorem cll1_5 : clok 1 (52, m_X1_canLevel, 0) := (gt3 (i := 170) rfl rfl)
theorem cll1_ok : ∀ q ∈ cll1, clok 1 q := List.forall_mem_cons.mpr ⟨cll1_0, List.forall_mem_cons.mpr ⟨cll1_1, List.forall_mem_cons.mpr ⟨cll1_2, List.forall_mem_cons.mpr ⟨cll1_3, List.forall_mem_cons.mpr ⟨cll1_4, List.forall_mem_cons.mpr ⟨cll1_5, fun _ h => absurd h List.not_mem_nil⟩⟩⟩⟩⟩⟩
theorem kil1_ok : ∀ q ∈ kil1, Cond.constant (nmo 1) q.1 q.2 ∈ gw := fun _ h => absurd h List.not_mem_nil
theorem kll1_0 : Cond.constantLong (nmo 1) 21 (16777216) ∈ gw := (gt3 (i := 151) rfl rfl)
theorem kll1_ok : ∀ q ∈ kll1, Cond.constantLong (nmo 1) q.1 q.2 ∈ gw := List.forall_mem_cons.mpr ⟨kll1_0, fun _ h => absurd h List.not_mem_nil⟩
theorem fll2_0 : flok 2 (9, 2, 1) := ⟨(gt2 (i := 32) rfl rfl), by decide, by decide⟩
theorem fll2_1 : flok 2 (15, 2, 2) := ⟨(gt2 (i := 34) rfl rfl), by decide, by decide⟩
theorem fll2_2 : flok 2 (18, 2, 3) := ⟨(gt2 (i := 35) rfl rfl), by decide, by decide⟩
theorem fll2_3 : flok 2 (21, 2, 4) := ⟨(gt2 (i := 36) rfl rfl), by decide, by decide⟩
theorem fll2_4 : flok 2 (24, 2, 0) := ⟨(gt2 (i := 31) rfl rfl), by decide, by decide⟩
theorem fll2_5 : flok 2 (28, 2, 5) := ⟨(gt2 (i := 37) rfl rfl), by decide, by decide⟩
theorem fll2_6 : flok 2 (32, 3, 6) := ⟨(gt1 (i := 64) rfl rfl), by decide, by decide⟩
theorem fll2_7 : flok 2 (41, 3, 5) := ⟨(gt1 (i := 58) rfl rfl), by decide, by decide⟩
theorem fll2_8 : flok 2 (57, 3, 3) := ⟨(gt1 (i := 50) rfl rfl), by decide, by decide⟩
theorem fll2_ok : ∀ q ∈ fll2, flok 2 q := List.forall_mem_cons.mpr ⟨fll2_0, List.forall_mem_cons.mpr ⟨fll2_1, List.forall_mem_cons.mpr ⟨fll2_2, List.forall_mem_cons.mpr ⟨fll2_3, List.forall_mem_cons.mpr ⟨fll2_4, List.forall_mem_cons.mpr ⟨fll2_5, List.forall_mem_cons.mpr ⟨fll2_6, List.forall_mem_cons.mpr ⟨fll2_7, List.forall_mem_cons.mpr ⟨fll2_8, fun _ h => absurd h List.not_mem_nil⟩⟩⟩⟩⟩⟩⟩⟩⟩
theorem cll2_0 : clok 2 (37, m_X2_joinRow, 0) := (gt4 (i := 77) rfl rfl)
theorem cll2_1 : clok 2 (44, m_X2_letOff, 0) := (gt4 (i := 81) rfl rfl)
theorem cll2_2 : clok 2 (47, m_X2_letOn, 0) := (gt4 (i := 89) rfl rfl)
theorem cll2_3 : clok 2 (50, m_X2_rideOn, 0) := (gt4 (i := 102) rfl rfl)
theorem cll2_4 : clok 2 (53, m_X2_wantsMore, 0) := (gt4 (i := 85) rfl rfl)
theorem cll2_5 : clok 2 (60, m_X3_fits, 0) := (gt4 (i := 93) rfl rfl)
theorem cll2_6 : clok 2 (64, m_X2_leaveRow, 0) := (gt4 (i := 98) rfl rfl)
theorem cll2_ok : ∀ q ∈ cll2, clok 2 q := List.forall_mem_cons.mpr ⟨cll2_0, List.forall_mem_cons.mpr ⟨cll2_1, List.forall_mem_cons.mpr ⟨cll2_2, List.forall_mem_cons.mpr ⟨cll2_3, List.forall_mem_cons.mpr ⟨cll2_4, List.forall_mem_cons.mpr ⟨cll2_5, List.forall_mem_cons.mpr ⟨cll2_6, fun _ h => absurd h List.not_mem_nil⟩⟩⟩⟩⟩⟩⟩
theorem kil2_ok : ∀ q ∈ kil2, Cond.constant (nmo 2) q.1 q.2 ∈ gw := fun _ h => absurd h List.not_mem_nil
theorem kll2_ok : ∀ q ∈ kll2, Cond.constantLong (nmo 2) q.1 q.2 ∈ gw := fun _ h => absurd h List.not_mem_nil
theorem fll3_0 : flok 3 (9, 3, 0) := ⟨(gt1 (i := 33) rfl rfl), by decide, by decide⟩
theorem fll3_1 : flok 3 (15, 3, 1) := ⟨(gt1 (i := 38) rfl rfl), by decide, by decide⟩
theorem fll3_2 : flok 3 (18, 3, 2) := ⟨(gt1 (i := 43) rfl rfl), by decide, by decide⟩
theorem fll3_3 : flok 3 (21, 3, 3) := ⟨(gt1 (i := 49) rfl rfl), by decide, by decide⟩
theorem fll3_4 : flok 3 (24, 3, 4) := ⟨(gt1 (i := 53) rfl rfl), by decide, by decide⟩
theorem fll3_5 : flok 3 (27, 3, 5) := ⟨(gt1 (i := 57) rfl rfl), by decide, by decide⟩
theorem fll3_6 : flok 3 (31, 3, 6) := ⟨(gt1 (i := 63) rfl rfl), by decide, by decide⟩
theorem fll3_7 : flok 3 (34, 3, 7) := ⟨(gt1 (i := 68) rfl rfl), by decide, by decide⟩
theorem fll3_ok : ∀ q ∈ fll3, flok 3 q := List.forall_mem_cons.mpr ⟨fll3_0, List.forall_mem_cons.mpr ⟨fll3_1, List.forall_mem_cons.mpr ⟨fll3_2, List.forall_mem_cons.mpr ⟨fll3_3, List.forall_mem_cons.mpr ⟨fll3_4, List.forall_mem_cons.mpr ⟨fll3_5, List.forall_mem_cons.mpr ⟨fll3_6, List.forall_mem_cons.mpr ⟨fll3_7, fun _ h => absurd h List.not_mem_nil⟩⟩⟩⟩⟩⟩⟩⟩
theorem cll3_0 : clok 3 (37, m_copy, 3) := ⟨(gt2 (i := 211) rfl rfl), (gt2 (i := 213) rfl rfl), (gt2 (i := 212) rfl rfl), (gt1 (i := 16) rfl rfl)⟩
theorem cll3_1 : clok 3 (43, m_X3_hasPlank, 0) := (gt3 (i := 38) rfl rfl)
theorem cll3_2 : clok 3 (47, m_copy, 4) := (gt4 (i := 97) rfl rfl)
theorem cll3_ok : ∀ q ∈ cll3, clok 3 q := List.forall_mem_cons.mpr ⟨cll3_0, List.forall_mem_cons.mpr ⟨cll3_1, List.forall_mem_cons.mpr ⟨cll3_2, fun _ h => absurd h List.not_mem_nil⟩⟩⟩
theorem kil3_ok : ∀ q ∈ kil3, Cond.constant (nmo 3) q.1 q.2 ∈ gw := fun _ h => absurd h List.not_mem_nil
theorem kll3_ok : ∀ q ∈ kll3, Cond.constantLong (nmo 3) q.1 q.2 ∈ gw := fun _ h => absurd h List.not_mem_nil
theorem fll4_0 : flok 4 (9, 4, 1) := ⟨(gt1 (i := 97) rfl rfl), by decide, by decide⟩
theorem fll4_1 : flok 4 (15, 4, 2) := ⟨(gt1 (i := 99) rfl rfl), by decide, by decide⟩
theorem fll4_2 : flok 4 (18, 4, 3) := ⟨(gt1 (i := 101) rfl rfl), by decide, by decide⟩
theorem fll4_3 : flok 4 (21, 4, 4) := ⟨(gt1 (i := 103) rfl rfl), by decide, by decide⟩
theorem fll4_4 : flok 4 (24, 4, 5) := ⟨(gt1 (i := 105) rfl rfl), by decide, by decide⟩
theorem fll4_5 : flok 4 (27, 4, 0) := ⟨(gt1 (i := 96) rfl rfl), by decide, by decide⟩
theorem fll4_6 : flok 4 (37, 3, 6) := ⟨(gt1 (i := 65) rfl rfl), by decide, by decide⟩
theorem fll4_7 : flok 4 (43, 3, 7) := ⟨(gt1 (i := 69) rfl rfl), by decide, by decide⟩
theorem fll4_8 : flok 4 (56, 3, 4) := ⟨(gt1 (i := 56) rfl rfl), by decide, by decide⟩
theorem fll4_9 : flok 4 (62, 3, 2) := ⟨(gt1 (i := 48) rfl rfl), by decide, by decide⟩
theorem fll4_10 : flok 4 (73, 3, 1) := ⟨(gt1 (i := 42) rfl rfl), by decide, by decide⟩
theorem fll4_ok : ∀ q ∈ fll4, flok 4 q := List.forall_mem_cons.mpr ⟨fll4_0, List.forall_mem_cons.mpr ⟨fll4_1, List.forall_mem_cons.mpr ⟨fll4_2, List.forall_mem_cons.mpr ⟨fll4_3, List.forall_mem_cons.mpr ⟨fll4_4, List.forall_mem_cons.mpr ⟨fll4_5, List.forall_mem_cons.mpr ⟨fll4_6, List.forall_mem_cons.mpr ⟨fll4_7, List.forall_mem_cons.mpr ⟨fll4_8, List.forall_mem_cons.mpr ⟨fll4_9, List.forall_mem_cons.mpr ⟨fll4_10, fun _ h => absurd h List.not_mem_nil⟩⟩⟩⟩⟩⟩⟩⟩⟩⟩⟩
theorem cll4_0 : clok 4 (31, m_copy, 3) := ⟨(gt4 (i := 139) rfl rfl), (gt2 (i := 213) rfl rfl), (gt2 (i := 212) rfl rfl), (gt1 (i := 16) rfl rfl)⟩
theorem cll4_1 : clok 4 (46, m_X4_idleChildren, 0) := (gt4 (i := 144) rfl rfl)
theorem cll4_2 : clok 4 (50, m_J6_bitCount_0f7a4, 1) := (gt4 (i := 145) rfl rfl)
theorem cll4_3 : clok 4 (59, m_X4_stoneMoment, 0) := (gt2 (i := 232) rfl rfl)
theorem cll4_4 : clok 4 (65, m_X4_moment, 0) := (gt3 (i := 0) rfl rfl)
theorem cll4_5 : clok 4 (68, m_copy, 4) := (gt3 (i := 1) rfl rfl)
theorem cll4_6 : clok 4 (76, m_X4_tilt, 0) := (gt3 (i := 47) rfl rfl)
theorem cll4_7 : clok 4 (79, m_X4_settle, 0) := (gt3 (i := 48) rfl rfl)
theorem cll4_8 : clok 4 (83, m_J6_signum_0f7a4, 1) := (gt3 (i := 52) rfl rfl)
theorem cll4_ok : ∀ q ∈ cll4, clok 4 q := List.forall_mem_cons.mpr ⟨cll4_0, List.forall_mem_cons.mpr ⟨cll4_1, List.forall_mem_cons.mpr ⟨cll4_2, List.forall_mem_cons.mpr ⟨cll4_3, List.forall_mem_cons.mpr ⟨cll4_4, List.forall_mem_cons.mpr ⟨cll4_5, List.forall_mem_cons.mpr ⟨cll4_6, List.forall_mem_cons.mpr ⟨cll4_7, List.forall_mem_cons.mpr ⟨cll4_8, fun _ h => absurd h List.not_mem_nil⟩⟩⟩⟩⟩⟩⟩⟩⟩
theorem kil4_ok : ∀ q ∈ kil4, Cond.constant (nmo 4) q.1 q.2 ∈ gw := fun _ h => absurd h List.not_mem_nil
theorem kll4_ok : ∀ q ∈ kll4, Cond.constantLong (nmo 4) q.1 q.2 ∈ gw := fun _ h => absurd h List.not_mem_nil
theorem fll5_0 : flok 5 (9, 5, 0) := ⟨(gt1 (i := 162) rfl rfl), by decide, by decide⟩
theorem fll5_1 : flok 5 (15, 5, 1) := ⟨(gt1 (i := 163) rfl rfl), by decide, by decide⟩
theorem fll5_2 : flok 5 (18, 5, 2) := ⟨(gt1 (i := 164) rfl rfl), by decide, by decide⟩
theorem fll5_3 : flok 5 (21, 5, 3) := ⟨(gt1 (i := 165) rfl rfl), by decide, by decide⟩
theorem fll5_4 : flok 5 (24, 5, 4) := ⟨(gt1 (i := 166) rfl rfl), by decide, by decide⟩
theorem fll5_5 : flok 5 (27, 5, 5) := ⟨(gt1 (i := 167) rfl rfl), by decide, by decide⟩
theorem fll5_6 : flok 5 (31, 5, 6) := ⟨(gt1 (i := 168) rfl rfl), by decide, by decide⟩
theorem fll5_7 : flok 5 (34, 5, 7) := ⟨(gt1 (i := 169) rfl rfl), by decide, by decide⟩
theorem fll5_8 : flok 5 (37, 5, 8) := ⟨(gt1 (i := 170) rfl rfl), by decide, by decide⟩
theorem fll5_9 : flok 5 (51, 5, 9) := ⟨(gt1 (i := 171) rfl rfl), by decide, by decide⟩
theorem fll5_ok : ∀ q ∈ fll5, flok 5 q := List.forall_mem_cons.mpr ⟨fll5_0, List.forall_mem_cons.mpr ⟨fll5_1, List.forall_mem_cons.mpr ⟨fll5_2, List.forall_mem_cons.mpr ⟨fll5_3, List.forall_mem_cons.mpr ⟨fll5_4, List.forall_mem_cons.mpr ⟨fll5_5, List.forall_mem_cons.mpr ⟨fll5_6, List.forall_mem_cons.mpr ⟨fll5_7, List.forall_mem_cons.mpr ⟨fll5_8, List.forall_mem_cons.mpr ⟨fll5_9, fun _ h => absurd h List.not_mem_nil⟩⟩⟩⟩⟩⟩⟩⟩⟩⟩
theorem cll5_0 : clok 5 (40, m_X5_measureReach, 0) := (gt3 (i := 115) rfl rfl)
theorem cll5_1 : clok 5 (43, m_X5_countFrom, 0) := (gt3 (i := 119) rfl rfl)
theorem cll5_2 : clok 5 (47, m_X5_findFrom, 0) := (gt3 (i := 132) rfl rfl)
theorem cll5_3 : clok 5 (54, m_X5_changeFrom, 0) := (gt3 (i := 185) rfl rfl)
theorem cll5_4 : clok 5 (58, m_copy, 4) := (gt3 (i := 127) rfl rfl)
theorem cll5_5 : clok 5 (64, m_X5_isHopeless, 0) := (gt3 (i := 123) rfl rfl)
theorem cll5_ok : ∀ q ∈ cll5, clok 5 q := List.forall_mem_cons.mpr ⟨cll5_0, List.forall_mem_cons.mpr ⟨cll5_1, List.forall_mem_cons.mpr ⟨cll5_2, List.forall_mem_cons.mpr ⟨cll5_3, List.forall_mem_cons.mpr ⟨cll5_4, List.forall_mem_cons.mpr ⟨cll5_5, fun _ h => absurd h List.not_mem_nil⟩⟩⟩⟩⟩⟩
theorem kil5_ok : ∀ q ∈ kil5, Cond.constant (nmo 5) q.1 q.2 ∈ gw := fun _ h => absurd h List.not_mem_nil
theorem kll5_ok : ∀ q ∈ kll5, Cond.constantLong (nmo 5) q.1 q.2 ∈ gw := fun _ h => absurd h List.not_mem_nil
theorem fll6_0 : flok 6 (12, 6, 0) := ⟨(gt1 (i := 131) rfl rfl), by decide, by decide⟩
theorem fll6_1 : flok 6 (18, 6, 1) := ⟨(gt1 (i := 133) rfl rfl), by decide, by decide⟩
theorem fll6_2 : flok 6 (22, 6, 2) := ⟨(gt1 (i := 134) rfl rfl), by decide, by decide⟩
theorem fll6_3 : flok 6 (29, 6, 4) := ⟨(gt1 (i := 138) rfl rfl), by decide, by decide⟩
theorem fll6_4 : flok 6 (35, 6, 5) := ⟨(gt1 (i := 139) rfl rfl), by decide, by decide⟩
theorem fll6_5 : flok 6 (48, 3, 5) := ⟨(gt1 (i := 59) rfl rfl), by decide, by decide⟩
theorem fll6_6 : flok 6 (55, 3, 0) := ⟨(gt1 (i := 36) rfl rfl), by decide, by decide⟩
theorem fll6_7 : flok 6 (58, 6, 6) := ⟨(gt1 (i := 140) rfl rfl), by decide, by decide⟩
theorem fll6_8 : flok 6 (61, 3, 1) := ⟨(gt1 (i := 40) rfl rfl), by decide, by decide⟩
theorem fll6_9 : flok 6 (67, 3, 6) := ⟨(gt1 (i := 66) rfl rfl), by decide, by decide⟩
theorem fll6_10 : flok 6 (70, 3, 2) := ⟨(gt1 (i := 46) rfl rfl), by decide, by decide⟩
theorem fll6_11 : flok 6 (73, 3, 3) := ⟨(gt1 (i := 51) rfl rfl), by decide, by decide⟩
theorem fll6_12 : flok 6 (76, 3, 7) := ⟨(gt1 (i := 70) rfl rfl), by decide, by decide⟩
theorem fll6_13 : flok 6 (79, 3, 4) := ⟨(gt1 (i := 54) rfl rfl), by decide, by decide⟩
theorem fll6_14 : flok 6 (82, 6, 3) := ⟨(gt1 (i := 137) rfl rfl), by decide, by decide⟩
theorem fll6_ok : ∀ q ∈ fll6, flok 6 q := List.forall_mem_cons.mpr ⟨fll6_0, List.forall_mem_cons.mpr ⟨fll6_1, List.forall_mem_cons.mpr ⟨fll6_2, List.forall_mem_cons.mpr ⟨fll6_3, List.forall_mem_cons.mpr ⟨fll6_4, List.forall_mem_cons.mpr ⟨fll6_5, List.forall_mem_cons.mpr ⟨fll6_6, List.forall_mem_cons.mpr ⟨fll6_7, List.forall_mem_cons.mpr ⟨fll6_8, List.forall_mem_cons.mpr ⟨fll6_9, List.forall_mem_cons.mpr ⟨fll6_10, List.forall_mem_cons.mpr ⟨fll6_11, List.forall_mem_cons.mpr ⟨fll6_12, List.forall_mem_cons.mpr ⟨fll6_13, List.forall_mem_cons.mpr ⟨fll6_14, fun _ h => absurd h List.not_mem_nil⟩⟩⟩⟩⟩⟩⟩⟩⟩⟩⟩⟩⟩⟩⟩
theorem cll6_0 : clok 6 (26, m_X3_forget, 0) := (gt2 (i := 107) rfl rfl)
theorem cll6_1 : clok 6 (32, m_X6_readToken, 0) := (gt2 (i := 111) rfl rfl)
theorem cll6_2 : clok 6 (38, m_X6_readPlank, 0) := (gt2 (i := 187) rfl rfl)
theorem cll6_3 : clok 6 (42, m_X6_readChild, 0) := (gt2 (i := 199) rfl rfl)
theorem cll6_4 : clok 6 (45, m_X6_readStone, 0) := (gt2 (i := 203) rfl rfl)
theorem cll6_5 : clok 6 (51, m_X6_readNumber, 0) := (gt2 (i := 191) rfl rfl)
theorem cll6_6 : clok 6 (64, m_X6_readSemicolon, 0) := (gt2 (i := 195) rfl rfl)
theorem cll6_7 : clok 6 (85, m_X6_isLetter, 1) := (gt2 (i := 115) rfl rfl)
theorem cll6_8 : clok 6 (89, m_X6_readWord, 0) := (gt2 (i := 118) rfl rfl)
theorem cll6_9 : clok 6 (92, m_X6_isDigit, 1) := (gt2 (i := 177) rfl rfl)
theorem cll6_10 : clok 6 (95, m_X6_readDigits, 0) := (gt2 (i := 180) rfl rfl)
theorem cll6_11 : clok 6 (100, m_X6_spells, 0) := (gt2 (i := 123) rfl rfl)
theorem cll6_12 : clok 6 (108, m_J0_length_8abf5, 0) := (gt2 (i := 127) rfl rfl)
theorem cll6_13 : clok 6 (113, m_J0_charAt_5068e, 0) := (gt2 (i := 137) rfl rfl)
theorem cll6_14 : clok 6 (117, m_copy, 6) := (gt2 (i := 184) rfl rfl)
theorem cll6_ok : ∀ q ∈ cll6, clok 6 q := List.forall_mem_cons.mpr ⟨cll6_0, List.forall_mem_cons.mpr ⟨cll6_1, List.forall_mem_cons.mpr ⟨cll6_2, List.forall_mem_cons.mpr ⟨cll6_3, List.forall_mem_cons.mpr ⟨cll6_4, List.forall_mem_cons.mpr ⟨cll6_5, List.forall_mem_cons.mpr ⟨cll6_6, List.forall_mem_cons.mpr ⟨cll6_7, List.forall_mem_cons.mpr ⟨cll6_8, List.forall_mem_cons.mpr ⟨cll6_9, List.forall_mem_cons.mpr ⟨cll6_10, List.forall_mem_cons.mpr ⟨cll6_11, List.forall_mem_cons.mpr ⟨cll6_12, List.forall_mem_cons.mpr ⟨cll6_13, List.forall_mem_cons.mpr ⟨cll6_14, fun _ h => absurd h List.not_mem_nil⟩⟩⟩⟩⟩⟩⟩⟩⟩⟩⟩⟩⟩⟩⟩
theorem kil6_ok : ∀ q ∈ kil6, Cond.constant (nmo 6) q.1 q.2 ∈ gw := fun _ h => absurd h List.not_mem_nil
theorem kll6_ok : ∀ q ∈ kll6, Cond.constantLong (nmo 6) q.1 q.2 ∈ gw := fun _ h => absurd h List.not_mem_nil
theorem fll7_0 : flok 7 (9, 7, 0) := ⟨(gt1 (i := 232) rfl rfl), by decide, by decide⟩
theorem fll7_1 : flok 7 (13, 7, 1) := ⟨(gt1 (i := 233) rfl rfl), by decide, by decide⟩
theorem fll7_2 : flok 7 (16, 7, 2) := ⟨(gt1 (i := 234) rfl rfl), by decide, by decide⟩
theorem fll7_3 : flok 7 (19, 7, 3) := ⟨(gt1 (i := 235) rfl rfl), by decide, by decide⟩
theorem fll7_4 : flok 7 (22, 7, 4) := ⟨(gt1 (i := 236) rfl rfl), by decide, by decide⟩
theorem fll7_5 : flok 7 (25, 7, 5) := ⟨(gt1 (i := 237) rfl rfl), by decide, by decide⟩
theorem fll7_6 : flok 7 (28, 7, 6) := ⟨(gt1 (i := 238) rfl rfl), by decide, by decide⟩
theorem fll7_7 : flok 7 (32, 7, 7) := ⟨(gt2 (i := 0) rfl rfl), by decide, by decide⟩
theorem fll7_8 : flok 7 (35, 7, 9) := ⟨(gt2 (i := 3) rfl rfl), by decide, by decide⟩
theorem fll7_9 : flok 7 (42, 7, 8) := ⟨(gt2 (i := 2) rfl rfl), by decide, by decide⟩
theorem fll7_ok : ∀ q ∈ fll7, flok 7 q := List.forall_mem_cons.mpr ⟨fll7_0, List.forall_mem_cons.mpr ⟨fll7_1, List.forall_mem_cons.mpr ⟨fll7_2, List.forall_mem_cons.mpr ⟨fll7_3, List.forall_mem_cons.mpr ⟨fll7_4, List.forall_mem_cons.mpr ⟨fll7_5, List.forall_mem_cons.mpr ⟨fll7_6, List.forall_mem_cons.mpr ⟨fll7_7, List.forall_mem_cons.mpr ⟨fll7_8, List.forall_mem_cons.mpr ⟨fll7_9, fun _ h => absurd h List.not_mem_nil⟩⟩⟩⟩⟩⟩⟩⟩⟩⟩
theorem cll7_0 : clok 7 (39, m_X7_survey, 0) := (gt4 (i := 17) rfl rfl)
theorem cll7_1 : clok 7 (45, m_X7_fittingWith, 0) := (gt4 (i := 52) rfl rfl)
theorem cll7_2 : clok 7 (49, m_X7_leftAtWorst, 0) := (gt4 (i := 61) rfl rfl)
theorem cll7_3 : clok 7 (52, m_X7_outcomeCell, 1) := (gt4 (i := 37) rfl rfl)
theorem cll7_4 : clok 7 (56, m_copy, 5) := (gt4 (i := 65) rfl rfl)
theorem cll7_5 : clok 7 (61, m_J7_fill_53178, 1) := (gt4 (i := 21) rfl rfl)
theorem cll7_6 : clok 7 (67, m_X7_guessFrom, 0) := (gt4 (i := 24) rfl rfl)
theorem cll7_7 : clok 7 (71, m_X7_guessFits, 0) := (gt4 (i := 28) rfl rfl)
theorem cll7_8 : clok 7 (75, m_X7_tally, 0) := (gt4 (i := 33) rfl rfl)
theorem cll7_9 : clok 7 (78, m_J6_signum_0f7a4, 1) := (gt4 (i := 32) rfl rfl)
theorem cll7_ok : ∀ q ∈ cll7, clok 7 q := List.forall_mem_cons.mpr ⟨cll7_0, List.forall_mem_cons.mpr ⟨cll7_1, List.forall_mem_cons.mpr ⟨cll7_2, List.forall_mem_cons.mpr ⟨cll7_3, List.forall_mem_cons.mpr ⟨cll7_4, List.forall_mem_cons.mpr ⟨cll7_5, List.forall_mem_cons.mpr ⟨cll7_6, List.forall_mem_cons.mpr ⟨cll7_7, List.forall_mem_cons.mpr ⟨cll7_8, List.forall_mem_cons.mpr ⟨cll7_9, fun _ h => absurd h List.not_mem_nil⟩⟩⟩⟩⟩⟩⟩⟩⟩⟩
theorem kil7_ok : ∀ q ∈ kil7, Cond.constant (nmo 7) q.1 q.2 ∈ gw := fun _ h => absurd h List.not_mem_nil
theorem kll7_ok : ∀ q ∈ kll7, Cond.constantLong (nmo 7) q.1 q.2 ∈ gw := fun _ h => absurd h List.not_mem_nil
theorem fll8_0 : flok 8 (12, 8, 0) := ⟨(gt2 (i := 52) rfl rfl), by decide, by decide⟩
theorem fll8_1 : flok 8 (21, 8, 1) := ⟨(gt2 (i := 53) rfl rfl), by decide, by decide⟩
theorem fll8_2 : flok 8 (25, 8, 2) := ⟨(gt2 (i := 54) rfl rfl), by decide, by decide⟩
theorem fll8_3 : flok 8 (28, 8, 3) := ⟨(gt2 (i := 55) rfl rfl), by decide, by decide⟩
theorem fll8_4 : flok 8 (34, 8, 4) := ⟨(gt2 (i := 56) rfl rfl), by decide, by decide⟩
theorem fll8_5 : flok 8 (41, 8, 5) := ⟨(gt2 (i := 57) rfl rfl), by decide, by decide⟩
theorem fll8_6 : flok 8 (48, 8, 6) := ⟨(gt2 (i := 58) rfl rfl), by decide, by decide⟩
theorem fll8_7 : flok 8 (55, 8, 7) := ⟨(gt2 (i := 59) rfl rfl), by decide, by decide⟩
theorem fll8_8 : flok 8 (62, 8, 8) := ⟨(gt2 (i := 60) rfl rfl), by decide, by decide⟩
theorem fll8_9 : flok 8 (69, 8, 9) := ⟨(gt2 (i := 61) rfl rfl), by decide, by decide⟩
theorem fll8_10 : flok 8 (73, 8, 10) := ⟨(gt2 (i := 62) rfl rfl), by decide, by decide⟩
theorem fll8_11 : flok 8 (77, 6, 2) := ⟨(gt1 (i := 135) rfl rfl), by decide, by decide⟩
theorem fll8_12 : flok 8 (91, 6, 3) := ⟨(gt1 (i := 136) rfl rfl), by decide, by decide⟩
theorem fll8_13 : flok 8 (94, 6, 0) := ⟨(gt1 (i := 132) rfl rfl), by decide, by decide⟩
theorem fll8_14 : flok 8 (103, 4, 6) := ⟨(gt1 (i := 107) rfl rfl), by decide, by decide⟩
theorem fll8_15 : flok 8 (112, 3, 0) := ⟨(gt1 (i := 37) rfl rfl), by decide, by decide⟩
theorem fll8_16 : flok 8 (116, 3, 1) := ⟨(gt1 (i := 41) rfl rfl), by decide, by decide⟩
theorem fll8_17 : flok 8 (137, 3, 2) := ⟨(gt1 (i := 47) rfl rfl), by decide, by decide⟩
theorem fll8_18 : flok 8 (140, 3, 3) := ⟨(gt1 (i := 52) rfl rfl), by decide, by decide⟩
theorem fll8_19 : flok 8 (143, 4, 2) := ⟨(gt1 (i := 100) rfl rfl), by decide, by decide⟩
theorem fll8_20 : flok 8 (146, 4, 1) := ⟨(gt1 (i := 98) rfl rfl), by decide, by decide⟩
theorem fll8_21 : flok 8 (149, 4, 3) := ⟨(gt1 (i := 102) rfl rfl), by decide, by decide⟩
theorem fll8_22 : flok 8 (155, 3, 4) := ⟨(gt1 (i := 55) rfl rfl), by decide, by decide⟩
theorem fll8_23 : flok 8 (158, 4, 5) := ⟨(gt1 (i := 106) rfl rfl), by decide, by decide⟩
theorem fll8_24 : flok 8 (161, 4, 4) := ⟨(gt1 (i := 104) rfl rfl), by decide, by decide⟩
theorem fll8_25 : flok 8 (211, 3, 6) := ⟨(gt1 (i := 67) rfl rfl), by decide, by decide⟩
theorem fll8_26 : flok 8 (240, 7, 6) := ⟨(gt1 (i := 239) rfl rfl), by decide, by decide⟩
theorem fll8_27 : flok 8 (248, 7, 7) := ⟨(gt2 (i := 1) rfl rfl), by decide, by decide⟩
theorem fll8_28 : flok 8 (273, 2, 5) := ⟨(gt2 (i := 38) rfl rfl), by decide, by decide⟩
theorem fll8_29 : flok 8 (276, 2, 1) := ⟨(gt2 (i := 33) rfl rfl), by decide, by decide⟩
theorem fll8_30 : flok 8 (295, 3, 5) := ⟨(gt1 (i := 60) rfl rfl), by decide, by decide⟩
theorem fll8_31 : flok 8 (298, 3, 7) := ⟨(gt1 (i := 71) rfl rfl), by decide, by decide⟩
theorem fll8_ok : ∀ q ∈ fll8, flok 8 q := List.forall_mem_cons.mpr ⟨fll8_0, List.forall_mem_cons.mpr ⟨fll8_1, List.forall_mem_cons.mpr ⟨fll8_2, List.forall_mem_cons.mpr ⟨fll8_3, List.forall_mem_cons.mpr ⟨fll8_4, List.forall_mem_cons.mpr ⟨fll8_5, List.forall_mem_cons.mpr ⟨fll8_6, List.forall_mem_cons.mpr ⟨fll8_7, List.forall_mem_cons.mpr ⟨fll8_8, List.forall_mem_cons.mpr ⟨fll8_9, List.forall_mem_cons.mpr ⟨fll8_10, List.forall_mem_cons.mpr ⟨fll8_11, List.forall_mem_cons.mpr ⟨fll8_12, List.forall_mem_cons.mpr ⟨fll8_13, List.forall_mem_cons.mpr ⟨fll8_14, List.forall_mem_cons.mpr ⟨fll8_15, List.forall_mem_cons.mpr ⟨fll8_16, List.forall_mem_cons.mpr ⟨fll8_17, List.forall_mem_cons.mpr ⟨fll8_18, List.forall_mem_cons.mpr ⟨fll8_19, List.forall_mem_cons.mpr ⟨fll8_20, List.forall_mem_cons.mpr ⟨fll8_21, List.forall_mem_cons.mpr ⟨fll8_22, List.forall_mem_cons.mpr ⟨fll8_23, List.forall_mem_cons.mpr ⟨fll8_24, List.forall_mem_cons.mpr ⟨fll8_25, List.forall_mem_cons.mpr ⟨fll8_26, List.forall_mem_cons.mpr ⟨fll8_27, List.forall_mem_cons.mpr ⟨fll8_28, List.forall_mem_cons.mpr ⟨fll8_29, List.forall_mem_cons.mpr ⟨fll8_30, List.forall_mem_cons.mpr ⟨fll8_31, fun _ h => absurd h List.not_mem_nil⟩⟩⟩⟩⟩⟩⟩⟩⟩⟩⟩⟩⟩⟩⟩⟩⟩⟩⟩⟩⟩⟩⟩⟩⟩⟩⟩⟩⟩⟩⟩⟩
theorem cll8_0 : clok 8 (83, m_X6_append, 0) := (gt2 (i := 91) rfl rfl)
theorem cll8_1 : clok 8 (87, m_X6_readAll, 0) := (gt2 (i := 103) rfl rfl)
theorem cll8_2 : clok 8 (97, m_X3_copyFrom, 0) := (gt2 (i := 207) rfl rfl)
theorem cll8_3 : clok 8 (100, m_X4_reset, 0) := (gt2 (i := 214) rfl rfl)
theorem cll8_4 : clok 8 (107, m_X3_hasPlank, 0) := (gt2 (i := 223) rfl rfl)
theorem cll8_5 : clok 8 (119, m_X4_moment, 0) := (gt2 (i := 228) rfl rfl)
theorem cll8_6 : clok 8 (123, m_X4_tilt, 0) := (gt2 (i := 236) rfl rfl)
theorem cll8_7 : clok 8 (126, m_X4_childrenOn, 0) := (gt3 (i := 4) rfl rfl)
theorem cll8_8 : clok 8 (129, m_J6_bitCount_0f7a4, 1) := (gt3 (i := 8) rfl rfl)
theorem cll8_9 : clok 8 (134, m_X3_hasChild, 0) := (gt3 (i := 18) rfl rfl)
theorem cll8_10 : clok 8 (152, m_X3_hasStone, 0) := (gt3 (i := 26) rfl rfl)
theorem cll8_11 : clok 8 (164, m_X3_hasSeat, 0) := (gt3 (i := 34) rfl rfl)
theorem cll8_12 : clok 8 (168, m_X4_hasChildAt, 0) := (gt3 (i := 39) rfl rfl)
theorem cll8_13 : clok 8 (171, m_X4_unseatChild, 0) := (gt3 (i := 43) rfl rfl)
theorem cll8_14 : clok 8 (174, m_X4_seatChild, 0) := (gt3 (i := 55) rfl rfl)
theorem cll8_15 : clok 8 (178, m_X4_hasStoneAt, 0) := (gt3 (i := 67) rfl rfl)
theorem cll8_16 : clok 8 (181, m_X4_liftStone, 0) := (gt3 (i := 71) rfl rfl)
theorem cll8_17 : clok 8 (184, m_X4_putStone, 0) := (gt3 (i := 75) rfl rfl)
theorem cll8_18 : clok 8 (187, m_X3_allChildren, 0) := (gt3 (i := 87) rfl rfl)
theorem cll8_19 : clok 8 (190, m_X8_askWays, 0) := (gt3 (i := 91) rfl rfl)
theorem cll8_20 : clok 8 (194, m_X5_countWays, 0) := (gt3 (i := 111) rfl rfl)
theorem cll8_21 : clok 8 (197, m_X5_findFirst, 0) := (gt3 (i := 128) rfl rfl)
theorem cll8_22 : clok 8 (201, m_X5_chosenStep, 0) := (gt3 (i := 136) rfl rfl)
theorem cll8_23 : clok 8 (204, m_X8_isZeroOrOne, 1) := (gt3 (i := 144) rfl rfl)
theorem cll8_24 : clok 8 (207, m_X1_spread, 0) := (gt3 (i := 147) rfl rfl)
theorem cll8_25 : clok 8 (214, m_X4_stoneMoment, 0) := (gt3 (i := 95) rfl rfl)
theorem cll8_26 : clok 8 (217, m_X1_largestLevel, 0) := (gt3 (i := 165) rfl rfl)
theorem cll8_27 : clok 8 (220, m_X8_countOrSet, 1) := (gt3 (i := 174) rfl rfl)
theorem cll8_28 : clok 8 (224, m_X5_fewestChanges, 0) := (gt3 (i := 181) rfl rfl)
theorem cll8_29 : clok 8 (227, m_X8_leastBallast, 0) := (gt3 (i := 193) rfl rfl)
theorem cll8_30 : clok 8 (230, m_X4_idleChildren, 0) := (gt3 (i := 209) rfl rfl)
theorem cll8_31 : clok 8 (233, m_X0_begin, 0) := (gt3 (i := 213) rfl rfl)
theorem cll8_32 : clok 8 (237, m_X0_winningMove, 0) := (gt3 (i := 220) rfl rfl)
theorem cll8_33 : clok 8 (243, m_X7_begin, 0) := (gt3 (i := 233) rfl rfl)
theorem cll8_34 : clok 8 (245, m_X7_hasStranger, 0) := (gt4 (i := 1) rfl rfl)
theorem cll8_35 : clok 8 (251, m_X7_addTrial, 0) := (gt4 (i := 5) rfl rfl)
theorem cll8_36 : clok 8 (255, m_X7_fitting, 0) := (gt4 (i := 13) rfl rfl)
theorem cll8_37 : clok 8 (258, m_X7_fittingWith, 0) := (gt4 (i := 40) rfl rfl)
theorem cll8_38 : clok 8 (261, m_X7_onlyWeight, 0) := (gt4 (i := 48) rfl rfl)
theorem cll8_39 : clok 8 (264, m_X7_bestPair, 0) := (gt4 (i := 57) rfl rfl)
theorem cll8_40 : clok 8 (267, m_X7_leftAtWorst, 0) := (gt4 (i := 68) rfl rfl)
theorem cll8_41 : clok 8 (270, m_X2_run, 0) := (gt4 (i := 73) rfl rfl)
theorem cll8_42 : clok 8 (279, m_X8_hasPartner, 0) := (gt4 (i := 110) rfl rfl)
theorem cll8_43 : clok 8 (282, m_X8_rateAs, 0) := (gt4 (i := 119) rfl rfl)
theorem cll8_44 : clok 8 (285, m_X8_imageOf, 0) := (gt4 (i := 131) rfl rfl)
theorem cll8_45 : clok 8 (289, m_X4_copyFrom, 0) := (gt4 (i := 135) rfl rfl)
theorem cll8_46 : clok 8 (292, m_X4_seatedChildren, 0) := (gt4 (i := 140) rfl rfl)
theorem cll8_47 : clok 8 (301, m_X5_begin, 0) := (gt3 (i := 96) rfl rfl)
theorem cll8_48 : clok 8 (303, m_X8_stepOfSeat, 1) := (gt3 (i := 100) rfl rfl)
theorem cll8_49 : clok 8 (306, m_X5_addSeat, 0) := (gt3 (i := 103) rfl rfl)
theorem cll8_50 : clok 8 (309, m_X5_addBody, 0) := (gt3 (i := 107) rfl rfl)
theorem cll8_51 : clok 8 (312, m_X4_idleStones, 0) := (gt3 (i := 197) rfl rfl)
theorem cll8_52 : clok 8 (315, m_X8_canBallast, 0) := (gt3 (i := 201) rfl rfl)
theorem cll8_53 : clok 8 (318, m_X3_fits, 0) := (gt4 (i := 114) rfl rfl)
theorem cll8_ok : ∀ q ∈ cll8, clok 8 q := List.forall_mem_cons.mpr ⟨cll8_0, List.forall_mem_cons.mpr ⟨cll8_1, List.forall_mem_cons.mpr ⟨cll8_2, List.forall_mem_cons.mpr ⟨cll8_3, List.forall_mem_cons.mpr ⟨cll8_4, List.forall_mem_cons.mpr ⟨cll8_5, List.forall_mem_cons.mpr ⟨cll8_6, List.forall_mem_cons.mpr ⟨cll8_7, List.forall_mem_cons.mpr ⟨cll8_8, List.forall_mem_cons.mpr ⟨cll8_9, List.forall_mem_cons.mpr ⟨cll8_10, List.forall_mem_cons.mpr ⟨cll8_11, List.forall_mem_cons.mpr ⟨cll8_12, List.forall_mem_cons.mpr ⟨cll8_13, List.forall_mem_cons.mpr ⟨cll8_14, List.forall_mem_cons.mpr ⟨cll8_15, List.forall_mem_cons.mpr ⟨cll8_16, List.forall_mem_cons.mpr ⟨cll8_17, List.forall_mem_cons.mpr ⟨cll8_18, List.forall_mem_cons.mpr ⟨cll8_19, List.forall_mem_cons.mpr ⟨cll8_20, List.forall_mem_cons.mpr ⟨cll8_21, List.forall_mem_cons.mpr ⟨cll8_22, List.forall_mem_cons.mpr ⟨cll8_23, List.forall_mem_cons.mpr ⟨cll8_24, List.forall_mem_cons.mpr ⟨cll8_25, List.forall_mem_cons.mpr ⟨cll8_26, List.forall_mem_cons.mpr ⟨cll8_27, List.forall_mem_cons.mpr ⟨cll8_28, List.forall_mem_cons.mpr ⟨cll8_29, List.forall_mem_cons.mpr ⟨cll8_30, List.forall_mem_cons.mpr ⟨cll8_31, List.forall_mem_cons.mpr ⟨cll8_32, List.forall_mem_cons.mpr ⟨cll8_33, List.forall_mem_cons.mpr ⟨cll8_34, List.forall_mem_cons.mpr ⟨cll8_35, List.forall_mem_cons.mpr ⟨cll8_36, List.forall_mem_cons.mpr ⟨cll8_37, List.forall_mem_cons.mpr ⟨cll8_38, List.forall_mem_cons.mpr ⟨cll8_39, List.forall_mem_cons.mpr ⟨cll8_40, List.forall_mem_cons.mpr ⟨cll8_41, List.forall_mem_cons.mpr ⟨cll8_42, List.forall_mem_cons.mpr ⟨cll8_43, List.forall_mem_cons.mpr ⟨cll8_44, List.forall_mem_cons.mpr ⟨cll8_45, List.forall_mem_cons.mpr ⟨cll8_46, List.forall_mem_cons.mpr ⟨cll8_47, List.forall_mem_cons.mpr ⟨cll8_48, List.forall_mem_cons.mpr ⟨cll8_49, List.forall_mem_cons.mpr ⟨cll8_50, List.forall_mem_cons.mpr ⟨cll8_51, List.forall_mem_cons.mpr ⟨cll8_52, List.forall_mem_cons.mpr ⟨cll8_53, fun _ h => absurd h List.not_mem_nil⟩⟩⟩⟩⟩⟩⟩⟩⟩⟩⟩⟩⟩⟩⟩⟩⟩⟩⟩⟩⟩⟩⟩⟩⟩⟩⟩⟩⟩⟩⟩⟩⟩⟩⟩⟩⟩⟩⟩⟩⟩⟩⟩⟩⟩⟩⟩⟩⟩⟩⟩⟩⟩⟩
theorem kil8_0 : Cond.constant (nmo 8) 111 (-1000000) ∈ gw := (gt2 (i := 227) rfl rfl)
theorem kil8_ok : ∀ q ∈ kil8, Cond.constant (nmo 8) q.1 q.2 ∈ gw := List.forall_mem_cons.mpr ⟨kil8_0, fun _ h => absurd h List.not_mem_nil⟩
theorem kll8_0 : Cond.constantLong (nmo 8) 81 (255) ∈ gw := (gt2 (i := 90) rfl rfl)
theorem kll8_ok : ∀ q ∈ kll8, Cond.constantLong (nmo 8) q.1 q.2 ∈ gw := List.forall_mem_cons.mpr ⟨kll8_0, fun _ h => absurd h List.not_mem_nil⟩
theorem fll9_0 : flok 9 (7, 9, 2) := ⟨(gt4 (i := 173) rfl rfl), by decide, by decide⟩
theorem fll9_1 : flok 9 (13, 9, 9) := ⟨(gt4 (i := 180) rfl rfl), by decide, by decide⟩
theorem fll9_2 : flok 9 (16, 9, 10) := ⟨(gt4 (i := 181) rfl rfl), by decide, by decide⟩
theorem fll9_3 : flok 9 (19, 9, 11) := ⟨(gt4 (i := 182) rfl rfl), by decide, by decide⟩
theorem fll9_4 : flok 9 (22, 9, 12) := ⟨(gt4 (i := 183) rfl rfl), by decide, by decide⟩
theorem fll9_5 : flok 9 (25, 9, 13) := ⟨(gt4 (i := 184) rfl rfl), by decide, by decide⟩
theorem fll9_6 : flok 9 (28, 9, 20) := ⟨(gt4 (i := 191) rfl rfl), by decide, by decide⟩
theorem fll9_7 : flok 9 (31, 9, 21) := ⟨(gt4 (i := 192) rfl rfl), by decide, by decide⟩
theorem fll9_8 : flok 9 (34, 9, 22) := ⟨(gt4 (i := 193) rfl rfl), by decide, by decide⟩
theorem fll9_9 : flok 9 (38, 9, 23) := ⟨(gt4 (i := 194) rfl rfl), by decide, by decide⟩
theorem fll9_10 : flok 9 (41, 9, 25) := ⟨(gt4 (i := 196) rfl rfl), by decide, by decide⟩
theorem fll9_11 : flok 9 (44, 9, 26) := ⟨(gt4 (i := 197) rfl rfl), by decide, by decide⟩
theorem fll9_12 : flok 9 (47, 9, 28) := ⟨(gt4 (i := 199) rfl rfl), by decide, by decide⟩
theorem fll9_13 : flok 9 (50, 9, 30) := ⟨(gt4 (i := 201) rfl rfl), by decide, by decide⟩
theorem fll9_14 : flok 9 (53, 9, 31) := ⟨(gt4 (i := 202) rfl rfl), by decide, by decide⟩
theorem fll9_15 : flok 9 (56, 9, 33) := ⟨(gt4 (i := 204) rfl rfl), by decide, by decide⟩
theorem fll9_16 : flok 9 (59, 9, 34) := ⟨(gt4 (i := 205) rfl rfl), by decide, by decide⟩
theorem fll9_17 : flok 9 (62, 9, 35) := ⟨(gt4 (i := 206) rfl rfl), by decide, by decide⟩
theorem fll9_18 : flok 9 (65, 9, 27) := ⟨(gt4 (i := 198) rfl rfl), by decide, by decide⟩
theorem fll9_19 : flok 9 (72, 9, 0) := ⟨(gt4 (i := 171) rfl rfl), by decide, by decide⟩
theorem fll9_20 : flok 9 (79, 9, 3) := ⟨(gt4 (i := 174) rfl rfl), by decide, by decide⟩
theorem fll9_21 : flok 9 (94, 9, 4) := ⟨(gt4 (i := 175) rfl rfl), by decide, by decide⟩
theorem fll9_22 : flok 9 (101, 9, 6) := ⟨(gt4 (i := 177) rfl rfl), by decide, by decide⟩
theorem fll9_23 : flok 9 (104, 9, 5) := ⟨(gt4 (i := 176) rfl rfl), by decide, by decide⟩
theorem fll9_24 : flok 9 (111, 9, 7) := ⟨(gt4 (i := 178) rfl rfl), by decide, by decide⟩
theorem fll9_25 : flok 9 (114, 9, 8) := ⟨(gt4 (i := 179) rfl rfl), by decide, by decide⟩
theorem fll9_26 : flok 9 (128, 9, 17) := ⟨(gt4 (i := 188) rfl rfl), by decide, by decide⟩
theorem fll9_27 : flok 9 (135, 9, 18) := ⟨(gt4 (i := 189) rfl rfl), by decide, by decide⟩
theorem fll9_28 : flok 9 (138, 9, 19) := ⟨(gt4 (i := 190) rfl rfl), by decide, by decide⟩
theorem fll9_29 : flok 9 (145, 9, 14) := ⟨(gt4 (i := 185) rfl rfl), by decide, by decide⟩
theorem fll9_30 : flok 9 (148, 9, 15) := ⟨(gt4 (i := 186) rfl rfl), by decide, by decide⟩
theorem fll9_31 : flok 9 (151, 9, 16) := ⟨(gt4 (i := 187) rfl rfl), by decide, by decide⟩
theorem fll9_32 : flok 9 (193, 9, 24) := ⟨(gt4 (i := 195) rfl rfl), by decide, by decide⟩
theorem fll9_33 : flok 9 (243, 9, 29) := ⟨(gt4 (i := 200) rfl rfl), by decide, by decide⟩
theorem fll9_34 : flok 9 (264, 9, 32) := ⟨(gt4 (i := 203) rfl rfl), by decide, by decide⟩
theorem fll9_35 : flok 9 (289, 9, 1) := ⟨(gt4 (i := 172) rfl rfl), by decide, by decide⟩
theorem fll9_ok : ∀ q ∈ fll9, flok 9 q := List.forall_mem_cons.mpr ⟨fll9_0, List.forall_mem_cons.mpr ⟨fll9_1, List.forall_mem_cons.mpr ⟨fll9_2, List.forall_mem_cons.mpr ⟨fll9_3, List.forall_mem_cons.mpr ⟨fll9_4, List.forall_mem_cons.mpr ⟨fll9_5, List.forall_mem_cons.mpr ⟨fll9_6, List.forall_mem_cons.mpr ⟨fll9_7, List.forall_mem_cons.mpr ⟨fll9_8, List.forall_mem_cons.mpr ⟨fll9_9, List.forall_mem_cons.mpr ⟨fll9_10, List.forall_mem_cons.mpr ⟨fll9_11, List.forall_mem_cons.mpr ⟨fll9_12, List.forall_mem_cons.mpr ⟨fll9_13, List.forall_mem_cons.mpr ⟨fll9_14, List.forall_mem_cons.mpr ⟨fll9_15, List.forall_mem_cons.mpr ⟨fll9_16, List.forall_mem_cons.mpr ⟨fll9_17, List.forall_mem_cons.mpr ⟨fll9_18, List.forall_mem_cons.mpr ⟨fll9_19, List.forall_mem_cons.mpr ⟨fll9_20, List.forall_mem_cons.mpr ⟨fll9_21, List.forall_mem_cons.mpr ⟨fll9_22, List.forall_mem_cons.mpr ⟨fll9_23, List.forall_mem_cons.mpr ⟨fll9_24, List.forall_mem_cons.mpr ⟨fll9_25, List.forall_mem_cons.mpr ⟨fll9_26, List.forall_mem_cons.mpr ⟨fll9_27, List.forall_mem_cons.mpr ⟨fll9_28, List.forall_mem_cons.mpr ⟨fll9_29, List.forall_mem_cons.mpr ⟨fll9_30, List.forall_mem_cons.mpr ⟨fll9_31, List.forall_mem_cons.mpr ⟨fll9_32, List.forall_mem_cons.mpr ⟨fll9_33, List.forall_mem_cons.mpr ⟨fll9_34, List.forall_mem_cons.mpr ⟨fll9_35, fun _ h => absurd h List.not_mem_nil⟩⟩⟩⟩⟩⟩⟩⟩⟩⟩⟩⟩⟩⟩⟩⟩⟩⟩⟩⟩⟩⟩⟩⟩⟩⟩⟩⟩⟩⟩⟩⟩⟩⟩⟩⟩
theorem cll9_0 : clok 9 (69, m_X9_begins, 0) := (gt4 (i := 164) rfl rfl)
theorem cll9_1 : clok 9 (75, m_X9_in, 1) := (gt4 (i := 168) rfl rfl)
theorem cll9_2 : clok 9 (86, m_X9_add, 1) := (gt5 (i := 62) rfl rfl)
theorem cll9_3 : clok 9 (90, m_X9_named, 1) := (gt5 (i := 69) rfl rfl)
theorem cll9_4 : clok 9 (97, m_X9_byteAt, 0) := (gt5 (i := 58) rfl rfl)
theorem cll9_5 : clok 9 (107, m_X9_wordOf, 1) := (gt5 (i := 66) rfl rfl)
theorem cll9_6 : clok 9 (117, m_X9_isWell, 0) := (gt5 (i := 72) rfl rfl)
theorem cll9_7 : clok 9 (121, m_X9_advances, 0) := (gt5 (i := 54) rfl rfl)
theorem cll9_8 : clok 9 (124, m_X9_takes, 0) := (gt5 (i := 76) rfl rfl)
theorem cll9_9 : clok 9 (131, m_X9_number, 0) := (gt5 (i := 84) rfl rfl)
theorem cll9_10 : clok 9 (141, m_X9_readsItem, 0) := (gt5 (i := 80) rfl rfl)
theorem cll9_11 : clok 9 (154, m_X9_stonesOn, 0) := (gt5 (i := 101) rfl rfl)
theorem cll9_12 : clok 9 (157, m_X9_size, 1) := (gt5 (i := 113) rfl rfl)
theorem cll9_13 : clok 9 (160, m_X9_momentOf, 0) := (gt5 (i := 97) rfl rfl)
theorem cll9_14 : clok 9 (163, m_X9_tiltBy, 0) := (gt5 (i := 109) rfl rfl)
theorem cll9_15 : clok 9 (166, m_X9_isPlank, 0) := (gt5 (i := 92) rfl rfl)
theorem cll9_16 : clok 9 (171, m_X9_tiltOf, 0) := (gt5 (i := 105) rfl rfl)
theorem cll9_17 : clok 9 (174, m_X9_sittingOn, 0) := (gt5 (i := 116) rfl rfl)
theorem cll9_18 : clok 9 (177, m_X9_isChild, 0) := (gt5 (i := 124) rfl rfl)
theorem cll9_19 : clok 9 (180, m_X9_isStone, 0) := (gt5 (i := 132) rfl rfl)
theorem cll9_20 : clok 9 (183, m_X9_bumps, 0) := (gt5 (i := 144) rfl rfl)
theorem cll9_21 : clok 9 (186, m_X9_goes, 0) := (gt5 (i := 140) rfl rfl)
theorem cll9_22 : clok 9 (189, m_X9_comes, 0) := (gt5 (i := 148) rfl rfl)
theorem cll9_23 : clok 9 (196, m_X9_seats, 0) := (gt5 (i := 177) rfl rfl)
theorem cll9_24 : clok 9 (199, m_X9_freeSeat, 0) := (gt5 (i := 181) rfl rfl)
theorem cll9_25 : clok 9 (202, m_X9_stepOf, 0) := (gt5 (i := 185) rfl rfl)
theorem cll9_26 : clok 9 (205, m_X9_all, 0) := (gt5 (i := 168) rfl rfl)
theorem cll9_27 : clok 9 (210, m_X9_waysOf, 0) := (gt5 (i := 173) rfl rfl)
theorem cll9_28 : clok 9 (214, m_X9_ones, 1) := (gt5 (i := 193) rfl rfl)
theorem cll9_29 : clok 9 (217, m_X9_hasStone, 0) := (gt5 (i := 208) rfl rfl)
theorem cll9_30 : clok 9 (221, m_X9_levels, 0) := (gt5 (i := 204) rfl rfl)
theorem cll9_31 : clok 9 (224, m_X9_isTaken, 0) := (gt5 (i := 224) rfl rfl)
theorem cll9_32 : clok 9 (227, m_X9_mayPut, 0) := (gt5 (i := 220) rfl rfl)
theorem cll9_33 : clok 9 (231, m_X9_lastMove, 0) := (gt5 (i := 236) rfl rfl)
theorem cll9_34 : clok 9 (234, m_X9_twoMoves, 0) := (gt5 (i := 232) rfl rfl)
theorem cll9_35 : clok 9 (237, m_X9_threeMoves, 0) := (gt5 (i := 228) rfl rfl)
theorem cll9_36 : clok 9 (240, m_X9_fourMoves, 0) := (gt5 (i := 216) rfl rfl)
theorem cll9_37 : clok 9 (246, m_X9_isStranger, 0) := (gt6 (i := 8) rfl rfl)
theorem cll9_38 : clok 9 (249, m_X9_weightIn, 1) := (gt6 (i := 31) rfl rfl)
theorem cll9_39 : clok 9 (252, m_X9_weighs, 1) := (gt6 (i := 28) rfl rfl)
theorem cll9_40 : clok 9 (255, m_X9_allWays, 0) := (gt6 (i := 20) rfl rfl)
theorem cll9_41 : clok 9 (258, m_X9_fits, 0) := (gt6 (i := 24) rfl rfl)
theorem cll9_42 : clok 9 (261, m_X9_couldBe, 0) := (gt6 (i := 16) rfl rfl)
theorem cll9_43 : clok 9 (267, m_X9_lesser, 1) := (gt6 (i := 54) rfl rfl)
theorem cll9_44 : clok 9 (270, m_X9_waits, 0) := (gt6 (i := 57) rfl rfl)
theorem cll9_45 : clok 9 (273, m_X9_areAPair, 0) := (gt6 (i := 65) rfl rfl)
theorem cll9_46 : clok 9 (276, m_X9_outOfRow, 0) := (gt6 (i := 69) rfl rfl)
theorem cll9_47 : clok 9 (279, m_X9_letsOff, 0) := (gt6 (i := 50) rfl rfl)
theorem cll9_48 : clok 9 (282, m_X9_takesOn, 0) := (gt6 (i := 61) rfl rfl)
theorem cll9_49 : clok 9 (286, m_X9_goesBy, 0) := (gt6 (i := 46) rfl rfl)
theorem cll9_50 : clok 9 (303, m_X9_sitting, 0) := (gt6 (i := 90) rfl rfl)
theorem cll9_ok : ∀ q ∈ cll9, clok 9 q := List.forall_mem_cons.mpr ⟨cll9_0, List.forall_mem_cons.mpr ⟨cll9_1, List.forall_mem_cons.mpr ⟨cll9_2, List.forall_mem_cons.mpr ⟨cll9_3, List.forall_mem_cons.mpr ⟨cll9_4, List.forall_mem_cons.mpr ⟨cll9_5, List.forall_mem_cons.mpr ⟨cll9_6, List.forall_mem_cons.mpr ⟨cll9_7, List.forall_mem_cons.mpr ⟨cll9_8, List.forall_mem_cons.mpr ⟨cll9_9, List.forall_mem_cons.mpr ⟨cll9_10, List.forall_mem_cons.mpr ⟨cll9_11, List.forall_mem_cons.mpr ⟨cll9_12, List.forall_mem_cons.mpr ⟨cll9_13, List.forall_mem_cons.mpr ⟨cll9_14, List.forall_mem_cons.mpr ⟨cll9_15, List.forall_mem_cons.mpr ⟨cll9_16, List.forall_mem_cons.mpr ⟨cll9_17, List.forall_mem_cons.mpr ⟨cll9_18, List.forall_mem_cons.mpr ⟨cll9_19, List.forall_mem_cons.mpr ⟨cll9_20, List.forall_mem_cons.mpr ⟨cll9_21, List.forall_mem_cons.mpr ⟨cll9_22, List.forall_mem_cons.mpr ⟨cll9_23, List.forall_mem_cons.mpr ⟨cll9_24, List.forall_mem_cons.mpr ⟨cll9_25, List.forall_mem_cons.mpr ⟨cll9_26, List.forall_mem_cons.mpr ⟨cll9_27, List.forall_mem_cons.mpr ⟨cll9_28, List.forall_mem_cons.mpr ⟨cll9_29, List.forall_mem_cons.mpr ⟨cll9_30, List.forall_mem_cons.mpr ⟨cll9_31, List.forall_mem_cons.mpr ⟨cll9_32, List.forall_mem_cons.mpr ⟨cll9_33, List.forall_mem_cons.mpr ⟨cll9_34, List.forall_mem_cons.mpr ⟨cll9_35, List.forall_mem_cons.mpr ⟨cll9_36, List.forall_mem_cons.mpr ⟨cll9_37, List.forall_mem_cons.mpr ⟨cll9_38, List.forall_mem_cons.mpr ⟨cll9_39, List.forall_mem_cons.mpr ⟨cll9_40, List.forall_mem_cons.mpr ⟨cll9_41, List.forall_mem_cons.mpr ⟨cll9_42, List.forall_mem_cons.mpr ⟨cll9_43, List.forall_mem_cons.mpr ⟨cll9_44, List.forall_mem_cons.mpr ⟨cll9_45, List.forall_mem_cons.mpr ⟨cll9_46, List.forall_mem_cons.mpr ⟨cll9_47, List.forall_mem_cons.mpr ⟨cll9_48, List.forall_mem_cons.mpr ⟨cll9_49, List.forall_mem_cons.mpr ⟨cll9_50, fun _ h => absurd h List.not_mem_nil⟩⟩⟩⟩⟩⟩⟩⟩⟩⟩⟩⟩⟩⟩⟩⟩⟩⟩⟩⟩⟩⟩⟩⟩⟩⟩⟩⟩⟩⟩⟩⟩⟩⟩⟩⟩⟩⟩⟩⟩⟩⟩⟩⟩⟩⟩⟩⟩⟩⟩⟩
theorem kil9_0 : Cond.constant (nmo 9) 170 (-1000000) ∈ gw := (gt5 (i := 96) rfl rfl)
theorem kil9_1 : Cond.constant (nmo 9) 209 (1000000) ∈ gw := (gt5 (i := 172) rfl rfl)
theorem kil9_ok : ∀ q ∈ kil9, Cond.constant (nmo 9) q.1 q.2 ∈ gw := List.forall_mem_cons.mpr ⟨kil9_0, List.forall_mem_cons.mpr ⟨kil9_1, fun _ h => absurd h List.not_mem_nil⟩⟩
theorem kll9_0 : Cond.constantLong (nmo 9) 82 (255) ∈ gw := (gt5 (i := 45) rfl rfl)
theorem kll9_1 : Cond.constantLong (nmo 9) 84 (256) ∈ gw := (gt5 (i := 65) rfl rfl)
theorem kll9_2 : Cond.constantLong (nmo 9) 293 (11) ∈ gw := (gt6 (i := 81) rfl rfl)
theorem kll9_3 : Cond.constantLong (nmo 9) 295 (101) ∈ gw := (gt6 (i := 82) rfl rfl)
theorem kll9_4 : Cond.constantLong (nmo 9) 297 (1011) ∈ gw := (gt6 (i := 83) rfl rfl)
theorem kll9_5 : Cond.constantLong (nmo 9) 299 (10101) ∈ gw := (gt6 (i := 84) rfl rfl)
theorem kll9_6 : Cond.constantLong (nmo 9) 301 (100001) ∈ gw := (gt6 (i := 85) rfl rfl)
theorem kll9_ok : ∀ q ∈ kll9, Cond.constantLong (nmo 9) q.1 q.2 ∈ gw := List.forall_mem_cons.mpr ⟨kll9_0, List.forall_mem_cons.mpr ⟨kll9_1, List.forall_mem_cons.mpr ⟨kll9_2, List.forall_mem_cons.mpr ⟨kll9_3, List.forall_mem_cons.mpr ⟨kll9_4, List.forall_mem_cons.mpr ⟨kll9_5, List.forall_mem_cons.mpr ⟨kll9_6, fun _ h => absurd h List.not_mem_nil⟩⟩⟩⟩⟩⟩⟩
theorem fll10_ok : ∀ q ∈ fll10, flok 10 q := fun _ h => absurd h List.not_mem_nil
theorem cll10_ok : ∀ q ∈ cll10, clok 10 q := fun _ h => absurd h List.not_mem_nil
theorem kil10_0 : Cond.constant (nmo 10) 265 (1431655765) ∈ gw := (gt3 (i := 11) rfl rfl)
theorem kil10_1 : Cond.constant (nmo 10) 266 (858993459) ∈ gw := (gt3 (i := 12) rfl rfl)
theorem kil10_2 : Cond.constant (nmo 10) 267 (252645135) ∈ gw := (gt3 (i := 13) rfl rfl)
theorem kil10_ok : ∀ q ∈ kil10, Cond.constant (nmo 10) q.1 q.2 ∈ gw := List.forall_mem_cons.mpr ⟨kil10_0, List.forall_mem_cons.mpr ⟨kil10_1, List.forall_mem_cons.mpr ⟨kil10_2, fun _ h => absurd h List.not_mem_nil⟩⟩⟩
theorem kll10_ok : ∀ q ∈ kll10, Cond.constantLong (nmo 10) q.1 q.2 ∈ gw := fun _ h => absurd h List.not_mem_nil
theorem fll11_ok : ∀ q ∈ fll11, flok 11 q := fun _ h => absurd h List.not_mem_nil
theorem cll11_ok : ∀ q ∈ cll11, clok 11 q := fun _ h => absurd h List.not_mem_nil
theorem kil11_ok : ∀ q ∈ kil11, Cond.constant (nmo 11) q.1 q.2 ∈ gw := fun _ h => absurd h List.not_mem_nil
theorem kll11_ok : ∀ q ∈ kll11, Cond.constantLong (nmo 11) q.1 q.2 ∈ gw := fun _ h => absurd h List.not_mem_nil
theorem fll12_ok : ∀ q ∈ fll12, flok 12 q := fun _ h => absurd h List.not_mem_nil
theorem cll12_ok : ∀ q ∈ cll12, clok 12 q := fun _ h => absurd h List.not_mem_nil
theorem kil12_ok : ∀ q ∈ kil12, Cond.constant (nmo 12) q.1 q.2 ∈ gw := fun _ h => absurd h List.not_mem_nil
theorem kll12_ok : ∀ q ∈ kll12, Cond.constantLong (nmo 12) q.1 q.2 ∈ gw := fun _ h => absurd h List.not_mem_nil
theorem fll13_ok : ∀ q ∈ fll13, flok 13 q := fun _ h => absurd h List.not_mem_nil
theorem cll13_0 : clok 13 (335, m_J0_coder_7d493, 0) := (gt2 (i := 131) rfl rfl)
theorem cll13_1 : clok 13 (492, m_J0_isLatin1_aae02, 0) := (gt2 (i := 141) rfl rfl)
theorem cll13_2 : clok 13 (495, m_J1_charAt_3b067, 1) := (gt2 (i := 145) rfl rfl)
theorem cll13_3 : clok 13 (1059, m_J3_checkIndex_8e157, 1) := (gt2 (i := 153) rfl rfl)
theorem cll13_ok : ∀ q ∈ cll13, clok 13 q := List.forall_mem_cons.mpr ⟨cll13_0, List.forall_mem_cons.mpr ⟨cll13_1, List.forall_mem_cons.mpr ⟨cll13_2, List.forall_mem_cons.mpr ⟨cll13_3, fun _ h => absurd h List.not_mem_nil⟩⟩⟩⟩
theorem kil13_ok : ∀ q ∈ kil13, Cond.constant (nmo 13) q.1 q.2 ∈ gw := fun _ h => absurd h List.not_mem_nil
theorem kll13_ok : ∀ q ∈ kll13, Cond.constantLong (nmo 13) q.1 q.2 ∈ gw := fun _ h => absurd h List.not_mem_nil
theorem fll14_ok : ∀ q ∈ fll14, flok 14 q := fun _ h => absurd h List.not_mem_nil
theorem cll14_0 : clok 14 (9, m_J0_checkIndex_df160, 1) := (gt2 (i := 148) rfl rfl)
theorem cll14_ok : ∀ q ∈ cll14, clok 14 q := List.forall_mem_cons.mpr ⟨cll14_0, fun _ h => absurd h List.not_mem_nil⟩
theorem kil14_ok : ∀ q ∈ kil14, Cond.constant (nmo 14) q.1 q.2 ∈ gw := fun _ h => absurd h List.not_mem_nil
theorem kll14_ok : ∀ q ∈ kll14, Cond.constantLong (nmo 14) q.1 q.2 ∈ gw := fun _ h => absurd h List.not_mem_nil
theorem fll15_ok : ∀ q ∈ fll15, flok 15 q := fun _ h => absurd h List.not_mem_nil
theorem cll15_ok : ∀ q ∈ cll15, clok 15 q := fun _ h => absurd h List.not_mem_nil
theorem kil15_ok : ∀ q ∈ kil15, Cond.constant (nmo 15) q.1 q.2 ∈ gw := fun _ h => absurd h List.not_mem_nil
theorem kll15_ok : ∀ q ∈ kll15, Cond.constantLong (nmo 15) q.1 q.2 ∈ gw := fun _ h => absurd h List.not_mem_nil
theorem fll_ok : ∀ (own : Nat) (r : List (Nat × Nat × Nat)), fll[own]? = some r → ∀ q ∈ r, flok own q := by
  intro own r h
  match own, h with
  | 0, h => cases h; exact fll0_ok
  | 1, h => cases h; exact fll1_ok
  | 2, h => cases h; exact fll2_ok
  | 3, h => cases h; exact fll3_ok
  | 4, h => cases h; exact fll4_ok
  | 5, h => cases h; exact fll5_ok
  | 6, h => cases h; exact fll6_ok
  | 7, h => cases h; exact fll7_ok
  | 8, h => cases h; exact fll8_ok
  | 9, h => cases h; exact fll9_ok
  | 10, h => cases h; exact fll10_ok
  | 11, h => cases h; exact fll11_ok
  | 12, h => cases h; exact fll12_ok
  | 13, h => cases h; exact fll13_ok
  | 14, h => cases h; exact fll14_ok
  | 15, h => cases h; exact fll15_ok
  | n + 16, h => exact absurd h (by unfold fll; simp)
theorem cll_ok : ∀ (own : Nat) (r : List (Nat × Mth × Nat)), cll[own]? = some r → ∀ q ∈ r, clok own q := by
  intro own r h
  match own, h with
  | 0, h => cases h; exact cll0_ok
  | 1, h => cases h; exact cll1_ok
  | 2, h => cases h; exact cll2_ok
  | 3, h => cases h; exact cll3_ok
  | 4, h => cases h; exact cll4_ok
  | 5, h => cases h; exact cll5_ok
  | 6, h => cases h; exact cll6_ok
  | 7, h => cases h; exact cll7_ok
  | 8, h => cases h; exact cll8_ok
  | 9, h => cases h; exact cll9_ok
  | 10, h => cases h; exact cll10_ok
  | 11, h => cases h; exact cll11_ok
  | 12, h => cases h; exact cll12_ok
  | 13, h => cases h; exact cll13_ok
  | 14, h => cases h; exact cll14_ok
  | 15, h => cases h; exact cll15_ok
  | n + 16, h => exact absurd h (by unfold cll; simp)
theorem kil_ok : ∀ (own : Nat) (r : List (Nat × Int32)), kil[own]? = some r → ∀ q ∈ r, Cond.constant (nmo own) q.1 q.2 ∈ gw := by
  intro own r h
  match own, h with
  | 0, h => cases h; exact kil0_ok
  | 1, h => cases h; exact kil1_ok
  | 2, h => cases h; exact kil2_ok
  | 3, h => cases h; exact kil3_ok
  | 4, h => cases h; exact kil4_ok
  | 5, h => cases h; exact kil5_ok
  | 6, h => cases h; exact kil6_ok
  | 7, h => cases h; exact kil7_ok
  | 8, h => cases h; exact kil8_ok
  | 9, h => cases h; exact kil9_ok
  | 10, h => cases h; exact kil10_ok
  | 11, h => cases h; exact kil11_ok
  | 12, h => cases h; exact kil12_ok
  | 13, h => cases h; exact kil13_ok
  | 14, h => cases h; exact kil14_ok
  | 15, h => cases h; exact kil15_ok
  | n + 16, h => exact absurd h (by unfold kil; simp)
theorem kll_ok : ∀ (own : Nat) (r : List (Nat × Int64)), kll[own]? = some r → ∀ q ∈ r, Cond.constantLong (nmo own) q.1 q.2 ∈ gw := by
  intro own r h
  match own, h with
  | 0, h => cases h; exact kll0_ok
  | 1, h => cases h; exact kll1_ok
  | 2, h => cases h; exact kll2_ok
  | 3, h => cases h; exact kll3_ok
  | 4, h => cases h; exact kll4_ok
  | 5, h => cases h; exact kll5_ok
  | 6, h => cases h; exact kll6_ok
  | 7, h => cases h; exact kll7_ok
  | 8, h => cases h; exact kll8_ok
  | 9, h => cases h; exact kll9_ok
  | 10, h => cases h; exact kll10_ok
  | 11, h => cases h; exact kll11_ok
  | 12, h => cases h; exact kll12_ok
  | 13, h => cases h; exact kll13_ok
  | 14, h => cases h; exact kll14_ok
  | 15, h => cases h; exact kll15_ok
  | n + 16, h => exact absurd h (by unfold kll; simp)
theorem lay0 : ∀ w ∈ u_ws (fcl 0).1 (fcl 0).2.1 (fcl 0).2.2, w ∈ gw := List.forall_mem_cons.mpr ⟨(gt1 (i := 215) rfl rfl), List.forall_mem_cons.mpr ⟨(gt1 (i := 217) rfl rfl), List.forall_mem_cons.mpr ⟨(gt1 (i := 219) rfl rfl), List.forall_mem_cons.mpr ⟨(gt1 (i := 221) rfl rfl), List.forall_mem_cons.mpr ⟨(gt1 (i := 223) rfl rfl), fun _ h => absurd h List.not_mem_nil⟩⟩⟩⟩⟩
theorem lay1 : ∀ w ∈ u_ws (fcl 1).1 (fcl 1).2.1 (fcl 1).2.2, w ∈ gw := List.forall_mem_cons.mpr ⟨(gt1 (i := 200) rfl rfl), fun _ h => absurd h List.not_mem_nil⟩
theorem lay2 : ∀ w ∈ u_ws (fcl 2).1 (fcl 2).2.1 (fcl 2).2.2, w ∈ gw := List.forall_mem_cons.mpr ⟨(gt2 (i := 39) rfl rfl), List.forall_mem_cons.mpr ⟨(gt2 (i := 41) rfl rfl), List.forall_mem_cons.mpr ⟨(gt2 (i := 43) rfl rfl), List.forall_mem_cons.mpr ⟨(gt2 (i := 45) rfl rfl), List.forall_mem_cons.mpr ⟨(gt2 (i := 47) rfl rfl), List.forall_mem_cons.mpr ⟨(gt2 (i := 49) rfl rfl), fun _ h => absurd h List.not_mem_nil⟩⟩⟩⟩⟩⟩
theorem lay3 : ∀ w ∈ u_ws (fcl 3).1 (fcl 3).2.1 (fcl 3).2.2, w ∈ gw := List.forall_mem_cons.mpr ⟨(gt1 (i := 72) rfl rfl), List.forall_mem_cons.mpr ⟨(gt1 (i := 74) rfl rfl), List.forall_mem_cons.mpr ⟨(gt1 (i := 76) rfl rfl), List.forall_mem_cons.mpr ⟨(gt1 (i := 78) rfl rfl), List.forall_mem_cons.mpr ⟨(gt1 (i := 80) rfl rfl), List.forall_mem_cons.mpr ⟨(gt1 (i := 82) rfl rfl), List.forall_mem_cons.mpr ⟨(gt1 (i := 84) rfl rfl), List.forall_mem_cons.mpr ⟨(gt1 (i := 86) rfl rfl), fun _ h => absurd h List.not_mem_nil⟩⟩⟩⟩⟩⟩⟩⟩
theorem lay4 : ∀ w ∈ u_ws (fcl 4).1 (fcl 4).2.1 (fcl 4).2.2, w ∈ gw := List.forall_mem_cons.mpr ⟨(gt1 (i := 108) rfl rfl), List.forall_mem_cons.mpr ⟨(gt1 (i := 110) rfl rfl), List.forall_mem_cons.mpr ⟨(gt1 (i := 112) rfl rfl), List.forall_mem_cons.mpr ⟨(gt1 (i := 114) rfl rfl), List.forall_mem_cons.mpr ⟨(gt1 (i := 116) rfl rfl), List.forall_mem_cons.mpr ⟨(gt1 (i := 118) rfl rfl), List.forall_mem_cons.mpr ⟨(gt1 (i := 120) rfl rfl), fun _ h => absurd h List.not_mem_nil⟩⟩⟩⟩⟩⟩⟩
theorem lay5 : ∀ w ∈ u_ws (fcl 5).1 (fcl 5).2.1 (fcl 5).2.2, w ∈ gw := List.forall_mem_cons.mpr ⟨(gt1 (i := 172) rfl rfl), List.forall_mem_cons.mpr ⟨(gt1 (i := 174) rfl rfl), List.forall_mem_cons.mpr ⟨(gt1 (i := 176) rfl rfl), List.forall_mem_cons.mpr ⟨(gt1 (i := 178) rfl rfl), List.forall_mem_cons.mpr ⟨(gt1 (i := 180) rfl rfl), List.forall_mem_cons.mpr ⟨(gt1 (i := 182) rfl rfl), List.forall_mem_cons.mpr ⟨(gt1 (i := 184) rfl rfl), List.forall_mem_cons.mpr ⟨(gt1 (i := 186) rfl rfl), List.forall_mem_cons.mpr ⟨(gt1 (i := 188) rfl rfl), List.forall_mem_cons.mpr ⟨(gt1 (i := 190) rfl rfl), fun _ h => absurd h List.not_mem_nil⟩⟩⟩⟩⟩⟩⟩⟩⟩⟩
theorem lay6 : ∀ w ∈ u_ws (fcl 6).1 (fcl 6).2.1 (fcl 6).2.2, w ∈ gw := List.forall_mem_cons.mpr ⟨(gt1 (i := 141) rfl rfl), List.forall_mem_cons.mpr ⟨(gt1 (i := 143) rfl rfl), List.forall_mem_cons.mpr ⟨(gt1 (i := 145) rfl rfl), List.forall_mem_cons.mpr ⟨(gt1 (i := 147) rfl rfl), List.forall_mem_cons.mpr ⟨(gt1 (i := 149) rfl rfl), List.forall_mem_cons.mpr ⟨(gt1 (i := 151) rfl rfl), List.forall_mem_cons.mpr ⟨(gt1 (i := 153) rfl rfl), fun _ h => absurd h List.not_mem_nil⟩⟩⟩⟩⟩⟩⟩
theorem lay7 : ∀ w ∈ u_ws (fcl 7).1 (fcl 7).2.1 (fcl 7).2.2, w ∈ gw := List.forall_mem_cons.mpr ⟨(gt2 (i := 4) rfl rfl), List.forall_mem_cons.mpr ⟨(gt2 (i := 6) rfl rfl), List.forall_mem_cons.mpr ⟨(gt2 (i := 8) rfl rfl), List.forall_mem_cons.mpr ⟨(gt2 (i := 10) rfl rfl), List.forall_mem_cons.mpr ⟨(gt2 (i := 12) rfl rfl), List.forall_mem_cons.mpr ⟨(gt2 (i := 14) rfl rfl), List.forall_mem_cons.mpr ⟨(gt2 (i := 16) rfl rfl), List.forall_mem_cons.mpr ⟨(gt2 (i := 18) rfl rfl), List.forall_mem_cons.mpr ⟨(gt2 (i := 20) rfl rfl), List.forall_mem_cons.mpr ⟨(gt2 (i := 22) rfl rfl), fun _ h => absurd h List.not_mem_nil⟩⟩⟩⟩⟩⟩⟩⟩⟩⟩
theorem lay8 : ∀ w ∈ u_ws (fcl 8).1 (fcl 8).2.1 (fcl 8).2.2, w ∈ gw := List.forall_mem_cons.mpr ⟨(gt2 (i := 63) rfl rfl), List.forall_mem_cons.mpr ⟨(gt2 (i := 65) rfl rfl), List.forall_mem_cons.mpr ⟨(gt2 (i := 67) rfl rfl), List.forall_mem_cons.mpr ⟨(gt2 (i := 69) rfl rfl), List.forall_mem_cons.mpr ⟨(gt2 (i := 71) rfl rfl), List.forall_mem_cons.mpr ⟨(gt2 (i := 73) rfl rfl), List.forall_mem_cons.mpr ⟨(gt2 (i := 75) rfl rfl), List.forall_mem_cons.mpr ⟨(gt2 (i := 77) rfl rfl), List.forall_mem_cons.mpr ⟨(gt2 (i := 79) rfl rfl), List.forall_mem_cons.mpr ⟨(gt2 (i := 81) rfl rfl), List.forall_mem_cons.mpr ⟨(gt2 (i := 83) rfl rfl), fun _ h => absurd h List.not_mem_nil⟩⟩⟩⟩⟩⟩⟩⟩⟩⟩⟩
theorem lay9 : ∀ w ∈ u_ws (fcl 9).1 (fcl 9).2.1 (fcl 9).2.2, w ∈ gw := List.forall_mem_cons.mpr ⟨(gt4 (i := 207) rfl rfl), List.forall_mem_cons.mpr ⟨(gt4 (i := 209) rfl rfl), List.forall_mem_cons.mpr ⟨(gt4 (i := 211) rfl rfl), List.forall_mem_cons.mpr ⟨(gt4 (i := 213) rfl rfl), List.forall_mem_cons.mpr ⟨(gt4 (i := 215) rfl rfl), List.forall_mem_cons.mpr ⟨(gt4 (i := 217) rfl rfl), List.forall_mem_cons.mpr ⟨(gt4 (i := 219) rfl rfl), List.forall_mem_cons.mpr ⟨(gt4 (i := 221) rfl rfl), List.forall_mem_cons.mpr ⟨(gt4 (i := 223) rfl rfl), List.forall_mem_cons.mpr ⟨(gt4 (i := 225) rfl rfl), List.forall_mem_cons.mpr ⟨(gt4 (i := 227) rfl rfl), List.forall_mem_cons.mpr ⟨(gt4 (i := 229) rfl rfl), List.forall_mem_cons.mpr ⟨(gt4 (i := 231) rfl rfl), List.forall_mem_cons.mpr ⟨(gt4 (i := 233) rfl rfl), List.forall_mem_cons.mpr ⟨(gt4 (i := 235) rfl rfl), List.forall_mem_cons.mpr ⟨(gt4 (i := 237) rfl rfl), List.forall_mem_cons.mpr ⟨(gt4 (i := 239) rfl rfl), List.forall_mem_cons.mpr ⟨(gt5 (i := 1) rfl rfl), List.forall_mem_cons.mpr ⟨(gt5 (i := 3) rfl rfl), List.forall_mem_cons.mpr ⟨(gt5 (i := 5) rfl rfl), List.forall_mem_cons.mpr ⟨(gt5 (i := 7) rfl rfl), List.forall_mem_cons.mpr ⟨(gt5 (i := 9) rfl rfl), List.forall_mem_cons.mpr ⟨(gt5 (i := 11) rfl rfl), List.forall_mem_cons.mpr ⟨(gt5 (i := 13) rfl rfl), List.forall_mem_cons.mpr ⟨(gt5 (i := 15) rfl rfl), List.forall_mem_cons.mpr ⟨(gt5 (i := 17) rfl rfl), List.forall_mem_cons.mpr ⟨(gt5 (i := 19) rfl rfl), List.forall_mem_cons.mpr ⟨(gt5 (i := 21) rfl rfl), List.forall_mem_cons.mpr ⟨(gt5 (i := 23) rfl rfl), List.forall_mem_cons.mpr ⟨(gt5 (i := 25) rfl rfl), List.forall_mem_cons.mpr ⟨(gt5 (i := 27) rfl rfl), List.forall_mem_cons.mpr ⟨(gt5 (i := 29) rfl rfl), List.forall_mem_cons.mpr ⟨(gt5 (i := 31) rfl rfl), List.forall_mem_cons.mpr ⟨(gt5 (i := 33) rfl rfl), List.forall_mem_cons.mpr ⟨(gt5 (i := 35) rfl rfl), List.forall_mem_cons.mpr ⟨(gt5 (i := 37) rfl rfl), fun _ h => absurd h List.not_mem_nil⟩⟩⟩⟩⟩⟩⟩⟩⟩⟩⟩⟩⟩⟩⟩⟩⟩⟩⟩⟩⟩⟩⟩⟩⟩⟩⟩⟩⟩⟩⟩⟩⟩⟩⟩⟩
theorem lay_ok : ∀ ci, ci < 10 → ∀ w ∈ u_ws (fcl ci).1 (fcl ci).2.1 (fcl ci).2.2, w ∈ gw := by
  intro ci h
  match ci, h with
  | 0, _ => exact lay0
  | 1, _ => exact lay1
  | 2, _ => exact lay2
  | 3, _ => exact lay3
  | 4, _ => exact lay4
  | 5, _ => exact lay5
  | 6, _ => exact lay6
  | 7, _ => exact lay7
  | 8, _ => exact lay8
  | 9, _ => exact lay9
  | n + 10, h => omega
