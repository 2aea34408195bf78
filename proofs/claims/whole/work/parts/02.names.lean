def RX0 : String := "RegionStack$Body"
def TX0 : u_T := fun k => match k with
  | 0 => ("RegionStack$Body", "term", "LRegionStack$Term;", true)
  | 1 => ("RegionStack$Body", "text", "LRegionStack$Text;", true)
  | 2 => ("RegionStack$Body", "labels", "LRegionStack$Row;", true)
  | 3 => ("RegionStack$Body", "numbers", "LRegionStack$Row;", true)
  | 4 => ("RegionStack$Body", "innerNumbers", "LRegionStack$Row;", true)
  | 5 => ("RegionStack$Body", "homes", "LRegionStack$Row;", true)
  | 6 => ("RegionStack$Body", "isPass", "Z", false)
  | 7 => ("RegionStack$Body", "effect", "I", false)
  | _ => ("RegionStack$Body", "ownCount", "I", false)
def tyX0 : Nat → FieldType := fun k => match k with
  | 0 => .object "RegionStack$Term"
  | 1 => .object "RegionStack$Text"
  | 2 => .object "RegionStack$Row"
  | 3 => .object "RegionStack$Row"
  | 4 => .object "RegionStack$Row"
  | 5 => .object "RegionStack$Row"
  | 6 => .boolean
  | 7 => .int
  | _ => .int
theorem nmX0 : ∀ a, a < 9 → ∀ b, b < 9 → a ≠ b → (TX0 a).2.1 ≠ (TX0 b).2.1 := by decide +kernel
theorem tyX0_ok : ∀ k, k < 9 → parseFieldDescriptor (TX0 k).2.2.1 = some (tyX0 k) := by decide +kernel
def RX1 : String := "RegionStack$Program"
def TX1 : u_T := fun k => match k with
  | 0 => ("RegionStack$Program", "bodies", "[LRegionStack$Body;", true)
  | 1 => ("RegionStack$Program", "changes", "I", false)
  | 2 => ("RegionStack$Program", "settledAt", "I", false)
  | _ => ("RegionStack$Program", "isWell", "Z", false)
def tyX1 : Nat → FieldType := fun k => match k with
  | 0 => .array (.object "RegionStack$Body")
  | 1 => .int
  | 2 => .int
  | _ => .boolean
theorem nmX1 : ∀ a, a < 4 → ∀ b, b < 4 → a ≠ b → (TX1 a).2.1 ≠ (TX1 b).2.1 := by decide +kernel
theorem tyX1_ok : ∀ k, k < 4 → parseFieldDescriptor (TX1 k).2.2.1 = some (tyX1 k) := by decide +kernel
def RX2 : String := "RegionStack$Row"
def TX2 : u_T := fun k => match k with
  | _ => ("RegionStack$Row", "cells", "[I", true)
def tyX2 : Nat → FieldType := fun k => match k with
  | _ => .array .int
theorem nmX2 : ∀ a, a < 1 → ∀ b, b < 1 → a ≠ b → (TX2 a).2.1 ≠ (TX2 b).2.1 := by decide +kernel
theorem tyX2_ok : ∀ k, k < 1 → parseFieldDescriptor (TX2 k).2.2.1 = some (tyX2 k) := by decide +kernel
def RX3 : String := "RegionStack$Runner"
def TX3 : u_T := fun k => match k with
  | 0 => ("RegionStack$Runner", "program", "LRegionStack$Program;", true)
  | 1 => ("RegionStack$Runner", "store", "LRegionStack$Store;", true)
  | 2 => ("RegionStack$Runner", "places", "LRegionStack$Row;", true)
  | 3 => ("RegionStack$Runner", "stages", "LRegionStack$Row;", true)
  | 4 => ("RegionStack$Runner", "frames", "LRegionStack$Row;", true)
  | 5 => ("RegionStack$Runner", "held", "LRegionStack$Row;", true)
  | 6 => ("RegionStack$Runner", "frameBodies", "LRegionStack$Row;", true)
  | 7 => ("RegionStack$Runner", "frameGiven", "LRegionStack$Row;", true)
  | 8 => ("RegionStack$Runner", "letValues", "LRegionStack$Row;", true)
  | 9 => ("RegionStack$Runner", "regions", "LRegionStack$Row;", true)
  | 10 => ("RegionStack$Runner", "height", "I", false)
  | 11 => ("RegionStack$Runner", "result", "I", false)
  | 12 => ("RegionStack$Runner", "steps", "I", false)
  | 13 => ("RegionStack$Runner", "calls", "I", false)
  | 14 => ("RegionStack$Runner", "isKnown", "Z", false)
  | 15 => ("RegionStack$Runner", "ranAt", "I", false)
  | 16 => ("RegionStack$Runner", "ranBody", "I", false)
  | _ => ("RegionStack$Runner", "ranNumber", "I", false)
def tyX3 : Nat → FieldType := fun k => match k with
  | 0 => .object "RegionStack$Program"
  | 1 => .object "RegionStack$Store"
  | 2 => .object "RegionStack$Row"
  | 3 => .object "RegionStack$Row"
  | 4 => .object "RegionStack$Row"
  | 5 => .object "RegionStack$Row"
  | 6 => .object "RegionStack$Row"
  | 7 => .object "RegionStack$Row"
  | 8 => .object "RegionStack$Row"
  | 9 => .object "RegionStack$Row"
  | 10 => .int
  | 11 => .int
  | 12 => .int
  | 13 => .int
  | 14 => .boolean
  | 15 => .int
  | 16 => .int
  | _ => .int
theorem nmX3 : ∀ a, a < 18 → ∀ b, b < 18 → a ≠ b → (TX3 a).2.1 ≠ (TX3 b).2.1 := by decide +kernel
theorem tyX3_ok : ∀ k, k < 18 → parseFieldDescriptor (TX3 k).2.2.1 = some (tyX3 k) := by decide +kernel
def RX4 : String := "RegionStack$Store"
def TX4 : u_T := fun k => match k with
  | 0 => ("RegionStack$Store", "holds", "LRegionStack$Row;", true)
  | 1 => ("RegionStack$Store", "boxesIn", "LRegionStack$Row;", true)
  | 2 => ("RegionStack$Store", "wordsOfBox", "LRegionStack$Row;", true)
  | 3 => ("RegionStack$Store", "open", "I", false)
  | 4 => ("RegionStack$Store", "boxes", "I", false)
  | 5 => ("RegionStack$Store", "words", "I", false)
  | 6 => ("RegionStack$Store", "made", "I", false)
  | 7 => ("RegionStack$Store", "mostBoxes", "I", false)
  | 8 => ("RegionStack$Store", "mostOpen", "I", false)
  | 9 => ("RegionStack$Store", "opened", "I", false)
  | 10 => ("RegionStack$Store", "becameSpread", "I", false)
  | 11 => ("RegionStack$Store", "mostWords", "I", false)
  | _ => ("RegionStack$Store", "plainWords", "I", false)
def tyX4 : Nat → FieldType := fun k => match k with
  | 0 => .object "RegionStack$Row"
  | 1 => .object "RegionStack$Row"
  | 2 => .object "RegionStack$Row"
  | 3 => .int
  | 4 => .int
  | 5 => .int
  | 6 => .int
  | 7 => .int
  | 8 => .int
  | 9 => .int
  | 10 => .int
  | 11 => .int
  | _ => .int
theorem nmX4 : ∀ a, a < 13 → ∀ b, b < 13 → a ≠ b → (TX4 a).2.1 ≠ (TX4 b).2.1 := by decide +kernel
theorem tyX4_ok : ∀ k, k < 13 → parseFieldDescriptor (TX4 k).2.2.1 = some (tyX4 k) := by decide +kernel
def RX5 : String := "RegionStack$Term"
def TX5 : u_T := fun k => match k with
  | 0 => ("RegionStack$Term", "text", "LRegionStack$Text;", true)
  | 1 => ("RegionStack$Term", "kinds", "LRegionStack$Row;", true)
  | 2 => ("RegionStack$Term", "partSigns", "LRegionStack$Row;", true)
  | 3 => ("RegionStack$Term", "called", "LRegionStack$Row;", true)
  | 4 => ("RegionStack$Term", "inner", "LRegionStack$Row;", true)
  | 5 => ("RegionStack$Term", "outer", "LRegionStack$Row;", true)
  | 6 => ("RegionStack$Term", "ends", "LRegionStack$Row;", true)
  | 7 => ("RegionStack$Term", "binders", "LRegionStack$Row;", true)
  | 8 => ("RegionStack$Term", "waiting", "LRegionStack$Row;", true)
  | 9 => ("RegionStack$Term", "faultPlace", "I", false)
  | _ => ("RegionStack$Term", "partCount", "I", false)
def tyX5 : Nat → FieldType := fun k => match k with
  | 0 => .object "RegionStack$Text"
  | 1 => .object "RegionStack$Row"
  | 2 => .object "RegionStack$Row"
  | 3 => .object "RegionStack$Row"
  | 4 => .object "RegionStack$Row"
  | 5 => .object "RegionStack$Row"
  | 6 => .object "RegionStack$Row"
  | 7 => .object "RegionStack$Row"
  | 8 => .object "RegionStack$Row"
  | 9 => .int
  | _ => .int
theorem nmX5 : ∀ a, a < 11 → ∀ b, b < 11 → a ≠ b → (TX5 a).2.1 ≠ (TX5 b).2.1 := by decide +kernel
theorem tyX5_ok : ∀ k, k < 11 → parseFieldDescriptor (TX5 k).2.2.1 = some (tyX5 k) := by decide +kernel
def RX6 : String := "RegionStack$Text"
def TX6 : u_T := fun k => match k with
  | 0 => ("RegionStack$Text", "signs", "LRegionStack$Row;", true)
  | 1 => ("RegionStack$Text", "count", "I", false)
  | 2 => ("RegionStack$Text", "given", "I", false)
  | _ => ("RegionStack$Text", "gives", "I", false)
def tyX6 : Nat → FieldType := fun k => match k with
  | 0 => .object "RegionStack$Row"
  | 1 => .int
  | 2 => .int
  | _ => .int
theorem nmX6 : ∀ a, a < 4 → ∀ b, b < 4 → a ≠ b → (TX6 a).2.1 ≠ (TX6 b).2.1 := by decide +kernel
theorem tyX6_ok : ∀ k, k < 4 → parseFieldDescriptor (TX6 k).2.2.1 = some (tyX6 k) := by decide +kernel
def RX7 : String := "RegionStack"
def TX7 : u_T := fun k => match k with
  | 0 => ("RegionStack", "program", "LRegionStack$Program;", true)
  | 1 => ("RegionStack", "runner", "LRegionStack$Runner;", true)
  | 2 => ("RegionStack", "keptTexts", "[LRegionStack$Text;", true)
  | _ => ("RegionStack", "isKept", "[Z", true)
def tyX7 : Nat → FieldType := fun k => match k with
  | 0 => .object "RegionStack$Program"
  | 1 => .object "RegionStack$Runner"
  | 2 => .array (.object "RegionStack$Text")
  | _ => .array .boolean
theorem nmX7 : ∀ a, a < 4 → ∀ b, b < 4 → a ≠ b → (TX7 a).2.1 ≠ (TX7 b).2.1 := by decide +kernel
theorem tyX7_ok : ∀ k, k < 4 → parseFieldDescriptor (TX7 k).2.2.1 = some (tyX7 k) := by decide +kernel
def RX8 : String := "RegionStackModel"
def TX8 : u_T := fun k => match k with
  | 0 => ("RegionStackModel", "given", "[I", true)
  | 1 => ("RegionStackModel", "gives", "[I", true)
  | 2 => ("RegionStackModel", "signs", "[I", true)
  | 3 => ("RegionStackModel", "sign", "[I", true)
  | 4 => ("RegionStackModel", "what1", "[I", true)
  | 5 => ("RegionStackModel", "first", "[I", true)
  | 6 => ("RegionStackModel", "second", "[I", true)
  | 7 => ("RegionStackModel", "third", "[I", true)
  | 8 => ("RegionStackModel", "end", "[I", true)
  | 9 => ("RegionStackModel", "stands", "[I", true)
  | 10 => ("RegionStackModel", "pass", "[Z", true)
  | 11 => ("RegionStackModel", "number", "[I", true)
  | 12 => ("RegionStackModel", "home", "[I", true)
  | 13 => ("RegionStackModel", "own", "[I", true)
  | 14 => ("RegionStackModel", "effect", "[I", true)
  | 15 => ("RegionStackModel", "pileCall", "[I", true)
  | 16 => ("RegionStackModel", "pileAt", "[I", true)
  | 17 => ("RegionStackModel", "pilePhase", "[I", true)
  | 18 => ("RegionStackModel", "pileFirst", "[I", true)
  | 19 => ("RegionStackModel", "high", "I", false)
  | 20 => ("RegionStackModel", "callBody", "[I", true)
  | 21 => ("RegionStackModel", "callGiven", "[I", true)
  | 22 => ("RegionStackModel", "letter", "[I", true)
  | 23 => ("RegionStackModel", "opened", "[I", true)
  | 24 => ("RegionStackModel", "calls", "I", false)
  | 25 => ("RegionStackModel", "holds", "[I", true)
  | 26 => ("RegionStackModel", "boxes", "[I", true)
  | 27 => ("RegionStackModel", "spread", "[Z", true)
  | 28 => ("RegionStackModel", "regions", "I", false)
  | 29 => ("RegionStackModel", "value", "I", false)
  | 30 => ("RegionStackModel", "steps", "I", false)
  | 31 => ("RegionStackModel", "made", "I", false)
  | 32 => ("RegionStackModel", "atOnce", "I", false)
  | 33 => ("RegionStackModel", "most", "I", false)
  | 34 => ("RegionStackModel", "mostRegions", "I", false)
  | 35 => ("RegionStackModel", "allRegions", "I", false)
  | 36 => ("RegionStackModel", "spreads", "I", false)
  | 37 => ("RegionStackModel", "allCalls", "I", false)
  | 38 => ("RegionStackModel", "words", "I", false)
  | 39 => ("RegionStackModel", "mostWords", "I", false)
  | 40 => ("RegionStackModel", "plain", "I", false)
  | 41 => ("RegionStackModel", "image", "[I", true)
  | _ => ("RegionStackModel", "isKept", "[Z", true)
def tyX8 : Nat → FieldType := fun k => match k with
  | 0 => .array .int
  | 1 => .array .int
  | 2 => .array .int
  | 3 => .array .int
  | 4 => .array .int
  | 5 => .array .int
  | 6 => .array .int
  | 7 => .array .int
  | 8 => .array .int
  | 9 => .array .int
  | 10 => .array .boolean
  | 11 => .array .int
  | 12 => .array .int
  | 13 => .array .int
  | 14 => .array .int
  | 15 => .array .int
  | 16 => .array .int
  | 17 => .array .int
  | 18 => .array .int
  | 19 => .int
  | 20 => .array .int
  | 21 => .array .int
  | 22 => .array .int
  | 23 => .array .int
  | 24 => .int
  | 25 => .array .int
  | 26 => .array .int
  | 27 => .array .boolean
  | 28 => .int
  | 29 => .int
  | 30 => .int
  | 31 => .int
  | 32 => .int
  | 33 => .int
  | 34 => .int
  | 35 => .int
  | 36 => .int
  | 37 => .int
  | 38 => .int
  | 39 => .int
  | 40 => .int
  | 41 => .array .int
  | _ => .array .boolean
theorem nmX8 : ∀ a, a < 43 → ∀ b, b < 43 → a ≠ b → (TX8 a).2.1 ≠ (TX8 b).2.1 := by decide +kernel
theorem tyX8_ok : ∀ k, k < 43 → parseFieldDescriptor (TX8 k).2.2.1 = some (tyX8 k) := by decide +kernel
abbrev vwCl : List vw_C := [(RX0, TX0, 9), (RX1, TX1, 4), (RX2, TX2, 1), (RX3, TX3, 18), (RX4, TX4, 13), (RX5, TX5, 11), (RX6, TX6, 4), (RX7, TX7, 4), (RX8, TX8, 43)]
def RL0 : String := "RegionStackLaw"
def nmL : List (MethodName) := [
  ⟨"RegionStack$Row", "get", "(I)I"⟩, ⟨"RegionStack$Row", "set", "(II)V"⟩,
  ⟨"RegionStack$Row", "fill", "(I)V"⟩, ⟨"RegionStack", "isWithin", "(III)Z"⟩,
  ⟨"RegionStack", "isLetter", "(I)Z"⟩, ⟨"RegionStack", "isFigure", "(I)Z"⟩,
  ⟨"RegionStack", "bearsName", "(I)Z"⟩, ⟨"RegionStack", "isNameFor", "(II)Z"⟩,
  ⟨"RegionStack", "termsIn", "(I)I"⟩, ⟨"RegionStackModel", "in", "(III)Z"⟩,
  ⟨"RegionStackModel", "isBody", "(I)Z"⟩, ⟨"RegionStackModel", "kindOfSign", "(I)I"⟩,
  ⟨"RegionStackModel", "inner", "(I)I"⟩, ⟨"RegionStackModel", "nodeOf", "(II)I"⟩,
  ⟨"RegionStackModel", "bodyOfCall", "(I)I"⟩, ⟨"RegionStack$Program", "bodyAt", "(I)LRegionStack$Body;"⟩,
  ⟨"RegionStack$Text", "hasPlace", "(I)Z"⟩, ⟨"RegionStack$Text", "bothKinds", "()I"⟩,
  ⟨"RegionStack$Term", "isPart", "(I)Z"⟩, ⟨"RegionStack$Term", "innerAt", "(II)I"⟩,
  ⟨"RegionStack$Term", "binderAt", "(I)I"⟩, ⟨"RegionStack$Term", "innerKind", "(II)I"⟩,
  ⟨"RegionStack$Store", "lookInto", "(I)I"⟩, ⟨"RegionStackModel", "rootOf", "(I)I"⟩,
  ⟨"RegionStackModel", "unite", "(II)V"⟩, ⟨"RegionStack", "<init>", "()V"⟩,
  ⟨"RegionStack", "body", "(III)I"⟩, ⟨"RegionStack", "say", "(II)I"⟩,
  ⟨"RegionStack", "wipe", "(I)I"⟩, ⟨"RegionStack", "fault", "(I)I"⟩,
  ⟨"RegionStack", "parts", "(II)I"⟩, ⟨"RegionStack", "kind", "(II)I"⟩,
  ⟨"RegionStack", "well", "()I"⟩, ⟨"RegionStack", "tells", "(II)I"⟩,
  ⟨"RegionStack", "region", "(II)I"⟩, ⟨"RegionStack", "home", "(II)I"⟩,
  ⟨"RegionStack", "touches", "(III)I"⟩, ⟨"RegionStack", "run", "(III)I"⟩,
  ⟨"RegionStack", "words", "(III)I"⟩, ⟨"RegionStack", "mixed", "(II)I"⟩,
  ⟨"RegionStack", "image", "(I)I"⟩, ⟨"RegionStack", "restore", "(I)I"⟩,
  ⟨"RegionStack", "told", "(I)I"⟩, ⟨"RegionStack", "textChanged", "(LRegionStack$Body;)V"⟩,
  ⟨"RegionStack", "keptText", "(II)LRegionStack$Text;"⟩, ⟨"RegionStack", "refusalOfRun", "(IIZ)I"⟩,
  ⟨"RegionStack", "quotientBits", "(II)I"⟩, ⟨"RegionStackModel", "<init>", "()V"⟩,
  ⟨"RegionStackModel", "body", "(III)I"⟩, ⟨"RegionStackModel", "say", "(II)I"⟩,
  ⟨"RegionStackModel", "wipe", "(I)I"⟩, ⟨"RegionStackModel", "read", "(I)I"⟩,
  ⟨"RegionStackModel", "fault", "(I)I"⟩, ⟨"RegionStackModel", "binder", "(II)I"⟩,
  ⟨"RegionStackModel", "kindAt", "(II)I"⟩, ⟨"RegionStackModel", "isIll", "(II)Z"⟩,
  ⟨"RegionStackModel", "illOne", "(I)I"⟩, ⟨"RegionStackModel", "parts", "(II)I"⟩,
  ⟨"RegionStackModel", "kind", "(II)I"⟩, ⟨"RegionStackModel", "isWell", "()Z"⟩,
  ⟨"RegionStackModel", "well", "()I"⟩, ⟨"RegionStackModel", "uniteAll", "(I)V"⟩,
  ⟨"RegionStackModel", "layRegions", "()Z"⟩, ⟨"RegionStackModel", "numberAll", "(I)V"⟩,
  ⟨"RegionStackModel", "touchesOne", "(II)Z"⟩, ⟨"RegionStackModel", "layHomes", "(I)V"⟩,
  ⟨"RegionStackModel", "does", "(IIZ)Z"⟩, ⟨"RegionStackModel", "layEffects", "()V"⟩,
  ⟨"RegionStackModel", "tells", "(II)I"⟩, ⟨"RegionStackModel", "region", "(II)I"⟩,
  ⟨"RegionStackModel", "home", "(II)I"⟩, ⟨"RegionStackModel", "touches", "(III)I"⟩,
  ⟨"RegionStackModel", "openOne", "()I"⟩, ⟨"RegionStackModel", "closeOne", "()V"⟩,
  ⟨"RegionStackModel", "put", "(II)I"⟩, ⟨"RegionStackModel", "begin", "(IIII)I"⟩,
  ⟨"RegionStackModel", "start", "(II)V"⟩, ⟨"RegionStackModel", "turnHomes", "(IIZ)V"⟩,
  ⟨"RegionStackModel", "finish", "(II)V"⟩, ⟨"RegionStackModel", "goOn", "(III)V"⟩,
  ⟨"RegionStackModel", "step", "()V"⟩, ⟨"RegionStackModel", "barOfRun", "(II)I"⟩,
  ⟨"RegionStackModel", "run", "(III)I"⟩, ⟨"RegionStackModel", "words", "(III)I"⟩,
  ⟨"RegionStackModel", "mixed", "(II)I"⟩, ⟨"RegionStackModel", "image", "(I)I"⟩,
  ⟨"RegionStackModel", "restore", "(I)I"⟩, ⟨"RegionStackModel", "told", "(I)I"⟩,
  ⟨"RegionStack$Body", "<init>", "()V"⟩, ⟨"RegionStack$Body", "hasOwn", "(I)Z"⟩,
  ⟨"RegionStack$Body", "joinParts", "(LRegionStack$Program;)V"⟩, ⟨"RegionStack$Body", "joinPart", "(LRegionStack$Program;I)V"⟩,
  ⟨"RegionStack$Body", "join", "(II)V"⟩, ⟨"RegionStack$Body", "numberParts", "()V"⟩,
  ⟨"RegionStack$Body", "findNumber", "(I)I"⟩, ⟨"RegionStack$Body", "findEffect", "(LRegionStack$Program;)I"⟩,
  ⟨"RegionStack$Body", "findHomes", "()V"⟩, ⟨"RegionStack$Body", "countOf", "(LRegionStack$Program;II)I"⟩,
  ⟨"RegionStack$Body", "touchesIt", "(II)Z"⟩, ⟨"RegionStack$Body", "putsInto", "(LRegionStack$Program;II)Z"⟩,
  ⟨"RegionStack$Body", "looksInto", "(LRegionStack$Program;II)Z"⟩, ⟨"RegionStack$Body", "callDoes", "(LRegionStack$Program;IIII)Z"⟩,
  ⟨"RegionStack$Program", "<init>", "()V"⟩, ⟨"RegionStack$Program", "kindsChanged", "()V"⟩,
  ⟨"RegionStack$Program", "findKind", "(LRegionStack$Term;I)I"⟩, ⟨"RegionStack$Program", "firstIll", "(LRegionStack$Term;)I"⟩,
  ⟨"RegionStack$Program", "isIll", "(LRegionStack$Term;I)Z"⟩, ⟨"RegionStack$Program", "settle", "()Z"⟩,
  ⟨"RegionStack$Program", "areAllWell", "()Z"⟩, ⟨"RegionStack$Program", "findPasses", "()V"⟩,
  ⟨"RegionStack$Program", "findEffects", "()V"⟩, ⟨"RegionStack$Row", "<init>", "(I)V"⟩,
  ⟨"RegionStack$Runner", "<init>", "()V"⟩, ⟨"RegionStack$Runner", "tallyOf", "(I)I"⟩,
  ⟨"RegionStack$Runner", "goThrough", "(II)Z"⟩, ⟨"RegionStack$Runner", "begin", "(LRegionStack$Body;II)V"⟩,
  ⟨"RegionStack$Runner", "setRegion", "(III)V"⟩, ⟨"RegionStack$Runner", "regionFor", "(II)I"⟩,
  ⟨"RegionStack$Runner", "push", "(II)V"⟩, ⟨"RegionStack$Runner", "takeTurn", "()V"⟩,
  ⟨"RegionStack$Runner", "enter", "(LRegionStack$Body;II)V"⟩, ⟨"RegionStack$Runner", "valueOf", "(LRegionStack$Term;II)I"⟩,
  ⟨"RegionStack$Runner", "leave", "(LRegionStack$Body;I)V"⟩, ⟨"RegionStack$Runner", "goOn", "(LRegionStack$Body;II)V"⟩,
  ⟨"RegionStack$Runner", "makeBox", "(I)V"⟩, ⟨"RegionStack$Runner", "callBody", "(LRegionStack$Body;II)V"⟩,
  ⟨"RegionStack$Store", "<init>", "()V"⟩, ⟨"RegionStack$Store", "clear", "()V"⟩,
  ⟨"RegionStack$Store", "openRegion", "()I"⟩, ⟨"RegionStack$Store", "closeLast", "()V"⟩,
  ⟨"RegionStack$Store", "putBox", "(II)I"⟩, ⟨"RegionStack$Term", "<init>", "()V"⟩,
  ⟨"RegionStack$Term", "leastAround", "(II)I"⟩, ⟨"RegionStack$Term", "read", "()V"⟩,
  ⟨"RegionStack$Term", "findFault", "()I"⟩, ⟨"RegionStack$Term", "linkParts", "()V"⟩,
  ⟨"RegionStack$Term", "findNames", "()V"⟩, ⟨"RegionStack$Term", "findBinder", "(I)I"⟩,
  ⟨"RegionStack$Text", "<init>", "()V"⟩, ⟨"RegionStack$Text", "takeFrom", "(LRegionStack$Text;)V"⟩,
  ⟨"RegionStackLaw", "law", "([I)Z"⟩
]
def byL : List (ByteArray) := [
  prog_4_method_2_code, prog_4_method_3_code, prog_4_method_4_code, prog_1_method_22_code, prog_1_method_24_code, prog_1_method_23_code, prog_1_method_25_code, prog_1_method_26_code,
  prog_1_method_27_code, prog_10_method_2_code, prog_10_method_3_code, prog_10_method_7_code, prog_10_method_8_code, prog_10_method_22_code, prog_10_method_12_code, prog_3_method_2_code,
  prog_8_method_2_code, prog_8_method_3_code, prog_7_method_2_code, prog_7_method_3_code, prog_7_method_4_code, prog_7_method_5_code, prog_6_method_6_code, prog_10_method_20_code,
  prog_10_method_21_code, prog_1_method_1_code, prog_1_method_2_code, prog_1_method_3_code, prog_1_method_4_code, prog_1_method_5_code, prog_1_method_6_code, prog_1_method_7_code,
  prog_1_method_8_code, prog_1_method_9_code, prog_1_method_10_code, prog_1_method_11_code, prog_1_method_12_code, prog_1_method_13_code, prog_1_method_14_code, prog_1_method_15_code,
  prog_1_method_16_code, prog_1_method_17_code, prog_1_method_18_code, prog_1_method_19_code, prog_1_method_20_code, prog_1_method_21_code, prog_1_method_28_code, prog_10_method_1_code,
  prog_10_method_4_code, prog_10_method_5_code, prog_10_method_6_code, prog_10_method_9_code, prog_10_method_10_code, prog_10_method_11_code, prog_10_method_13_code, prog_10_method_14_code,
  prog_10_method_15_code, prog_10_method_16_code, prog_10_method_17_code, prog_10_method_18_code, prog_10_method_19_code, prog_10_method_23_code, prog_10_method_24_code, prog_10_method_25_code,
  prog_10_method_26_code, prog_10_method_27_code, prog_10_method_28_code, prog_10_method_29_code, prog_10_method_30_code, prog_10_method_31_code, prog_10_method_32_code, prog_10_method_33_code,
  prog_10_method_34_code, prog_10_method_35_code, prog_10_method_36_code, prog_10_method_37_code, prog_10_method_38_code, prog_10_method_39_code, prog_10_method_40_code, prog_10_method_41_code,
  prog_10_method_42_code, prog_10_method_43_code, prog_10_method_44_code, prog_10_method_45_code, prog_10_method_46_code, prog_10_method_47_code, prog_10_method_48_code, prog_10_method_49_code,
  prog_2_method_1_code, prog_2_method_2_code, prog_2_method_3_code, prog_2_method_4_code, prog_2_method_5_code, prog_2_method_6_code, prog_2_method_7_code, prog_2_method_8_code,
  prog_2_method_9_code, prog_2_method_10_code, prog_2_method_11_code, prog_2_method_12_code, prog_2_method_13_code, prog_2_method_14_code, prog_3_method_1_code, prog_3_method_3_code,
  prog_3_method_4_code, prog_3_method_5_code, prog_3_method_6_code, prog_3_method_7_code, prog_3_method_8_code, prog_3_method_9_code, prog_3_method_10_code, prog_4_method_1_code,
  prog_5_method_1_code, prog_5_method_2_code, prog_5_method_3_code, prog_5_method_4_code, prog_5_method_5_code, prog_5_method_6_code, prog_5_method_7_code, prog_5_method_8_code,
  prog_5_method_9_code, prog_5_method_10_code, prog_5_method_11_code, prog_5_method_12_code, prog_5_method_13_code, prog_5_method_14_code, prog_6_method_1_code, prog_6_method_2_code,
  prog_6_method_3_code, prog_6_method_4_code, prog_6_method_5_code, prog_7_method_1_code, prog_7_method_6_code, prog_7_method_7_code, prog_7_method_8_code, prog_7_method_9_code,
  prog_7_method_10_code, prog_7_method_11_code, prog_8_method_1_code, prog_8_method_4_code, code
]
def nlL : List (Nat) := [
  2, 3, 3, 3, 1, 1, 1, 2, 1, 3, 1, 1, 1, 3, 2, 2, 2, 1, 2, 3, 2, 3, 2, 3, 3, 2, 6, 4, 4, 3,
  4, 4, 1, 4, 4, 4, 5, 5, 5, 4, 5, 5, 4, 2, 4, 4, 13, 1, 5, 3, 3, 9, 2, 6, 5, 5, 3, 5, 3, 3,
  1, 4, 4, 7, 4, 6, 6, 8, 3, 3, 3, 6, 1, 1, 3, 5, 3, 6, 3, 8, 6, 6, 5, 5, 7, 4, 4, 4, 1, 2,
  3, 4, 6, 3, 4, 5, 4, 7, 5, 5, 5, 8, 2, 4, 7, 3, 5, 2, 3, 6, 6, 2, 1, 2, 5, 5, 4, 3, 3, 6,
  5, 5, 4, 4, 2, 5, 1, 1, 2, 2, 6, 1, 5, 1, 5, 8, 3, 7, 1, 3, 4
]
def rtL : List (Option FieldType) := [
  some (.int), none, none, some (.boolean), some (.boolean), some (.boolean), some (.boolean), some (.boolean),
  some (.int), some (.boolean), some (.boolean), some (.int), some (.int), some (.int), some (.int), some (.object "RegionStack$Body"),
  some (.boolean), some (.int), some (.boolean), some (.int), some (.int), some (.int), some (.int), some (.int),
  none, none, some (.int), some (.int), some (.int), some (.int), some (.int), some (.int),
  some (.int), some (.int), some (.int), some (.int), some (.int), some (.int), some (.int), some (.int),
  some (.int), some (.int), some (.int), none, some (.object "RegionStack$Text"), some (.int), some (.int), none,
  some (.int), some (.int), some (.int), some (.int), some (.int), some (.int), some (.int), some (.boolean),
  some (.int), some (.int), some (.int), some (.boolean), some (.int), none, some (.boolean), none,
  some (.boolean), none, some (.boolean), none, some (.int), some (.int), some (.int), some (.int),
  some (.int), none, some (.int), some (.int), none, none, none, none,
  none, some (.int), some (.int), some (.int), some (.int), some (.int), some (.int), some (.int),
  none, some (.boolean), none, none, none, none, some (.int), some (.int),
  none, some (.int), some (.boolean), some (.boolean), some (.boolean), some (.boolean), none, none,
  some (.int), some (.int), some (.boolean), some (.boolean), some (.boolean), none, none, none,
  none, some (.int), some (.boolean), none, none, some (.int), none, none,
  none, some (.int), none, none, none, none, none, none,
  some (.int), none, some (.int), none, some (.int), none, some (.int), none,
  none, some (.int), none, none, some (.boolean)
]
def npL : List (Nat) := [
  1, 2, 1, 3, 1, 1, 1, 2, 1, 3, 1, 1, 1, 2, 1, 1, 1, 0, 1, 2, 1, 2, 1, 1, 2, 0, 3, 2, 1, 1,
  2, 2, 0, 2, 2, 2, 3, 3, 3, 2, 1, 1, 1, 1, 2, 3, 2, 0, 3, 2, 1, 1, 1, 2, 2, 2, 1, 2, 2, 0,
  0, 1, 0, 1, 2, 1, 3, 0, 2, 2, 2, 3, 0, 0, 2, 4, 2, 3, 2, 3, 0, 2, 3, 3, 2, 1, 1, 1, 0, 1,
  1, 2, 2, 0, 1, 1, 0, 3, 2, 3, 3, 5, 0, 0, 2, 1, 2, 0, 0, 0, 0, 1, 0, 1, 2, 3, 3, 2, 2, 0,
  3, 3, 2, 3, 1, 3, 0, 0, 0, 0, 2, 0, 2, 0, 0, 0, 0, 1, 0, 1, 1
]
def stL : List (Bool) := [
  false, false, false, true, true, true, true, true, true, true, true, true, true, false, false, false, false, false, false, false,
  false, false, false, false, false, false, false, false, false, false, false, false, false, false, false, false, false, false, false, false,
  false, false, false, false, false, false, true, false, false, false, false, false, false, false, false, false, false, false, false, false,
  false, false, false, false, false, false, false, false, false, false, false, false, false, false, false, false, false, false, false, false,
  false, false, false, false, false, false, false, false, false, false, false, false, false, false, false, false, false, false, false, false,
  false, false, false, false, false, false, false, false, false, false, false, false, false, false, false, false, false, false, false, false,
  false, false, false, false, false, false, false, false, false, false, false, false, false, false, false, false, false, false, false, false,
  true
]
def ocL : List (Nat) := [
  2, 2, 2, 7, 7, 7, 7, 7, 7, 8, 8, 8, 8, 8, 8, 1, 6, 6, 5, 5, 5, 5, 4, 8, 8, 7, 7, 7, 7, 7,
  7, 7, 7, 7, 7, 7, 7, 7, 7, 7, 7, 7, 7, 7, 7, 7, 7, 8, 8, 8, 8, 8, 8, 8, 8, 8, 8, 8, 8, 8,
  8, 8, 8, 8, 8, 8, 8, 8, 8, 8, 8, 8, 8, 8, 8, 8, 8, 8, 8, 8, 8, 8, 8, 8, 8, 8, 8, 8, 0, 0,
  0, 0, 0, 0, 0, 0, 0, 0, 0, 0, 0, 0, 1, 1, 1, 1, 1, 1, 1, 1, 1, 2, 3, 3, 3, 3, 3, 3, 3, 3,
  3, 3, 3, 3, 3, 3, 4, 4, 4, 4, 4, 5, 5, 5, 5, 5, 5, 5, 6, 6, 9
]
def cnL : List String := [RX0, RX1, RX2, RX3, RX4, RX5, RX6, RX7, RX8, RL0]
