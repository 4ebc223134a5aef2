/-! names: classes, their fields, methods -/
def C_Bo : String := "FourPoses$Booth"
def C_Cr : String := "FourPoses$Crane"
def C_Di : String := "FourPoses$Diary"
def C_Fa : String := "FourPoses$Facts"
def C_La : String := "FourPoses$Law"
def C_Po : String := "FourPoses$Post"
def C_Re : String := "FourPoses$Reader"
def C_Rp : String := "FourPoses$Replay"
def C_Ro : String := "FourPoses$Rounds"
def C_To : String := "FourPoses$Town"
def C_Fp : String := "FourPoses"
def C_Mo : String := "FourPosesModel"
def C_L : String := "FourPosesLaw"
def C_Ma : String := "java/lang/Math"
def C_Ar : String := "java/util/Arrays"
def C_In : String := "java/lang/Integer"
def C_St : String := "java/lang/String"
def C_S1 : String := "java/lang/StringLatin1"
def C_S2 : String := "java/lang/StringUTF16"
def C_Pr : String := "jdk/internal/util/Preconditions"
def C_Ob : String := "java/lang/Object"
def C_Sy : String := "java/lang/System"
def T_Bo : u_T := fun k => match k with
  | 0 => ("FourPoses$Booth", "spot", "I", false)
  | 1 => ("FourPoses$Booth", "price", "I", false)
  | 2 => ("FourPoses$Booth", "rule", "I", false)
  | 3 => ("FourPoses$Booth", "came", "I", false)
  | 4 => ("FourPoses$Booth", "sheets", "I", false)
  | 5 => ("FourPoses$Booth", "box", "I", false)
  | 6 => ("FourPoses$Booth", "counter", "I", false)
  | 7 => ("FourPoses$Booth", "silver", "I", false)
  | 8 => ("FourPoses$Booth", "worth", "I", false)
  | 9 => ("FourPoses$Booth", "strengths", "[I", true)
  | 10 => ("FourPoses$Booth", "least", "[I", true)
  | _ => ("FourPoses$Booth", "most", "[I", true)
def ty_Bo : Nat → FieldType := fun k => match k with
  | 0 => .int
  | 1 => .int
  | 2 => .int
  | 3 => .int
  | 4 => .int
  | 5 => .int
  | 6 => .int
  | 7 => .int
  | 8 => .int
  | 9 => .array .int
  | 10 => .array .int
  | _ => .array .int
def T_Cr : u_T := fun k => match k with
  | 0 => ("FourPoses$Crane", "rest", "[I", true)
  | 1 => ("FourPoses$Crane", "byMost", "Z", false)
  | _ => ("FourPoses$Crane", "cost", "I", false)
def ty_Cr : Nat → FieldType := fun k => match k with
  | 0 => .array .int
  | 1 => .boolean
  | _ => .int
def T_Di : u_T := fun k => match k with
  | 0 => ("FourPoses$Diary", "strips", "I", false)
  | 1 => ("FourPoses$Diary", "changes", "I", false)
  | 2 => ("FourPoses$Diary", "events", "I", false)
  | 3 => ("FourPoses$Diary", "stripBooth", "[I", true)
  | 4 => ("FourPoses$Diary", "stripDay", "[I", true)
  | 5 => ("FourPoses$Diary", "stripBy", "[I", true)
  | 6 => ("FourPoses$Diary", "stripHead", "[I", true)
  | 7 => ("FourPoses$Diary", "stripStool", "[I", true)
  | 8 => ("FourPoses$Diary", "stripCounter", "[I", true)
  | 9 => ("FourPoses$Diary", "stripBox", "[I", true)
  | 10 => ("FourPoses$Diary", "eventBooth", "[I", true)
  | 11 => ("FourPoses$Diary", "eventDay", "[I", true)
  | _ => ("FourPoses$Diary", "eventWhat", "[I", true)
def ty_Di : Nat → FieldType := fun k => match k with
  | 0 => .int
  | 1 => .int
  | 2 => .int
  | 3 => .array .int
  | 4 => .array .int
  | 5 => .array .int
  | 6 => .array .int
  | 7 => .array .int
  | 8 => .array .int
  | 9 => .array .int
  | 10 => .array .int
  | 11 => .array .int
  | _ => .array .int
def T_Fa : u_T := fun k => match k with
  | 0 => ("FourPoses$Facts", "words", "[J", true)
  | _ => ("FourPoses$Facts", "stack", "[J", true)
def ty_Fa : Nat → FieldType := fun k => match k with
  | 0 => .array .long
  | _ => .array .long
def T_La : u_T := fun k => match k with
  | 0 => ("FourPoses$Law", "clauses", "I", false)
  | 1 => ("FourPoses$Law", "length", "I", false)
  | 2 => ("FourPoses$Law", "sorts", "[I", true)
  | 3 => ("FourPoses$Law", "baths", "[I", true)
  | 4 => ("FourPoses$Law", "starts", "[I", true)
  | 5 => ("FourPoses$Law", "tests", "[I", true)
  | 6 => ("FourPoses$Law", "ends", "[I", true)
  | 7 => ("FourPoses$Law", "weaks", "[I", true)
  | _ => ("FourPoses$Law", "code", "[I", true)
def ty_La : Nat → FieldType := fun k => match k with
  | 0 => .int
  | 1 => .int
  | 2 => .array .int
  | 3 => .array .int
  | 4 => .array .int
  | 5 => .array .int
  | 6 => .array .int
  | 7 => .array .int
  | _ => .array .int
def T_Po : u_T := fun k => match k with
  | 0 => ("FourPoses$Post", "readings", "I", false)
  | 1 => ("FourPoses$Post", "claims", "I", false)
  | 2 => ("FourPoses$Post", "readingBooth", "[I", true)
  | 3 => ("FourPoses$Post", "readingDay", "[I", true)
  | 4 => ("FourPoses$Post", "readingCounter", "[I", true)
  | 5 => ("FourPoses$Post", "readingCoins", "[I", true)
  | 6 => ("FourPoses$Post", "readingKnown", "[I", true)
  | 7 => ("FourPoses$Post", "claimWho", "[I", true)
  | 8 => ("FourPoses$Post", "claimBooth", "[I", true)
  | _ => ("FourPoses$Post", "claimDay", "[I", true)
def ty_Po : Nat → FieldType := fun k => match k with
  | 0 => .int
  | 1 => .int
  | 2 => .array .int
  | 3 => .array .int
  | 4 => .array .int
  | 5 => .array .int
  | 6 => .array .int
  | 7 => .array .int
  | 8 => .array .int
  | _ => .array .int
def T_Re : u_T := fun k => match k with
  | 0 => ("FourPoses$Reader", "kinds", "[I", true)
  | 1 => ("FourPoses$Reader", "spots", "[I", true)
  | 2 => ("FourPoses$Reader", "values", "[I", true)
  | 3 => ("FourPoses$Reader", "tokens", "I", false)
  | 4 => ("FourPoses$Reader", "at", "I", false)
  | 5 => ("FourPoses$Reader", "kind", "I", false)
  | 6 => ("FourPoses$Reader", "used", "I", false)
  | 7 => ("FourPoses$Reader", "fault", "I", false)
  | _ => ("FourPoses$Reader", "law", "LFourPoses$Law;", false)
def ty_Re : Nat → FieldType := fun k => match k with
  | 0 => .array .int
  | 1 => .array .int
  | 2 => .array .int
  | 3 => .int
  | 4 => .int
  | 5 => .int
  | 6 => .int
  | 7 => .int
  | _ => .object "FourPoses$Law"
def T_Rp : u_T := fun k => match k with
  | 0 => ("FourPoses$Replay", "weakBaths", "[I", true)
  | _ => ("FourPoses$Replay", "besides", "[I", true)
def ty_Rp : Nat → FieldType := fun k => match k with
  | 0 => .array .int
  | _ => .array .int
def T_Ro : u_T := fun k => match k with
  | _ => ("FourPoses$Rounds", "rest", "[I", true)
def ty_Ro : Nat → FieldType := fun k => match k with
  | _ => .array .int
def T_To : u_T := fun k => match k with
  | 0 => ("FourPoses$Town", "now", "I", false)
  | 1 => ("FourPoses$Town", "places", "I", false)
  | 2 => ("FourPoses$Town", "booths", "I", false)
  | 3 => ("FourPoses$Town", "heats", "[I", true)
  | 4 => ("FourPoses$Town", "lights", "[I", true)
  | 5 => ("FourPoses$Town", "roads", "[I", true)
  | 6 => ("FourPoses$Town", "row", "[LFourPoses$Booth;", true)
  | 7 => ("FourPoses$Town", "diary", "LFourPoses$Diary;", true)
  | _ => ("FourPoses$Town", "post", "LFourPoses$Post;", true)
def ty_To : Nat → FieldType := fun k => match k with
  | 0 => .int
  | 1 => .int
  | 2 => .int
  | 3 => .array .int
  | 4 => .array .int
  | 5 => .array .int
  | 6 => .array (.object "FourPoses$Booth")
  | 7 => .object "FourPoses$Diary"
  | _ => .object "FourPoses$Post"
def T_Fp : u_T := fun k => match k with
  | 0 => ("FourPoses", "tape", "[I", true)
  | 1 => ("FourPoses", "taped", "I", false)
  | 2 => ("FourPoses", "laws", "[LFourPoses$Law;", true)
  | 3 => ("FourPoses", "lawCount", "I", false)
  | 4 => ("FourPoses", "reader", "LFourPoses$Reader;", true)
  | 5 => ("FourPoses", "facts", "LFourPoses$Facts;", true)
  | 6 => ("FourPoses", "replay", "LFourPoses$Replay;", true)
  | 7 => ("FourPoses", "rounds", "LFourPoses$Rounds;", true)
  | 8 => ("FourPoses", "crane", "LFourPoses$Crane;", true)
  | 9 => ("FourPoses", "town", "LFourPoses$Town;", true)
  | _ => ("FourPoses", "images", "[LFourPoses$Town;", true)
def ty_Fp : Nat → FieldType := fun k => match k with
  | 0 => .array .int
  | 1 => .int
  | 2 => .array (.object "FourPoses$Law")
  | 3 => .int
  | 4 => .object "FourPoses$Reader"
  | 5 => .object "FourPoses$Facts"
  | 6 => .object "FourPoses$Replay"
  | 7 => .object "FourPoses$Rounds"
  | 8 => .object "FourPoses$Crane"
  | 9 => .object "FourPoses$Town"
  | _ => .array (.object "FourPoses$Town")
def T_Mo : u_T := fun k => match k with
  | 0 => ("FourPosesModel", "row", "[I", true)
  | 1 => ("FourPosesModel", "tape", "[B", true)
  | 2 => ("FourPosesModel", "taped", "I", false)
  | 3 => ("FourPosesModel", "laws", "I", false)
  | 4 => ("FourPosesModel", "sign", "[I", true)
  | 5 => ("FourPosesModel", "length", "[I", true)
  | 6 => ("FourPosesModel", "clause", "[I", true)
  | 7 => ("FourPosesModel", "clauses", "[I", true)
  | 8 => ("FourPosesModel", "weak", "[I", true)
  | 9 => ("FourPosesModel", "next", "I", false)
  | 10 => ("FourPosesModel", "wrong", "I", false)
  | 11 => ("FourPosesModel", "said", "I", false)
  | 12 => ("FourPosesModel", "text", "I", false)
  | 13 => ("FourPosesModel", "made", "I", false)
  | 14 => ("FourPosesModel", "deep", "I", false)
  | 15 => ("FourPosesModel", "lines", "I", false)
  | 16 => ("FourPosesModel", "open", "[I", true)
  | 17 => ("FourPosesModel", "opened", "I", false)
  | 18 => ("FourPosesModel", "stack", "[J", true)
  | 19 => ("FourPosesModel", "top", "I", false)
  | 20 => ("FourPosesModel", "word", "[J", true)
  | 21 => ("FourPosesModel", "bath", "[I", true)
  | 22 => ("FourPosesModel", "counted", "[I", true)
  | 23 => ("FourPosesModel", "wayOf", "[I", true)
  | 24 => ("FourPosesModel", "mostOf", "[I", true)
  | 25 => ("FourPosesModel", "images", "[I", true)
  | _ => ("FourPosesModel", "isMade", "[Z", true)
def ty_Mo : Nat → FieldType := fun k => match k with
  | 0 => .array .int
  | 1 => .array .byte
  | 2 => .int
  | 3 => .int
  | 4 => .array .int
  | 5 => .array .int
  | 6 => .array .int
  | 7 => .array .int
  | 8 => .array .int
  | 9 => .int
  | 10 => .int
  | 11 => .int
  | 12 => .int
  | 13 => .int
  | 14 => .int
  | 15 => .int
  | 16 => .array .int
  | 17 => .int
  | 18 => .array .long
  | 19 => .int
  | 20 => .array .long
  | 21 => .array .int
  | 22 => .array .int
  | 23 => .array .int
  | 24 => .array .int
  | 25 => .array .int
  | _ => .array .boolean
abbrev classes : List vw_C := [(C_Bo, T_Bo, 12), (C_Cr, T_Cr, 3), (C_Di, T_Di, 13), (C_Fa, T_Fa, 2), (C_La, T_La, 9), (C_Po, T_Po, 10), (C_Re, T_Re, 9), (C_Rp, T_Rp, 2), (C_Ro, T_Ro, 1), (C_To, T_To, 9), (C_Fp, T_Fp, 11), (C_Mo, T_Mo, 27)]
/-- how many fields a class has -/
def nF (ci : Nat) : Nat := ([12, 3, 13, 2, 9, 10, 9, 2, 1, 9, 11, 27] : List Nat).getD ci 0
/-- a field: 0 a number, 1 a reference that stays, 2 one that changes -/
def ftc (ci j : Nat) : Nat := (([[0, 0, 0, 0, 0, 0, 0, 0, 0, 1, 1, 1], [1, 0, 0], [0, 0, 0, 1, 1, 1, 1, 1, 1, 1, 1, 1, 1], [1, 1], [0, 0, 1, 1, 1, 1, 1, 1, 1], [0, 0, 1, 1, 1, 1, 1, 1, 1, 1], [1, 1, 1, 0, 0, 0, 0, 0, 2], [1, 1], [1], [0, 0, 0, 1, 1, 1, 1, 1, 1], [1, 0, 1, 0, 1, 1, 1, 1, 1, 1, 1], [1, 1, 0, 0, 1, 1, 1, 1, 1, 0, 0, 0, 0, 0, 0, 0, 1, 0, 1, 0, 1, 1, 1, 1, 1, 1, 1]] : List (List Nat)).getD ci []).getD j 0
theorem nm_Bo : ∀ a, a < 12 → ∀ b, b < 12 → a ≠ b → (T_Bo a).2.1 ≠ (T_Bo b).2.1 := by decide +kernel
theorem tyok_Bo : ∀ k, k < 12 → parseFieldDescriptor (T_Bo k).2.2.1 = some (ty_Bo k) := by decide +kernel
theorem in_Bo : ∀ w ∈ u_ws C_Bo T_Bo 12, w ∈ lw_gd := by decide +kernel
theorem nm_Cr : ∀ a, a < 3 → ∀ b, b < 3 → a ≠ b → (T_Cr a).2.1 ≠ (T_Cr b).2.1 := by decide +kernel
theorem tyok_Cr : ∀ k, k < 3 → parseFieldDescriptor (T_Cr k).2.2.1 = some (ty_Cr k) := by decide +kernel
theorem in_Cr : ∀ w ∈ u_ws C_Cr T_Cr 3, w ∈ lw_gd := by decide +kernel
theorem nm_Di : ∀ a, a < 13 → ∀ b, b < 13 → a ≠ b → (T_Di a).2.1 ≠ (T_Di b).2.1 := by decide +kernel
theorem tyok_Di : ∀ k, k < 13 → parseFieldDescriptor (T_Di k).2.2.1 = some (ty_Di k) := by decide +kernel
theorem in_Di : ∀ w ∈ u_ws C_Di T_Di 13, w ∈ lw_gd := by decide +kernel
theorem nm_Fa : ∀ a, a < 2 → ∀ b, b < 2 → a ≠ b → (T_Fa a).2.1 ≠ (T_Fa b).2.1 := by decide +kernel
theorem tyok_Fa : ∀ k, k < 2 → parseFieldDescriptor (T_Fa k).2.2.1 = some (ty_Fa k) := by decide +kernel
theorem in_Fa : ∀ w ∈ u_ws C_Fa T_Fa 2, w ∈ lw_gd := by decide +kernel
theorem nm_La : ∀ a, a < 9 → ∀ b, b < 9 → a ≠ b → (T_La a).2.1 ≠ (T_La b).2.1 := by decide +kernel
theorem tyok_La : ∀ k, k < 9 → parseFieldDescriptor (T_La k).2.2.1 = some (ty_La k) := by decide +kernel
theorem in_La : ∀ w ∈ u_ws C_La T_La 9, w ∈ lw_gd := by decide +kernel
theorem nm_Po : ∀ a, a < 10 → ∀ b, b < 10 → a ≠ b → (T_Po a).2.1 ≠ (T_Po b).2.1 := by decide +kernel
theorem tyok_Po : ∀ k, k < 10 → parseFieldDescriptor (T_Po k).2.2.1 = some (ty_Po k) := by decide +kernel
theorem in_Po : ∀ w ∈ u_ws C_Po T_Po 10, w ∈ lw_gd := by decide +kernel
theorem nm_Re : ∀ a, a < 9 → ∀ b, b < 9 → a ≠ b → (T_Re a).2.1 ≠ (T_Re b).2.1 := by decide +kernel
theorem tyok_Re : ∀ k, k < 9 → parseFieldDescriptor (T_Re k).2.2.1 = some (ty_Re k) := by decide +kernel
theorem in_Re : ∀ w ∈ u_ws C_Re T_Re 9, w ∈ lw_gd := by decide +kernel
theorem nm_Rp : ∀ a, a < 2 → ∀ b, b < 2 → a ≠ b → (T_Rp a).2.1 ≠ (T_Rp b).2.1 := by decide +kernel
theorem tyok_Rp : ∀ k, k < 2 → parseFieldDescriptor (T_Rp k).2.2.1 = some (ty_Rp k) := by decide +kernel
theorem in_Rp : ∀ w ∈ u_ws C_Rp T_Rp 2, w ∈ lw_gd := by decide +kernel
theorem nm_Ro : ∀ a, a < 1 → ∀ b, b < 1 → a ≠ b → (T_Ro a).2.1 ≠ (T_Ro b).2.1 := by decide +kernel
theorem tyok_Ro : ∀ k, k < 1 → parseFieldDescriptor (T_Ro k).2.2.1 = some (ty_Ro k) := by decide +kernel
theorem in_Ro : ∀ w ∈ u_ws C_Ro T_Ro 1, w ∈ lw_gd := by decide +kernel
theorem nm_To : ∀ a, a < 9 → ∀ b, b < 9 → a ≠ b → (T_To a).2.1 ≠ (T_To b).2.1 := by decide +kernel
theorem tyok_To : ∀ k, k < 9 → parseFieldDescriptor (T_To k).2.2.1 = some (ty_To k) := by decide +kernel
theorem in_To : ∀ w ∈ u_ws C_To T_To 9, w ∈ lw_gd := by decide +kernel
theorem nm_Fp : ∀ a, a < 11 → ∀ b, b < 11 → a ≠ b → (T_Fp a).2.1 ≠ (T_Fp b).2.1 := by decide +kernel
theorem tyok_Fp : ∀ k, k < 11 → parseFieldDescriptor (T_Fp k).2.2.1 = some (ty_Fp k) := by decide +kernel
theorem in_Fp : ∀ w ∈ u_ws C_Fp T_Fp 11, w ∈ lw_gd := by decide +kernel
theorem nm_Mo : ∀ a, a < 27 → ∀ b, b < 27 → a ≠ b → (T_Mo a).2.1 ≠ (T_Mo b).2.1 := by decide +kernel
theorem tyok_Mo : ∀ k, k < 27 → parseFieldDescriptor (T_Mo k).2.2.1 = some (ty_Mo k) := by decide +kernel
theorem in_Mo : ∀ w ∈ u_ws C_Mo T_Mo 27, w ∈ lw_gd := by decide +kernel
/-! the layout: which cell has which virtual address, of what kind and length; which reference it holds -/
def kdL : List (Nat × Nat) := [(20, 11), (1, 400), (5, 8), (16, 9), (1, 401), (1, 401), (1, 401), (14, 9), (1, 14), (1, 14), (1, 14), (1, 14), (1, 14), (1, 3), (1, 400), (13, 2), (4, 9), (4, 60), (17, 2), (1, 400), (1, 400), (18, 1), (1, 2048), (11, 3), (1, 4096), (19, 9), (1, 400), (1, 12), (1, 144), (6, 8), (12, 13), (1, 400), (1, 400), (1, 400), (1, 400), (1, 400), (1, 400), (1, 400), (1, 900), (1, 900), (1, 900), (15, 10), (1, 100), (1, 100), (1, 100), (1, 100), (1, 100), (1, 100), (1, 100), (1, 100), (10, 12), (1, 3), (1, 12), (1, 12), (10, 12), (1, 3), (1, 12), (1, 12), (10, 12), (1, 3), (1, 12), (1, 12), (10, 12), (1, 3), (1, 12), (1, 12), (10, 12), (1, 3), (1, 12), (1, 12), (10, 12), (1, 3), (1, 12), (1, 12), (10, 12), (1, 3), (1, 12), (1, 12), (10, 12), (1, 3), (1, 12), (1, 12), (7, 4), (14, 9), (1, 14), (1, 14), (1, 14), (1, 14), (1, 14), (1, 3), (1, 400), (14, 9), (1, 14), (1, 14), (1, 14), (1, 14), (1, 14), (1, 3), (1, 400), (14, 9), (1, 14), (1, 14), (1, 14), (1, 14), (1, 14), (1, 3), (1, 400), (14, 9), (1, 14), (1, 14), (1, 14), (1, 14), (1, 14), (1, 3), (1, 400), (14, 9), (1, 14), (1, 14), (1, 14), (1, 14), (1, 14), (1, 3), (1, 400), (14, 9), (1, 14), (1, 14), (1, 14), (1, 14), (1, 14), (1, 3), (1, 400), (14, 9), (1, 14), (1, 14), (1, 14), (1, 14), (1, 14), (1, 3), (1, 400), (14, 9), (1, 14), (1, 14), (1, 14), (1, 14), (1, 14), (1, 3), (1, 400), (21, 27), (1, 8918), (2, 400), (1, 3200), (1, 8), (1, 560), (1, 8), (1, 24), (1, 400), (4, 64), (4, 9), (1, 3), (1, 6), (1, 2048), (1, 4096), (1, 35672), (3, 4)]
def kdT : List (Nat × Nat) := [(19, 9), (1, 400), (1, 12), (1, 144), (6, 8), (12, 13), (1, 400), (1, 400), (1, 400), (1, 400), (1, 400), (1, 400), (1, 400), (1, 900), (1, 900), (1, 900), (15, 10), (1, 100), (1, 100), (1, 100), (1, 100), (1, 100), (1, 100), (1, 100), (1, 100), (10, 12), (1, 3), (1, 12), (1, 12), (10, 12), (1, 3), (1, 12), (1, 12), (10, 12), (1, 3), (1, 12), (1, 12), (10, 12), (1, 3), (1, 12), (1, 12), (10, 12), (1, 3), (1, 12), (1, 12), (10, 12), (1, 3), (1, 12), (1, 12), (10, 12), (1, 3), (1, 12), (1, 12), (10, 12), (1, 3), (1, 12), (1, 12)]
def rtL : List (List (Option Nat)) := [[some 5, none, some 6, none, some 7, some 19, some 22, some 25, some 27, some 29, some 86], [], [some 87, some 95, some 103, some 111, some 119, some 127, some 135, some 143], [some 8, some 9, some 10], [], [], [], [none, none, some 12, some 13, some 14, some 15, some 16, some 17, some 18], [], [], [], [], [], [], [], [some 20, some 21], [], [], [some 23, some 24], [], [], [some 26], [], [some 28], [], [none, none, none, some 30, some 31, some 32, some 33, some 34, some 45], [], [], [], [some 54, some 58, some 62, some 66, some 70, some 74, some 78, some 82], [none, none, none, some 35, some 36, some 37, some 38, some 39, some 40, some 41, some 42, some 43, some 44], [], [], [], [], [], [], [], [], [], [], [none, none, some 46, some 47, some 48, some 49, some 50, some 51, some 52, some 53], [], [], [], [], [], [], [], [], [none, none, none, none, none, none, none, none, none, some 55, some 56, some 57], [], [], [], [none, none, none, none, none, none, none, none, none, some 59, some 60, some 61], [], [], [], [none, none, none, none, none, none, none, none, none, some 63, some 64, some 65], [], [], [], [none, none, none, none, none, none, none, none, none, some 67, some 68, some 69], [], [], [], [none, none, none, none, none, none, none, none, none, some 71, some 72, some 73], [], [], [], [none, none, none, none, none, none, none, none, none, some 75, some 76, some 77], [], [], [], [none, none, none, none, none, none, none, none, none, some 79, some 80, some 81], [], [], [], [none, none, none, none, none, none, none, none, none, some 83, some 84, some 85], [], [], [], [], [none, none, some 88, some 89, some 90, some 91, some 92, some 93, some 94], [], [], [], [], [], [], [], [none, none, some 96, some 97, some 98, some 99, some 100, some 101, some 102], [], [], [], [], [], [], [], [none, none, some 104, some 105, some 106, some 107, some 108, some 109, some 110], [], [], [], [], [], [], [], [none, none, some 112, some 113, some 114, some 115, some 116, some 117, some 118], [], [], [], [], [], [], [], [none, none, some 120, some 121, some 122, some 123, some 124, some 125, some 126], [], [], [], [], [], [], [], [none, none, some 128, some 129, some 130, some 131, some 132, some 133, some 134], [], [], [], [], [], [], [], [none, none, some 136, some 137, some 138, some 139, some 140, some 141, some 142], [], [], [], [], [], [], [], [none, none, some 144, some 145, some 146, some 147, some 148, some 149, some 150], [], [], [], [], [], [], [], [some 152, some 153, none, none, some 154, some 155, some 156, some 157, some 158, none, none, none, none, none, none, none, some 159, none, some 160, none, some 161, some 162, some 163, some 164, some 165, some 166, some 167], [], [], [], [], [], [], [], [], [], [], [], [], [], [], [], []]
def rtT : List (List (Option Nat)) := [[none, none, none, some 1, some 2, some 3, some 4, some 5, some 16], [], [], [], [some 25, some 29, some 33, some 37, some 41, some 45, some 49, some 53], [none, none, none, some 6, some 7, some 8, some 9, some 10, some 11, some 12, some 13, some 14, some 15], [], [], [], [], [], [], [], [], [], [], [none, none, some 17, some 18, some 19, some 20, some 21, some 22, some 23, some 24], [], [], [], [], [], [], [], [], [none, none, none, none, none, none, none, none, none, some 26, some 27, some 28], [], [], [], [none, none, none, none, none, none, none, none, none, some 30, some 31, some 32], [], [], [], [none, none, none, none, none, none, none, none, none, some 34, some 35, some 36], [], [], [], [none, none, none, none, none, none, none, none, none, some 38, some 39, some 40], [], [], [], [none, none, none, none, none, none, none, none, none, some 42, some 43, some 44], [], [], [], [none, none, none, none, none, none, none, none, none, some 46, some 47, some 48], [], [], [], [none, none, none, none, none, none, none, none, none, some 50, some 51, some 52], [], [], [], [none, none, none, none, none, none, none, none, none, some 54, some 55, some 56], [], [], []]
def KD (a : Nat) : Nat × Nat := if a < 4 then (0, 0) else if a < 168 then kdL.getD (a - 4) (0, 0) else if a < 396 then kdT.getD ((a - 168) % 57) (0, 0) else (0, 0)
def RT (a j : Nat) : Option Nat := if a < 4 then none else if a < 168 then (rtL.getD (a - 4) []).getD j none else if a < 396 then ((rtT.getD ((a - 168) % 57) []).getD j none).map (fun z => z + (168 + 57 * ((a - 168) / 57))) else none
theorem kd_4 : KD 4 = (20, 11) := by decide +kernel
theorem kd_5 : KD 5 = (1, 400) := by decide +kernel
theorem kd_6 : KD 6 = (5, 8) := by decide +kernel
theorem kd_7 : KD 7 = (16, 9) := by decide +kernel
theorem kd_8 : KD 8 = (1, 401) := by decide +kernel
theorem kd_9 : KD 9 = (1, 401) := by decide +kernel
theorem kd_10 : KD 10 = (1, 401) := by decide +kernel
theorem kd_11 : KD 11 = (14, 9) := by decide +kernel
theorem kd_12 : KD 12 = (1, 14) := by decide +kernel
theorem kd_13 : KD 13 = (1, 14) := by decide +kernel
theorem kd_14 : KD 14 = (1, 14) := by decide +kernel
theorem kd_15 : KD 15 = (1, 14) := by decide +kernel
theorem kd_16 : KD 16 = (1, 14) := by decide +kernel
theorem kd_17 : KD 17 = (1, 3) := by decide +kernel
theorem kd_18 : KD 18 = (1, 400) := by decide +kernel
theorem kd_19 : KD 19 = (13, 2) := by decide +kernel
theorem kd_20 : KD 20 = (4, 9) := by decide +kernel
theorem kd_21 : KD 21 = (4, 60) := by decide +kernel
theorem kd_22 : KD 22 = (17, 2) := by decide +kernel
theorem kd_23 : KD 23 = (1, 400) := by decide +kernel
theorem kd_24 : KD 24 = (1, 400) := by decide +kernel
theorem kd_25 : KD 25 = (18, 1) := by decide +kernel
theorem kd_26 : KD 26 = (1, 2048) := by decide +kernel
theorem kd_27 : KD 27 = (11, 3) := by decide +kernel
theorem kd_28 : KD 28 = (1, 4096) := by decide +kernel
theorem kd_29 : KD 29 = (19, 9) := by decide +kernel
theorem kd_30 : KD 30 = (1, 400) := by decide +kernel
theorem kd_31 : KD 31 = (1, 12) := by decide +kernel
theorem kd_32 : KD 32 = (1, 144) := by decide +kernel
theorem kd_33 : KD 33 = (6, 8) := by decide +kernel
theorem kd_34 : KD 34 = (12, 13) := by decide +kernel
theorem kd_35 : KD 35 = (1, 400) := by decide +kernel
theorem kd_36 : KD 36 = (1, 400) := by decide +kernel
theorem kd_37 : KD 37 = (1, 400) := by decide +kernel
theorem kd_38 : KD 38 = (1, 400) := by decide +kernel
theorem kd_39 : KD 39 = (1, 400) := by decide +kernel
theorem kd_40 : KD 40 = (1, 400) := by decide +kernel
theorem kd_41 : KD 41 = (1, 400) := by decide +kernel
theorem kd_42 : KD 42 = (1, 900) := by decide +kernel
theorem kd_43 : KD 43 = (1, 900) := by decide +kernel
theorem kd_44 : KD 44 = (1, 900) := by decide +kernel
theorem kd_45 : KD 45 = (15, 10) := by decide +kernel
theorem kd_46 : KD 46 = (1, 100) := by decide +kernel
theorem kd_47 : KD 47 = (1, 100) := by decide +kernel
theorem kd_48 : KD 48 = (1, 100) := by decide +kernel
theorem kd_49 : KD 49 = (1, 100) := by decide +kernel
theorem kd_50 : KD 50 = (1, 100) := by decide +kernel
theorem kd_51 : KD 51 = (1, 100) := by decide +kernel
theorem kd_52 : KD 52 = (1, 100) := by decide +kernel
theorem kd_53 : KD 53 = (1, 100) := by decide +kernel
theorem kd_54 : KD 54 = (10, 12) := by decide +kernel
theorem kd_55 : KD 55 = (1, 3) := by decide +kernel
theorem kd_56 : KD 56 = (1, 12) := by decide +kernel
theorem kd_57 : KD 57 = (1, 12) := by decide +kernel
theorem kd_58 : KD 58 = (10, 12) := by decide +kernel
theorem kd_59 : KD 59 = (1, 3) := by decide +kernel
theorem kd_60 : KD 60 = (1, 12) := by decide +kernel
theorem kd_61 : KD 61 = (1, 12) := by decide +kernel
theorem kd_62 : KD 62 = (10, 12) := by decide +kernel
theorem kd_63 : KD 63 = (1, 3) := by decide +kernel
theorem kd_64 : KD 64 = (1, 12) := by decide +kernel
theorem kd_65 : KD 65 = (1, 12) := by decide +kernel
theorem kd_66 : KD 66 = (10, 12) := by decide +kernel
theorem kd_67 : KD 67 = (1, 3) := by decide +kernel
theorem kd_68 : KD 68 = (1, 12) := by decide +kernel
theorem kd_69 : KD 69 = (1, 12) := by decide +kernel
theorem kd_70 : KD 70 = (10, 12) := by decide +kernel
theorem kd_71 : KD 71 = (1, 3) := by decide +kernel
theorem kd_72 : KD 72 = (1, 12) := by decide +kernel
theorem kd_73 : KD 73 = (1, 12) := by decide +kernel
theorem kd_74 : KD 74 = (10, 12) := by decide +kernel
theorem kd_75 : KD 75 = (1, 3) := by decide +kernel
theorem kd_76 : KD 76 = (1, 12) := by decide +kernel
theorem kd_77 : KD 77 = (1, 12) := by decide +kernel
theorem kd_78 : KD 78 = (10, 12) := by decide +kernel
theorem kd_79 : KD 79 = (1, 3) := by decide +kernel
theorem kd_80 : KD 80 = (1, 12) := by decide +kernel
theorem kd_81 : KD 81 = (1, 12) := by decide +kernel
theorem kd_82 : KD 82 = (10, 12) := by decide +kernel
theorem kd_83 : KD 83 = (1, 3) := by decide +kernel
theorem kd_84 : KD 84 = (1, 12) := by decide +kernel
theorem kd_85 : KD 85 = (1, 12) := by decide +kernel
theorem kd_86 : KD 86 = (7, 4) := by decide +kernel
theorem kd_87 : KD 87 = (14, 9) := by decide +kernel
theorem kd_88 : KD 88 = (1, 14) := by decide +kernel
theorem kd_89 : KD 89 = (1, 14) := by decide +kernel
theorem kd_90 : KD 90 = (1, 14) := by decide +kernel
theorem kd_91 : KD 91 = (1, 14) := by decide +kernel
theorem kd_92 : KD 92 = (1, 14) := by decide +kernel
theorem kd_93 : KD 93 = (1, 3) := by decide +kernel
theorem kd_94 : KD 94 = (1, 400) := by decide +kernel
theorem kd_95 : KD 95 = (14, 9) := by decide +kernel
theorem kd_96 : KD 96 = (1, 14) := by decide +kernel
theorem kd_97 : KD 97 = (1, 14) := by decide +kernel
theorem kd_98 : KD 98 = (1, 14) := by decide +kernel
theorem kd_99 : KD 99 = (1, 14) := by decide +kernel
theorem kd_100 : KD 100 = (1, 14) := by decide +kernel
theorem kd_101 : KD 101 = (1, 3) := by decide +kernel
theorem kd_102 : KD 102 = (1, 400) := by decide +kernel
theorem kd_103 : KD 103 = (14, 9) := by decide +kernel
theorem kd_104 : KD 104 = (1, 14) := by decide +kernel
theorem kd_105 : KD 105 = (1, 14) := by decide +kernel
theorem kd_106 : KD 106 = (1, 14) := by decide +kernel
theorem kd_107 : KD 107 = (1, 14) := by decide +kernel
theorem kd_108 : KD 108 = (1, 14) := by decide +kernel
theorem kd_109 : KD 109 = (1, 3) := by decide +kernel
theorem kd_110 : KD 110 = (1, 400) := by decide +kernel
theorem kd_111 : KD 111 = (14, 9) := by decide +kernel
theorem kd_112 : KD 112 = (1, 14) := by decide +kernel
theorem kd_113 : KD 113 = (1, 14) := by decide +kernel
theorem kd_114 : KD 114 = (1, 14) := by decide +kernel
theorem kd_115 : KD 115 = (1, 14) := by decide +kernel
theorem kd_116 : KD 116 = (1, 14) := by decide +kernel
theorem kd_117 : KD 117 = (1, 3) := by decide +kernel
theorem kd_118 : KD 118 = (1, 400) := by decide +kernel
theorem kd_119 : KD 119 = (14, 9) := by decide +kernel
theorem kd_120 : KD 120 = (1, 14) := by decide +kernel
theorem kd_121 : KD 121 = (1, 14) := by decide +kernel
theorem kd_122 : KD 122 = (1, 14) := by decide +kernel
theorem kd_123 : KD 123 = (1, 14) := by decide +kernel
theorem kd_124 : KD 124 = (1, 14) := by decide +kernel
theorem kd_125 : KD 125 = (1, 3) := by decide +kernel
theorem kd_126 : KD 126 = (1, 400) := by decide +kernel
theorem kd_127 : KD 127 = (14, 9) := by decide +kernel
theorem kd_128 : KD 128 = (1, 14) := by decide +kernel
theorem kd_129 : KD 129 = (1, 14) := by decide +kernel
theorem kd_130 : KD 130 = (1, 14) := by decide +kernel
theorem kd_131 : KD 131 = (1, 14) := by decide +kernel
theorem kd_132 : KD 132 = (1, 14) := by decide +kernel
theorem kd_133 : KD 133 = (1, 3) := by decide +kernel
theorem kd_134 : KD 134 = (1, 400) := by decide +kernel
theorem kd_135 : KD 135 = (14, 9) := by decide +kernel
theorem kd_136 : KD 136 = (1, 14) := by decide +kernel
theorem kd_137 : KD 137 = (1, 14) := by decide +kernel
theorem kd_138 : KD 138 = (1, 14) := by decide +kernel
theorem kd_139 : KD 139 = (1, 14) := by decide +kernel
theorem kd_140 : KD 140 = (1, 14) := by decide +kernel
theorem kd_141 : KD 141 = (1, 3) := by decide +kernel
theorem kd_142 : KD 142 = (1, 400) := by decide +kernel
theorem kd_143 : KD 143 = (14, 9) := by decide +kernel
theorem kd_144 : KD 144 = (1, 14) := by decide +kernel
theorem kd_145 : KD 145 = (1, 14) := by decide +kernel
theorem kd_146 : KD 146 = (1, 14) := by decide +kernel
theorem kd_147 : KD 147 = (1, 14) := by decide +kernel
theorem kd_148 : KD 148 = (1, 14) := by decide +kernel
theorem kd_149 : KD 149 = (1, 3) := by decide +kernel
theorem kd_150 : KD 150 = (1, 400) := by decide +kernel
theorem kd_151 : KD 151 = (21, 27) := by decide +kernel
theorem kd_152 : KD 152 = (1, 8918) := by decide +kernel
theorem kd_153 : KD 153 = (2, 400) := by decide +kernel
theorem kd_154 : KD 154 = (1, 3200) := by decide +kernel
theorem kd_155 : KD 155 = (1, 8) := by decide +kernel
theorem kd_156 : KD 156 = (1, 560) := by decide +kernel
theorem kd_157 : KD 157 = (1, 8) := by decide +kernel
theorem kd_158 : KD 158 = (1, 24) := by decide +kernel
theorem kd_159 : KD 159 = (1, 400) := by decide +kernel
theorem kd_160 : KD 160 = (4, 64) := by decide +kernel
theorem kd_161 : KD 161 = (4, 9) := by decide +kernel
theorem kd_162 : KD 162 = (1, 3) := by decide +kernel
theorem kd_163 : KD 163 = (1, 6) := by decide +kernel
theorem kd_164 : KD 164 = (1, 2048) := by decide +kernel
theorem kd_165 : KD 165 = (1, 4096) := by decide +kernel
theorem kd_166 : KD 166 = (1, 35672) := by decide +kernel
theorem kd_167 : KD 167 = (3, 4) := by decide +kernel
theorem rt_4_0 : RT 4 0 = some 5 := by decide +kernel
theorem rt_4_2 : RT 4 2 = some 6 := by decide +kernel
theorem rt_4_4 : RT 4 4 = some 7 := by decide +kernel
theorem rt_4_5 : RT 4 5 = some 19 := by decide +kernel
theorem rt_4_6 : RT 4 6 = some 22 := by decide +kernel
theorem rt_4_7 : RT 4 7 = some 25 := by decide +kernel
theorem rt_4_8 : RT 4 8 = some 27 := by decide +kernel
theorem rt_4_9 : RT 4 9 = some 29 := by decide +kernel
theorem rt_4_10 : RT 4 10 = some 86 := by decide +kernel
theorem rt_6_0 : RT 6 0 = some 87 := by decide +kernel
theorem rt_6_1 : RT 6 1 = some 95 := by decide +kernel
theorem rt_6_2 : RT 6 2 = some 103 := by decide +kernel
theorem rt_6_3 : RT 6 3 = some 111 := by decide +kernel
theorem rt_6_4 : RT 6 4 = some 119 := by decide +kernel
theorem rt_6_5 : RT 6 5 = some 127 := by decide +kernel
theorem rt_6_6 : RT 6 6 = some 135 := by decide +kernel
theorem rt_6_7 : RT 6 7 = some 143 := by decide +kernel
theorem rt_7_0 : RT 7 0 = some 8 := by decide +kernel
theorem rt_7_1 : RT 7 1 = some 9 := by decide +kernel
theorem rt_7_2 : RT 7 2 = some 10 := by decide +kernel
theorem rt_11_2 : RT 11 2 = some 12 := by decide +kernel
theorem rt_11_3 : RT 11 3 = some 13 := by decide +kernel
theorem rt_11_4 : RT 11 4 = some 14 := by decide +kernel
theorem rt_11_5 : RT 11 5 = some 15 := by decide +kernel
theorem rt_11_6 : RT 11 6 = some 16 := by decide +kernel
theorem rt_11_7 : RT 11 7 = some 17 := by decide +kernel
theorem rt_11_8 : RT 11 8 = some 18 := by decide +kernel
theorem rt_19_0 : RT 19 0 = some 20 := by decide +kernel
theorem rt_19_1 : RT 19 1 = some 21 := by decide +kernel
theorem rt_22_0 : RT 22 0 = some 23 := by decide +kernel
theorem rt_22_1 : RT 22 1 = some 24 := by decide +kernel
theorem rt_25_0 : RT 25 0 = some 26 := by decide +kernel
theorem rt_27_0 : RT 27 0 = some 28 := by decide +kernel
theorem rt_29_3 : RT 29 3 = some 30 := by decide +kernel
theorem rt_29_4 : RT 29 4 = some 31 := by decide +kernel
theorem rt_29_5 : RT 29 5 = some 32 := by decide +kernel
theorem rt_29_6 : RT 29 6 = some 33 := by decide +kernel
theorem rt_29_7 : RT 29 7 = some 34 := by decide +kernel
theorem rt_29_8 : RT 29 8 = some 45 := by decide +kernel
theorem rt_33_0 : RT 33 0 = some 54 := by decide +kernel
theorem rt_33_1 : RT 33 1 = some 58 := by decide +kernel
theorem rt_33_2 : RT 33 2 = some 62 := by decide +kernel
theorem rt_33_3 : RT 33 3 = some 66 := by decide +kernel
theorem rt_33_4 : RT 33 4 = some 70 := by decide +kernel
theorem rt_33_5 : RT 33 5 = some 74 := by decide +kernel
theorem rt_33_6 : RT 33 6 = some 78 := by decide +kernel
theorem rt_33_7 : RT 33 7 = some 82 := by decide +kernel
theorem rt_34_3 : RT 34 3 = some 35 := by decide +kernel
theorem rt_34_4 : RT 34 4 = some 36 := by decide +kernel
theorem rt_34_5 : RT 34 5 = some 37 := by decide +kernel
theorem rt_34_6 : RT 34 6 = some 38 := by decide +kernel
theorem rt_34_7 : RT 34 7 = some 39 := by decide +kernel
theorem rt_34_8 : RT 34 8 = some 40 := by decide +kernel
theorem rt_34_9 : RT 34 9 = some 41 := by decide +kernel
theorem rt_34_10 : RT 34 10 = some 42 := by decide +kernel
theorem rt_34_11 : RT 34 11 = some 43 := by decide +kernel
theorem rt_34_12 : RT 34 12 = some 44 := by decide +kernel
theorem rt_45_2 : RT 45 2 = some 46 := by decide +kernel
theorem rt_45_3 : RT 45 3 = some 47 := by decide +kernel
theorem rt_45_4 : RT 45 4 = some 48 := by decide +kernel
theorem rt_45_5 : RT 45 5 = some 49 := by decide +kernel
theorem rt_45_6 : RT 45 6 = some 50 := by decide +kernel
theorem rt_45_7 : RT 45 7 = some 51 := by decide +kernel
theorem rt_45_8 : RT 45 8 = some 52 := by decide +kernel
theorem rt_45_9 : RT 45 9 = some 53 := by decide +kernel
theorem rt_54_9 : RT 54 9 = some 55 := by decide +kernel
theorem rt_54_10 : RT 54 10 = some 56 := by decide +kernel
theorem rt_54_11 : RT 54 11 = some 57 := by decide +kernel
theorem rt_58_9 : RT 58 9 = some 59 := by decide +kernel
theorem rt_58_10 : RT 58 10 = some 60 := by decide +kernel
theorem rt_58_11 : RT 58 11 = some 61 := by decide +kernel
theorem rt_62_9 : RT 62 9 = some 63 := by decide +kernel
theorem rt_62_10 : RT 62 10 = some 64 := by decide +kernel
theorem rt_62_11 : RT 62 11 = some 65 := by decide +kernel
theorem rt_66_9 : RT 66 9 = some 67 := by decide +kernel
theorem rt_66_10 : RT 66 10 = some 68 := by decide +kernel
theorem rt_66_11 : RT 66 11 = some 69 := by decide +kernel
theorem rt_70_9 : RT 70 9 = some 71 := by decide +kernel
theorem rt_70_10 : RT 70 10 = some 72 := by decide +kernel
theorem rt_70_11 : RT 70 11 = some 73 := by decide +kernel
theorem rt_74_9 : RT 74 9 = some 75 := by decide +kernel
theorem rt_74_10 : RT 74 10 = some 76 := by decide +kernel
theorem rt_74_11 : RT 74 11 = some 77 := by decide +kernel
theorem rt_78_9 : RT 78 9 = some 79 := by decide +kernel
theorem rt_78_10 : RT 78 10 = some 80 := by decide +kernel
theorem rt_78_11 : RT 78 11 = some 81 := by decide +kernel
theorem rt_82_9 : RT 82 9 = some 83 := by decide +kernel
theorem rt_82_10 : RT 82 10 = some 84 := by decide +kernel
theorem rt_82_11 : RT 82 11 = some 85 := by decide +kernel
theorem rt_87_2 : RT 87 2 = some 88 := by decide +kernel
theorem rt_87_3 : RT 87 3 = some 89 := by decide +kernel
theorem rt_87_4 : RT 87 4 = some 90 := by decide +kernel
theorem rt_87_5 : RT 87 5 = some 91 := by decide +kernel
theorem rt_87_6 : RT 87 6 = some 92 := by decide +kernel
theorem rt_87_7 : RT 87 7 = some 93 := by decide +kernel
theorem rt_87_8 : RT 87 8 = some 94 := by decide +kernel
theorem rt_95_2 : RT 95 2 = some 96 := by decide +kernel
theorem rt_95_3 : RT 95 3 = some 97 := by decide +kernel
theorem rt_95_4 : RT 95 4 = some 98 := by decide +kernel
theorem rt_95_5 : RT 95 5 = some 99 := by decide +kernel
theorem rt_95_6 : RT 95 6 = some 100 := by decide +kernel
theorem rt_95_7 : RT 95 7 = some 101 := by decide +kernel
theorem rt_95_8 : RT 95 8 = some 102 := by decide +kernel
theorem rt_103_2 : RT 103 2 = some 104 := by decide +kernel
theorem rt_103_3 : RT 103 3 = some 105 := by decide +kernel
theorem rt_103_4 : RT 103 4 = some 106 := by decide +kernel
theorem rt_103_5 : RT 103 5 = some 107 := by decide +kernel
theorem rt_103_6 : RT 103 6 = some 108 := by decide +kernel
theorem rt_103_7 : RT 103 7 = some 109 := by decide +kernel
theorem rt_103_8 : RT 103 8 = some 110 := by decide +kernel
theorem rt_111_2 : RT 111 2 = some 112 := by decide +kernel
theorem rt_111_3 : RT 111 3 = some 113 := by decide +kernel
theorem rt_111_4 : RT 111 4 = some 114 := by decide +kernel
theorem rt_111_5 : RT 111 5 = some 115 := by decide +kernel
theorem rt_111_6 : RT 111 6 = some 116 := by decide +kernel
theorem rt_111_7 : RT 111 7 = some 117 := by decide +kernel
theorem rt_111_8 : RT 111 8 = some 118 := by decide +kernel
theorem rt_119_2 : RT 119 2 = some 120 := by decide +kernel
theorem rt_119_3 : RT 119 3 = some 121 := by decide +kernel
theorem rt_119_4 : RT 119 4 = some 122 := by decide +kernel
theorem rt_119_5 : RT 119 5 = some 123 := by decide +kernel
theorem rt_119_6 : RT 119 6 = some 124 := by decide +kernel
theorem rt_119_7 : RT 119 7 = some 125 := by decide +kernel
theorem rt_119_8 : RT 119 8 = some 126 := by decide +kernel
theorem rt_127_2 : RT 127 2 = some 128 := by decide +kernel
theorem rt_127_3 : RT 127 3 = some 129 := by decide +kernel
theorem rt_127_4 : RT 127 4 = some 130 := by decide +kernel
theorem rt_127_5 : RT 127 5 = some 131 := by decide +kernel
theorem rt_127_6 : RT 127 6 = some 132 := by decide +kernel
theorem rt_127_7 : RT 127 7 = some 133 := by decide +kernel
theorem rt_127_8 : RT 127 8 = some 134 := by decide +kernel
theorem rt_135_2 : RT 135 2 = some 136 := by decide +kernel
theorem rt_135_3 : RT 135 3 = some 137 := by decide +kernel
theorem rt_135_4 : RT 135 4 = some 138 := by decide +kernel
theorem rt_135_5 : RT 135 5 = some 139 := by decide +kernel
theorem rt_135_6 : RT 135 6 = some 140 := by decide +kernel
theorem rt_135_7 : RT 135 7 = some 141 := by decide +kernel
theorem rt_135_8 : RT 135 8 = some 142 := by decide +kernel
theorem rt_143_2 : RT 143 2 = some 144 := by decide +kernel
theorem rt_143_3 : RT 143 3 = some 145 := by decide +kernel
theorem rt_143_4 : RT 143 4 = some 146 := by decide +kernel
theorem rt_143_5 : RT 143 5 = some 147 := by decide +kernel
theorem rt_143_6 : RT 143 6 = some 148 := by decide +kernel
theorem rt_143_7 : RT 143 7 = some 149 := by decide +kernel
theorem rt_143_8 : RT 143 8 = some 150 := by decide +kernel
theorem rt_151_0 : RT 151 0 = some 152 := by decide +kernel
theorem rt_151_1 : RT 151 1 = some 153 := by decide +kernel
theorem rt_151_4 : RT 151 4 = some 154 := by decide +kernel
theorem rt_151_5 : RT 151 5 = some 155 := by decide +kernel
theorem rt_151_6 : RT 151 6 = some 156 := by decide +kernel
theorem rt_151_7 : RT 151 7 = some 157 := by decide +kernel
theorem rt_151_8 : RT 151 8 = some 158 := by decide +kernel
theorem rt_151_16 : RT 151 16 = some 159 := by decide +kernel
theorem rt_151_18 : RT 151 18 = some 160 := by decide +kernel
theorem rt_151_20 : RT 151 20 = some 161 := by decide +kernel
theorem rt_151_21 : RT 151 21 = some 162 := by decide +kernel
theorem rt_151_22 : RT 151 22 = some 163 := by decide +kernel
theorem rt_151_23 : RT 151 23 = some 164 := by decide +kernel
theorem rt_151_24 : RT 151 24 = some 165 := by decide +kernel
theorem rt_151_25 : RT 151 25 = some 166 := by decide +kernel
theorem rt_151_26 : RT 151 26 = some 167 := by decide +kernel
/-- a law, a booth, a town: their addresses -/
def isL (t : Nat) : Bool := decide (87 ≤ t) && decide (t < 151) && ((t - 87) % 8 == 0)
def isT (t : Nat) : Bool := (t == 29) || (decide (168 ≤ t) && decide (t < 396) && ((t - 168) % 57 == 0))
def isB (t : Nat) : Bool := (decide (54 ≤ t) && decide (t < 86) && ((t - 54) % 4 == 0)) || (decide (168 ≤ t) && decide (t < 396) && decide (25 ≤ (t - 168) % 57) && (((t - 168) % 57 - 25) % 4 == 0))
def kd_isL : List (Nat × Nat) := [(14, 9), (1, 14), (1, 14), (1, 14), (1, 14), (1, 14), (1, 3), (1, 400)]
def rt_isL : List (List (Option Nat)) := [[none, none, some 1, some 2, some 3, some 4, some 5, some 6, some 7], [], [], [], [], [], [], []]
theorem fx_isLK0 : ∀ t, t < 151 → isL t = true → ∀ i, i < 8 → KD (t + i) = kd_isL.getD i (0, 0) := by decide +kernel
theorem fx_isLR0 : ∀ t, t < 151 → isL t = true → ∀ i, i < 8 → ∀ j, j < 13 → RT (t + i) j = ((rt_isL.getD i []).getD j none).map (fun z => t + z) := by decide +kernel
theorem fx_isLlt {t : Nat} (h : isL t = true) : t < 151 := by
  simp only [isL, Bool.or_eq_true, Bool.and_eq_true, decide_eq_true_eq, beq_iff_eq] at h; omega
theorem fx_isLK {t : Nat} (h : isL t = true) (i : Nat) (hi : i < 8) : KD (t + i) = kd_isL.getD i (0, 0) := fx_isLK0 t (fx_isLlt h) h i hi
theorem fx_isLR {t : Nat} (h : isL t = true) (i j : Nat) (hi : i < 8) (hj : j < 13) : RT (t + i) j = ((rt_isL.getD i []).getD j none).map (fun z => t + z) := fx_isLR0 t (fx_isLlt h) h i hi j hj
def kd_isB : List (Nat × Nat) := [(10, 12), (1, 3), (1, 12), (1, 12)]
def rt_isB : List (List (Option Nat)) := [[none, none, none, none, none, none, none, none, none, some 1, some 2, some 3], [], [], []]
theorem fx_isBK0 : ∀ t, t < 396 → isB t = true → ∀ i, i < 4 → KD (t + i) = kd_isB.getD i (0, 0) := by decide +kernel
theorem fx_isBR0 : ∀ t, t < 396 → isB t = true → ∀ i, i < 4 → ∀ j, j < 13 → RT (t + i) j = ((rt_isB.getD i []).getD j none).map (fun z => t + z) := by decide +kernel
theorem fx_isBlt {t : Nat} (h : isB t = true) : t < 396 := by
  simp only [isB, Bool.or_eq_true, Bool.and_eq_true, decide_eq_true_eq, beq_iff_eq] at h; omega
theorem fx_isBK {t : Nat} (h : isB t = true) (i : Nat) (hi : i < 4) : KD (t + i) = kd_isB.getD i (0, 0) := fx_isBK0 t (fx_isBlt h) h i hi
theorem fx_isBR {t : Nat} (h : isB t = true) (i j : Nat) (hi : i < 4) (hj : j < 13) : RT (t + i) j = ((rt_isB.getD i []).getD j none).map (fun z => t + z) := fx_isBR0 t (fx_isBlt h) h i hi j hj
def kd_isT : List (Nat × Nat) := [(19, 9), (1, 400), (1, 12), (1, 144), (6, 8), (12, 13), (1, 400), (1, 400), (1, 400), (1, 400), (1, 400), (1, 400), (1, 400), (1, 900), (1, 900), (1, 900), (15, 10), (1, 100), (1, 100), (1, 100), (1, 100), (1, 100), (1, 100), (1, 100), (1, 100), (10, 12), (1, 3), (1, 12), (1, 12), (10, 12), (1, 3), (1, 12), (1, 12), (10, 12), (1, 3), (1, 12), (1, 12), (10, 12), (1, 3), (1, 12), (1, 12), (10, 12), (1, 3), (1, 12), (1, 12), (10, 12), (1, 3), (1, 12), (1, 12), (10, 12), (1, 3), (1, 12), (1, 12), (10, 12), (1, 3), (1, 12), (1, 12)]
def rt_isT : List (List (Option Nat)) := [[none, none, none, some 1, some 2, some 3, some 4, some 5, some 16], [], [], [], [some 25, some 29, some 33, some 37, some 41, some 45, some 49, some 53], [none, none, none, some 6, some 7, some 8, some 9, some 10, some 11, some 12, some 13, some 14, some 15], [], [], [], [], [], [], [], [], [], [], [none, none, some 17, some 18, some 19, some 20, some 21, some 22, some 23, some 24], [], [], [], [], [], [], [], [], [none, none, none, none, none, none, none, none, none, some 26, some 27, some 28], [], [], [], [none, none, none, none, none, none, none, none, none, some 30, some 31, some 32], [], [], [], [none, none, none, none, none, none, none, none, none, some 34, some 35, some 36], [], [], [], [none, none, none, none, none, none, none, none, none, some 38, some 39, some 40], [], [], [], [none, none, none, none, none, none, none, none, none, some 42, some 43, some 44], [], [], [], [none, none, none, none, none, none, none, none, none, some 46, some 47, some 48], [], [], [], [none, none, none, none, none, none, none, none, none, some 50, some 51, some 52], [], [], [], [none, none, none, none, none, none, none, none, none, some 54, some 55, some 56], [], [], []]
theorem fx_isTK0 : ∀ t, t < 396 → isT t = true → ∀ i, i < 57 → KD (t + i) = kd_isT.getD i (0, 0) := by decide +kernel
theorem fx_isTR0 : ∀ t, t < 396 → isT t = true → ∀ i, i < 57 → ∀ j, j < 13 → RT (t + i) j = ((rt_isT.getD i []).getD j none).map (fun z => t + z) := by decide +kernel
theorem fx_isTlt {t : Nat} (h : isT t = true) : t < 396 := by
  simp only [isT, Bool.or_eq_true, Bool.and_eq_true, decide_eq_true_eq, beq_iff_eq] at h; omega
theorem fx_isTK {t : Nat} (h : isT t = true) (i : Nat) (hi : i < 57) : KD (t + i) = kd_isT.getD i (0, 0) := fx_isTK0 t (fx_isTlt h) h i hi
theorem fx_isTR {t : Nat} (h : isT t = true) (i j : Nat) (hi : i < 57) (hj : j < 13) : RT (t + i) j = ((rt_isT.getD i []).getD j none).map (fun z => t + z) := fx_isTR0 t (fx_isTlt h) h i hi j hj
theorem KD_lo {a : Nat} (h : (KD a).1 ≠ 0) : 4 ≤ a := by
  rcases Nat.lt_or_ge a 4 with q | q
  · exact absurd (by simp [KD, q]) h
  · exact q
