theorem inb_in {i : Int32} {n : Nat} (h : inb i n = true) : vp_in i n := by
  unfold inb at h
  rw [Bool.and_eq_true, decide_eq_true_eq, decide_eq_true_eq] at h
  intro q
  rcases q with q | q
  · exact absurd h.1 (Int32.not_le.mpr q)
  · exact absurd h.2 (Nat.not_lt.mpr q)
def RX0 : String := "TranscriptCutter$Edit"
def TX0 : u_T := fun k => match k with
  | 0 => ("TranscriptCutter$Edit", "kept", "[Z", true)
  | 1 => ("TranscriptCutter$Edit", "shotCount", "I", false)
  | 2 => ("TranscriptCutter$Edit", "order", "[I", true)
  | 3 => ("TranscriptCutter$Edit", "head", "[I", true)
  | _ => ("TranscriptCutter$Edit", "tail", "[I", true)
def tyX0 : Nat → FieldType := fun k => match k with
  | 0 => .array .boolean
  | 1 => .int
  | 2 => .array .int
  | 3 => .array .int
  | _ => .array .int
theorem nmX0 : ∀ a, a < 5 → ∀ b, b < 5 → a ≠ b → (TX0 a).2.1 ≠ (TX0 b).2.1 := by decide +kernel
theorem tyX0_ok : ∀ k, k < 5 → parseFieldDescriptor (TX0 k).2.2.1 = some (tyX0 k) := by decide +kernel
set_option maxRecDepth 20000 in
theorem wsX0_in : ∀ w ∈ u_ws RX0 TX0 5, w ∈ TW := fun w hw => by
  have h : u_ws RX0 TX0 5 = [206, 208, 210, 212, 214].filterMap (fun i => lw_tbl[i]?) := by decide +kernel
  have hg : (u_ws RX0 TX0 5).all goodWord = true := by decide +kernel
  have g := List.all_eq_true.mp hg w hw
  rw [h] at hw
  obtain ⟨i, -, hi⟩ := List.mem_filterMap.mp hw
  exact TW_of i hi g
def RX1 : String := "TranscriptCutter$Film"
def TX1 : u_T := fun k => match k with
  | 0 => ("TranscriptCutter$Film", "recording", "LTranscriptCutter$Recording;", false)
  | 1 => ("TranscriptCutter$Film", "edit", "LTranscriptCutter$Edit;", true)
  | 2 => ("TranscriptCutter$Film", "frames", "I", false)
  | 3 => ("TranscriptCutter$Film", "shotFirst", "[I", true)
  | 4 => ("TranscriptCutter$Film", "shotBehind", "[I", true)
  | 5 => ("TranscriptCutter$Film", "shotStart", "[I", true)
  | 6 => ("TranscriptCutter$Film", "shotPlace", "[I", true)
  | 7 => ("TranscriptCutter$Film", "blockShot", "[I", true)
  | 8 => ("TranscriptCutter$Film", "places", "I", false)
  | 9 => ("TranscriptCutter$Film", "transcript", "[I", true)
  | 10 => ("TranscriptCutter$Film", "wordPlace", "[I", true)
  | 11 => ("TranscriptCutter$Film", "clipCount", "I", false)
  | 12 => ("TranscriptCutter$Film", "clipShot", "[I", true)
  | 13 => ("TranscriptCutter$Film", "silentFrames", "I", false)
  | 14 => ("TranscriptCutter$Film", "longestSilent", "I", false)
  | _ => ("TranscriptCutter$Film", "scratch", "[I", true)
def tyX1 : Nat → FieldType := fun k => match k with
  | 0 => .object "TranscriptCutter$Recording"
  | 1 => .object "TranscriptCutter$Edit"
  | 2 => .int
  | 3 => .array .int
  | 4 => .array .int
  | 5 => .array .int
  | 6 => .array .int
  | 7 => .array .int
  | 8 => .int
  | 9 => .array .int
  | 10 => .array .int
  | 11 => .int
  | 12 => .array .int
  | 13 => .int
  | 14 => .int
  | _ => .array .int
theorem nmX1 : ∀ a, a < 16 → ∀ b, b < 16 → a ≠ b → (TX1 a).2.1 ≠ (TX1 b).2.1 := by decide +kernel
theorem tyX1_ok : ∀ k, k < 16 → parseFieldDescriptor (TX1 k).2.2.1 = some (tyX1 k) := by decide +kernel
set_option maxRecDepth 20000 in
theorem wsX1_in : ∀ w ∈ u_ws RX1 TX1 16, w ∈ TW := fun w hw => by
  have h : u_ws RX1 TX1 16 = [243, 245, 247, 249, 251, 253, 255, 257, 259, 261, 263, 265, 267, 269, 271, 273].filterMap (fun i => lw_tbl[i]?) := by decide +kernel
  have hg : (u_ws RX1 TX1 16).all goodWord = true := by decide +kernel
  have g := List.all_eq_true.mp hg w hw
  rw [h] at hw
  obtain ⟨i, -, hi⟩ := List.mem_filterMap.mp hw
  exact TW_of i hi g
def RX2 : String := "TranscriptCutter$FormattedText"
def TX2 : u_T := fun k => match k with
  | 0 => ("TranscriptCutter$FormattedText", "bytes", "[B", true)
  | _ => ("TranscriptCutter$FormattedText", "length", "I", false)
def tyX2 : Nat → FieldType := fun k => match k with
  | 0 => .array .byte
  | _ => .int
theorem nmX2 : ∀ a, a < 2 → ∀ b, b < 2 → a ≠ b → (TX2 a).2.1 ≠ (TX2 b).2.1 := by decide +kernel
theorem tyX2_ok : ∀ k, k < 2 → parseFieldDescriptor (TX2 k).2.2.1 = some (tyX2 k) := by decide +kernel
set_option maxRecDepth 20000 in
theorem wsX2_in : ∀ w ∈ u_ws RX2 TX2 2, w ∈ TW := fun w hw => by
  have h : u_ws RX2 TX2 2 = [355, 357].filterMap (fun i => lw_tbl[i]?) := by decide +kernel
  have hg : (u_ws RX2 TX2 2).all goodWord = true := by decide +kernel
  have g := List.all_eq_true.mp hg w hw
  rw [h] at hw
  obtain ⟨i, -, hi⟩ := List.mem_filterMap.mp hw
  exact TW_of i hi g
def RX3 : String := "TranscriptCutter$History"
def TX3 : u_T := fun k => match k with
  | 0 => ("TranscriptCutter$History", "before", "[LTranscriptCutter$Edit;", true)
  | 1 => ("TranscriptCutter$History", "next", "I", false)
  | _ => ("TranscriptCutter$History", "depth", "I", false)
def tyX3 : Nat → FieldType := fun k => match k with
  | 0 => .array (.object "TranscriptCutter$Edit")
  | 1 => .int
  | _ => .int
theorem nmX3 : ∀ a, a < 3 → ∀ b, b < 3 → a ≠ b → (TX3 a).2.1 ≠ (TX3 b).2.1 := by decide +kernel
theorem tyX3_ok : ∀ k, k < 3 → parseFieldDescriptor (TX3 k).2.2.1 = some (tyX3 k) := by decide +kernel
set_option maxRecDepth 20000 in
theorem wsX3_in : ∀ w ∈ u_ws RX3 TX3 3, w ∈ TW := fun w hw => by
  have h : u_ws RX3 TX3 3 = [289, 291, 293].filterMap (fun i => lw_tbl[i]?) := by decide +kernel
  have hg : (u_ws RX3 TX3 3).all goodWord = true := by decide +kernel
  have g := List.all_eq_true.mp hg w hw
  rw [h] at hw
  obtain ⟨i, -, hi⟩ := List.mem_filterMap.mp hw
  exact TW_of i hi g
def RX4 : String := "TranscriptCutter$Recording"
def TX4 : u_T := fun k => match k with
  | 0 => ("TranscriptCutter$Recording", "length", "I", false)
  | 1 => ("TranscriptCutter$Recording", "handle", "I", false)
  | 2 => ("TranscriptCutter$Recording", "speakerCount", "I", false)
  | 3 => ("TranscriptCutter$Recording", "speakerName", "[I", true)
  | 4 => ("TranscriptCutter$Recording", "wordCount", "I", false)
  | 5 => ("TranscriptCutter$Recording", "wordText", "[I", true)
  | 6 => ("TranscriptCutter$Recording", "wordSpeaker", "[I", true)
  | 7 => ("TranscriptCutter$Recording", "wordStart", "[I", true)
  | 8 => ("TranscriptCutter$Recording", "wordEnd", "[I", true)
  | 9 => ("TranscriptCutter$Recording", "wordBlock", "[I", true)
  | 10 => ("TranscriptCutter$Recording", "breathCount", "I", false)
  | 11 => ("TranscriptCutter$Recording", "breathStart", "[I", true)
  | 12 => ("TranscriptCutter$Recording", "breathEnd", "[I", true)
  | 13 => ("TranscriptCutter$Recording", "blockCount", "I", false)
  | 14 => ("TranscriptCutter$Recording", "blockWord", "[I", true)
  | 15 => ("TranscriptCutter$Recording", "blockStart", "[I", true)
  | 16 => ("TranscriptCutter$Recording", "blockEnd", "[I", true)
  | 17 => ("TranscriptCutter$Recording", "blockCut", "[I", true)
  | _ => ("TranscriptCutter$Recording", "blockSnapped", "[Z", true)
def tyX4 : Nat → FieldType := fun k => match k with
  | 0 => .int
  | 1 => .int
  | 2 => .int
  | 3 => .array .int
  | 4 => .int
  | 5 => .array .int
  | 6 => .array .int
  | 7 => .array .int
  | 8 => .array .int
  | 9 => .array .int
  | 10 => .int
  | 11 => .array .int
  | 12 => .array .int
  | 13 => .int
  | 14 => .array .int
  | 15 => .array .int
  | 16 => .array .int
  | 17 => .array .int
  | _ => .array .boolean
theorem nmX4 : ∀ a, a < 19 → ∀ b, b < 19 → a ≠ b → (TX4 a).2.1 ≠ (TX4 b).2.1 := by decide +kernel
theorem tyX4_ok : ∀ k, k < 19 → parseFieldDescriptor (TX4 k).2.2.1 = some (tyX4 k) := by decide +kernel
set_option maxRecDepth 20000 in
theorem wsX4_in : ∀ w ∈ u_ws RX4 TX4 19, w ∈ TW := fun w hw => by
  have h : u_ws RX4 TX4 19 = [145, 147, 149, 151, 153, 155, 157, 159, 161, 163, 165, 167, 169, 171, 173, 175, 177, 179, 181].filterMap (fun i => lw_tbl[i]?) := by decide +kernel
  have hg : (u_ws RX4 TX4 19).all goodWord = true := by decide +kernel
  have g := List.all_eq_true.mp hg w hw
  rw [h] at hw
  obtain ⟨i, -, hi⟩ := List.mem_filterMap.mp hw
  exact TW_of i hi g
def RX5 : String := "TranscriptCutter$Runner"
def TX5 : u_T := fun k => match k with
  | 0 => ("TranscriptCutter$Runner", "script", "LTranscriptCutter$Script;", false)
  | 1 => ("TranscriptCutter$Runner", "begun", "I", false)
  | 2 => ("TranscriptCutter$Runner", "failures", "I", false)
  | _ => ("TranscriptCutter$Runner", "stopped", "Z", false)
def tyX5 : Nat → FieldType := fun k => match k with
  | 0 => .object "TranscriptCutter$Script"
  | 1 => .int
  | 2 => .int
  | _ => .boolean
theorem nmX5 : ∀ a, a < 4 → ∀ b, b < 4 → a ≠ b → (TX5 a).2.1 ≠ (TX5 b).2.1 := by decide +kernel
theorem tyX5_ok : ∀ k, k < 4 → parseFieldDescriptor (TX5 k).2.2.1 = some (tyX5 k) := by decide +kernel
set_option maxRecDepth 20000 in
theorem wsX5_in : ∀ w ∈ u_ws RX5 TX5 4, w ∈ TW := fun w hw => by
  have h : u_ws RX5 TX5 4 = [339, 341, 343, 345].filterMap (fun i => lw_tbl[i]?) := by decide +kernel
  have hg : (u_ws RX5 TX5 4).all goodWord = true := by decide +kernel
  have g := List.all_eq_true.mp hg w hw
  rw [h] at hw
  obtain ⟨i, -, hi⟩ := List.mem_filterMap.mp hw
  exact TW_of i hi g
def RX6 : String := "TranscriptCutter$Script"
def TX6 : u_T := fun k => match k with
  | 0 => ("TranscriptCutter$Script", "size", "I", false)
  | 1 => ("TranscriptCutter$Script", "kind", "[I", true)
  | 2 => ("TranscriptCutter$Script", "times", "[I", true)
  | 3 => ("TranscriptCutter$Script", "elseStart", "[I", true)
  | 4 => ("TranscriptCutter$Script", "next", "[I", true)
  | 5 => ("TranscriptCutter$Script", "phraseSize", "[I", true)
  | _ => ("TranscriptCutter$Script", "names", "[I", true)
def tyX6 : Nat → FieldType := fun k => match k with
  | 0 => .int
  | 1 => .array .int
  | 2 => .array .int
  | 3 => .array .int
  | 4 => .array .int
  | 5 => .array .int
  | _ => .array .int
theorem nmX6 : ∀ a, a < 7 → ∀ b, b < 7 → a ≠ b → (TX6 a).2.1 ≠ (TX6 b).2.1 := by decide +kernel
theorem tyX6_ok : ∀ k, k < 7 → parseFieldDescriptor (TX6 k).2.2.1 = some (tyX6 k) := by decide +kernel
set_option maxRecDepth 20000 in
theorem wsX6_in : ∀ w ∈ u_ws RX6 TX6 7, w ∈ TW := fun w hw => by
  have h : u_ws RX6 TX6 7 = [322, 324, 326, 328, 330, 332, 334].filterMap (fun i => lw_tbl[i]?) := by decide +kernel
  have hg : (u_ws RX6 TX6 7).all goodWord = true := by decide +kernel
  have g := List.all_eq_true.mp hg w hw
  rw [h] at hw
  obtain ⟨i, -, hi⟩ := List.mem_filterMap.mp hw
  exact TW_of i hi g
def RX9 : String := "TranscriptCutter$Tokens"
def TX9 : u_T := fun k => match k with
  | 0 => ("TranscriptCutter$Tokens", "bytes", "[B", true)
  | 1 => ("TranscriptCutter$Tokens", "length", "I", false)
  | 2 => ("TranscriptCutter$Tokens", "wrongOffset", "I", false)
  | 3 => ("TranscriptCutter$Tokens", "wrongKind", "I", false)
  | 4 => ("TranscriptCutter$Tokens", "tokenKind", "I", false)
  | 5 => ("TranscriptCutter$Tokens", "tokenStart", "I", false)
  | _ => ("TranscriptCutter$Tokens", "tokenSize", "I", false)
def tyX9 : Nat → FieldType := fun k => match k with
  | 0 => .array .byte
  | 1 => .int
  | 2 => .int
  | 3 => .int
  | 4 => .int
  | 5 => .int
  | _ => .int
theorem nmX9 : ∀ a, a < 7 → ∀ b, b < 7 → a ≠ b → (TX9 a).2.1 ≠ (TX9 b).2.1 := by decide +kernel
theorem tyX9_ok : ∀ k, k < 7 → parseFieldDescriptor (TX9 k).2.2.1 = some (tyX9 k) := by decide +kernel
set_option maxRecDepth 20000 in
theorem wsX9_in : ∀ w ∈ u_ws RX9 TX9 7, w ∈ TW := fun w hw => by
  have h : u_ws RX9 TX9 7 = [69, 71, 73, 75, 77, 79, 81].filterMap (fun i => lw_tbl[i]?) := by decide +kernel
  have hg : (u_ws RX9 TX9 7).all goodWord = true := by decide +kernel
  have g := List.all_eq_true.mp hg w hw
  rw [h] at hw
  obtain ⟨i, -, hi⟩ := List.mem_filterMap.mp hw
  exact TW_of i hi g
def RX10 : String := "TranscriptCutter"
def TX10 : u_T := fun k => match k with
  | 0 => ("TranscriptCutter", "tokens", "LTranscriptCutter$Tokens;", true)
  | 1 => ("TranscriptCutter", "film", "LTranscriptCutter$Film;", true)
  | 2 => ("TranscriptCutter", "history", "LTranscriptCutter$History;", true)
  | 3 => ("TranscriptCutter", "runner", "LTranscriptCutter$Runner;", true)
  | 4 => ("TranscriptCutter", "formatted", "LTranscriptCutter$FormattedText;", true)
  | 5 => ("TranscriptCutter", "draftRecording", "LTranscriptCutter$Recording;", false)
  | _ => ("TranscriptCutter", "draftScript", "LTranscriptCutter$Script;", false)
def tyX10 : Nat → FieldType := fun k => match k with
  | 0 => .object "TranscriptCutter$Tokens"
  | 1 => .object "TranscriptCutter$Film"
  | 2 => .object "TranscriptCutter$History"
  | 3 => .object "TranscriptCutter$Runner"
  | 4 => .object "TranscriptCutter$FormattedText"
  | 5 => .object "TranscriptCutter$Recording"
  | _ => .object "TranscriptCutter$Script"
theorem nmX10 : ∀ a, a < 7 → ∀ b, b < 7 → a ≠ b → (TX10 a).2.1 ≠ (TX10 b).2.1 := by decide +kernel
theorem tyX10_ok : ∀ k, k < 7 → parseFieldDescriptor (TX10 k).2.2.1 = some (tyX10 k) := by decide +kernel
set_option maxRecDepth 20000 in
theorem wsX10_in : ∀ w ∈ u_ws RX10 TX10 7, w ∈ TW := fun w hw => by
  have h : u_ws RX10 TX10 7 = [371, 373, 375, 377, 379, 381, 383].filterMap (fun i => lw_tbl[i]?) := by decide +kernel
  have hg : (u_ws RX10 TX10 7).all goodWord = true := by decide +kernel
  have g := List.all_eq_true.mp hg w hw
  rw [h] at hw
  obtain ⟨i, -, hi⟩ := List.mem_filterMap.mp hw
  exact TW_of i hi g
def RX11 : String := "TranscriptCutterLaw$Drawn"
def TX11 : u_T := fun k => match k with
  | 0 => ("TranscriptCutterLaw$Drawn", "length", "I", true)
  | 1 => ("TranscriptCutterLaw$Drawn", "handle", "I", true)
  | 2 => ("TranscriptCutterLaw$Drawn", "speakers", "I", true)
  | 3 => ("TranscriptCutterLaw$Drawn", "word", "[[I", true)
  | 4 => ("TranscriptCutterLaw$Drawn", "breath", "[[I", true)
  | 5 => ("TranscriptCutterLaw$Drawn", "words", "I", false)
  | 6 => ("TranscriptCutterLaw$Drawn", "breaths", "I", false)
  | 7 => ("TranscriptCutterLaw$Drawn", "blocks", "I", false)
  | 8 => ("TranscriptCutterLaw$Drawn", "first", "[I", true)
  | 9 => ("TranscriptCutterLaw$Drawn", "begin", "[I", true)
  | 10 => ("TranscriptCutterLaw$Drawn", "end", "[I", true)
  | 11 => ("TranscriptCutterLaw$Drawn", "cut", "[I", true)
  | 12 => ("TranscriptCutterLaw$Drawn", "head", "[I", true)
  | 13 => ("TranscriptCutterLaw$Drawn", "tail", "[I", true)
  | 14 => ("TranscriptCutterLaw$Drawn", "isOut", "[Z", true)
  | 15 => ("TranscriptCutterLaw$Drawn", "film", "[I", false)
  | _ => ("TranscriptCutterLaw$Drawn", "text", "Ljava/lang/String;", false)
def tyX11 : Nat → FieldType := fun k => match k with
  | 0 => .int
  | 1 => .int
  | 2 => .int
  | 3 => .array (.array .int)
  | 4 => .array (.array .int)
  | 5 => .int
  | 6 => .int
  | 7 => .int
  | 8 => .array .int
  | 9 => .array .int
  | 10 => .array .int
  | 11 => .array .int
  | 12 => .array .int
  | 13 => .array .int
  | 14 => .array .boolean
  | 15 => .array .int
  | _ => .object "java/lang/String"
theorem nmX11 : ∀ a, a < 17 → ∀ b, b < 17 → a ≠ b → (TX11 a).2.1 ≠ (TX11 b).2.1 := by decide +kernel
theorem tyX11_ok : ∀ k, k < 17 → parseFieldDescriptor (TX11 k).2.2.1 = some (tyX11 k) := by decide +kernel
set_option maxRecDepth 20000 in
theorem wsX11_in : ∀ w ∈ u_ws RX11 TX11 17, w ∈ TW := fun w hw => by
  have h : u_ws RX11 TX11 17 = [785, 787, 789, 791, 793, 795, 797, 799, 801, 803, 805, 807, 809, 811, 813, 815, 817].filterMap (fun i => lw_tbl[i]?) := by decide +kernel
  have hg : (u_ws RX11 TX11 17).all goodWord = true := by decide +kernel
  have g := List.all_eq_true.mp hg w hw
  rw [h] at hw
  obtain ⟨i, -, hi⟩ := List.mem_filterMap.mp hw
  exact TW_of i hi g
def RX12 : String := "TranscriptCutterLaw$Draws"
def TX12 : u_T := fun k => match k with
  | _ => ("TranscriptCutterLaw$Draws", "seed", "I", false)
def tyX12 : Nat → FieldType := fun k => match k with
  | _ => .int
theorem nmX12 : ∀ a, a < 1 → ∀ b, b < 1 → a ≠ b → (TX12 a).2.1 ≠ (TX12 b).2.1 := by decide +kernel
theorem tyX12_ok : ∀ k, k < 1 → parseFieldDescriptor (TX12 k).2.2.1 = some (tyX12 k) := by decide +kernel
set_option maxRecDepth 20000 in
theorem wsX12_in : ∀ w ∈ u_ws RX12 TX12 1, w ∈ TW := fun w hw => by
  have h : u_ws RX12 TX12 1 = [827].filterMap (fun i => lw_tbl[i]?) := by decide +kernel
  have hg : (u_ws RX12 TX12 1).all goodWord = true := by decide +kernel
  have g := List.all_eq_true.mp hg w hw
  rw [h] at hw
  obtain ⟨i, -, hi⟩ := List.mem_filterMap.mp hw
  exact TW_of i hi g
def RJ4 : String := "java/lang/StringBuilder"
def TJ4 : u_T := fun k => match k with
  | 0 => ("java/lang/AbstractStringBuilder", "value", "[B", false)
  | 1 => ("java/lang/AbstractStringBuilder", "coder", "B", false)
  | 2 => ("java/lang/AbstractStringBuilder", "maybeLatin1", "Z", false)
  | _ => ("java/lang/AbstractStringBuilder", "count", "I", false)
def tyJ4 : Nat → FieldType := fun k => match k with
  | 0 => .array .byte
  | 1 => .byte
  | 2 => .boolean
  | _ => .int
theorem nmJ4 : ∀ a, a < 4 → ∀ b, b < 4 → a ≠ b → (TJ4 a).2.1 ≠ (TJ4 b).2.1 := by decide +kernel
theorem tyJ4_ok : ∀ k, k < 4 → parseFieldDescriptor (TJ4 k).2.2.1 = some (tyJ4 k) := by decide +kernel
set_option maxRecDepth 20000 in
theorem wsJ4_in : ∀ w ∈ u_ws RJ4 TJ4 4, w ∈ TW := fun w hw => by
  have h : u_ws RJ4 TJ4 4 = [426, 428, 430, 432].filterMap (fun i => lw_tbl[i]?) := by decide +kernel
  have hg : (u_ws RJ4 TJ4 4).all goodWord = true := by decide +kernel
  have g := List.all_eq_true.mp hg w hw
  rw [h] at hw
  obtain ⟨i, -, hi⟩ := List.mem_filterMap.mp hw
  exact TW_of i hi g
def RJ0 : String := "java/lang/String"
def TJ0 : u_T := fun k => match k with
  | 0 => ("java/lang/String", "value", "[B", true)
  | 1 => ("java/lang/String", "coder", "B", true)
  | 2 => ("java/lang/String", "hash", "I", false)
  | _ => ("java/lang/String", "hashIsZero", "Z", false)
def tyJ0 : Nat → FieldType := fun k => match k with
  | 0 => .array .byte
  | 1 => .byte
  | 2 => .int
  | _ => .boolean
theorem nmJ0 : ∀ a, a < 4 → ∀ b, b < 4 → a ≠ b → (TJ0 a).2.1 ≠ (TJ0 b).2.1 := by decide +kernel
theorem tyJ0_ok : ∀ k, k < 4 → parseFieldDescriptor (TJ0 k).2.2.1 = some (tyJ0 k) := by decide +kernel
set_option maxRecDepth 20000 in
theorem wsJ0_in : ∀ w ∈ u_ws RJ0 TJ0 4, w ∈ TW := fun w hw => by
  have h : u_ws RJ0 TJ0 4 = [726, 728, 730, 732].filterMap (fun i => lw_tbl[i]?) := by decide +kernel
  have hg : (u_ws RJ0 TJ0 4).all goodWord = true := by decide +kernel
  have g := List.all_eq_true.mp hg w hw
  rw [h] at hw
  obtain ⟨i, -, hi⟩ := List.mem_filterMap.mp hw
  exact TW_of i hi g
def RX7 : String := "TranscriptCutter$ScriptGrammar"
def RX8 : String := "TranscriptCutter$TextGrammar"
def RJ1 : String := "java/lang/StringLatin1"
def RJ3 : String := "jdk/internal/util/Preconditions"
def RJ5 : String := "java/lang/AbstractStringBuilder"
def RJ6 : String := "java/lang/Integer"
def RJ7 : String := "java/util/Arrays"
def RJ8 : String := "jdk/internal/util/ArraysSupport"
def RL : String := "TranscriptCutterLaw"
abbrev vwCl : List vw_C := [(RX0, TX0, 5), (RX1, TX1, 16), (RX2, TX2, 2), (RX3, TX3, 3), (RX4, TX4, 19), (RX5, TX5, 4), (RX6, TX6, 7), (RX9, TX9, 7), (RX10, TX10, 7), (RX11, TX11, 17), (RX12, TX12, 1), (RJ4, TJ4, 4), (RJ0, TJ0, 4)]
def okL : List Nat := [2, 3, 4, 5, 6, 7, 17, 18, 19, 20, 21, 22, 23, 24, 25, 26, 27, 8, 9, 10, 11, 12, 13, 14, 15, 16]
def txP : List (List Int32) := [[], [115, 112, 101, 97, 107, 101, 114, 32, 115], [59], [32, 62, 32], [119, 111, 114, 100, 32, 115], [32, 116], [32], [98, 114, 101, 97, 116, 104, 32], [108, 101, 110, 103, 116, 104, 32], [59, 104, 97, 110, 100, 108, 101, 32]]
def okS (i : Nat) : Bool := okL.contains i
/-- addresses of the objects; the tables' numbers; classes of arrays; where the new cells begin; addresses of the texts -/
abbrev ZT : Type := (Nat → Nat) × va_G × (Nat → ClassId) × Nat × (Nat → Nat)
def FR (Z : ZT) : Nat → Prop := fun q => Z.2.2.2.1 ≤ q
def tyZ (Z : ZT) : List (ClassId × FieldType) := [(Z.2.2.1 0, .byte), (Z.2.2.1 1, .int), (Z.2.2.1 2, .boolean), (Z.2.2.1 3, .object RX0), (Z.2.2.1 4, .array .int)]
def celK (Z : ZT) (r : Nat → Int32) (k kd : Nat) : va_E := match kd with
  | 0 => .inr (0, [.ref (Z.1 (k + 1)), .int (r 1), .ref (Z.1 (k + 2)), .ref (Z.1 (k + 3)), .ref (Z.1 (k + 4))])
  | 1 => .inr (1, [.ref (Z.1 (ix (r 0))), .ref (Z.1 18), .int (r 2), .ref (Z.1 4), .ref (Z.1 5), .ref (Z.1 6), .ref (Z.1 7), .ref (Z.1 8), .int (r 8), .ref (Z.1 9), .ref (Z.1 10), .int (r 11), .ref (Z.1 11), .int (r 13), .int (r 14), .ref (Z.1 12)])
  | 2 => .inr (2, [.ref (Z.1 17), .int (r 1)])
  | 3 => .inr (3, [.ref (Z.1 14), .int (r 1), .int (r 2)])
  | 4 => .inr (4, [.int (r 0), .int (r 1), .int (r 2), .ref (Z.1 (k + 1)), .int (r 4), .ref (Z.1 (k + 2)), .ref (Z.1 (k + 3)), .ref (Z.1 (k + 4)), .ref (Z.1 (k + 5)), .ref (Z.1 (k + 6)), .int (r 10), .ref (Z.1 (k + 7)), .ref (Z.1 (k + 8)), .int (r 13), .ref (Z.1 (k + 9)), .ref (Z.1 (k + 10)), .ref (Z.1 (k + 11)), .ref (Z.1 (k + 12)), .ref (Z.1 (k + 13))])
  | 5 => .inr (5, [.ref (Z.1 (ix (r 0))), .int (r 1), .int (r 2), .int (r 3)])
  | 6 => .inr (6, [.int (r 0), .ref (Z.1 (k + 1)), .ref (Z.1 (k + 2)), .ref (Z.1 (k + 3)), .ref (Z.1 (k + 4)), .ref (Z.1 (k + 5)), .ref (Z.1 (k + 6))])
  | 7 => .inr (7, [.ref (Z.1 2), .int (r 1), .int (r 2), .int (r 3), .int (r 4), .int (r 5), .int (r 6)])
  | 8 => .inr (8, [.ref (Z.1 1), .ref (Z.1 3), .ref (Z.1 13), .ref (Z.1 15), .ref (Z.1 16), .ref (Z.1 (ix (r 5))), .ref (Z.1 (ix (r 6)))])
  | 10 => .inl (Z.2.2.1 0, len k, .inl r)
  | 11 => .inl (Z.2.2.1 1, len k, .inl r)
  | 12 => .inl (Z.2.2.1 2, len k, .inl r)
  | _ => .inl (Z.2.2.1 3, 12, .inr (.inr (.inr (.inr (fun j => some (Z.1 (23 + 5 * j)))))))
def cel (Z : ZT) (r : Nat → Int32) (k : Nat) : va_E := celK Z r k (knd k)
theorem cel_k {Z : ZT} {r : Nat → Int32} {k c : Nat} (h : knd k = c) : cel Z r k = celK Z r k c := congrArg (celK Z r k) h
def wl (Z : ZT) (h : Hp) (g : va_W) : va_W := (List.range 125).map (fun k => (Z.1 k, cel Z (h k) k)) ++ g
theorem wl_len {Z : ZT} {h : Hp} {g : va_W} : (wl Z h g).length = 125 + g.length := by unfold wl; rw [List.length_append, List.length_map, List.length_range]
theorem wl_at {Z : ZT} {h : Hp} {g : va_W} {k : Nat} (hk : k < 125) : (wl Z h g)[k]? = some (Z.1 k, cel Z (h k) k) := by
  unfold wl
  rw [List.getElem?_append_left (by rw [List.length_map, List.length_range]; exact hk), List.getElem?_map, List.getElem?_range hk]
  rfl
theorem wl_gt {Z : ZT} {h : Hp} {g : va_W} {k : Nat} (hk : ¬ k < 125) : (wl Z h g)[k]? = g[k - 125]? := by
  unfold wl
  rw [List.getElem?_append_right (by rw [List.length_map, List.length_range]; omega), List.length_map, List.length_range]
theorem wl_set {Z : ZT} {h h' : Hp} {g : va_W} {k : Nat} (hk : k < 125) {e : va_E} (he : cel Z (h' k) k = e) (ho : ∀ j, j ≠ k → h' j = h j) : (wl Z h g).set k (Z.1 k, e) = wl Z h' g := by
  apply List.ext_getElem?
  intro i
  by_cases hi : i < 125
  · by_cases hik : i = k
    · subst hik
      rw [List.getElem?_set_self (by rw [wl_len]; omega), wl_at hi, he]
    · rw [List.getElem?_set_ne (Ne.symm hik), wl_at hi, wl_at hi, ho i hik]
  · rw [List.getElem?_set_ne (by omega), wl_gt hi, wl_gt hi]
theorem mx_upl {h : Hp} {k : Nat} {a : Nat} {v : Int32} : ∀ j, j ≠ k → (up h k a v) j = h j := fun j hj => up_ne _ _ hj
theorem kl_C : ∀ k, k < 146 → knd k ≤ 8 → k < 125 := by decide +kernel
theorem k_lt {k c : Nat} (h : knd k = c) (hc : c ≤ 8) : k < 125 := by
  apply Classical.byContradiction
  intro q
  by_cases z : k < 146
  · exact q (kl_C k z (by omega))
  have h1 : knd k = 99 := by
    unfold knd
    rw [List.getD_eq_getElem?_getD, List.getElem?_eq_none (by show 146 ≤ k; omega)]
    rfl
  omega
def arC (k kd n : Nat) : Bool := (knd k == kd) && (len k == n) && decide (k < 125)
theorem arC_k {k kd n : Nat} (h : arC k kd n = true) : knd k = kd ∧ len k = n ∧ k < 125 := by
  unfold arC at h
  rw [Bool.and_eq_true, Bool.and_eq_true, beq_iff_eq, beq_iff_eq, decide_eq_true_eq] at h
  exact ⟨h.1.1, h.1.2, h.2⟩

theorem wk0 {Z : ZT} {h : Hp} {g : va_W} {k : Nat} (hk : knd k = 0) : (wl Z h g)[k]? = some (Z.1 k, .inr (0, [.ref (Z.1 (k + 1)), .int (h k 1), .ref (Z.1 (k + 2)), .ref (Z.1 (k + 3)), .ref (Z.1 (k + 4))])) := by
  have h1 := k_lt hk (by decide)
  rw [wl_at h1, cel_k hk]
  rfl
theorem wk1 {Z : ZT} {h : Hp} {g : va_W} {k : Nat} (hk : knd k = 1) : (wl Z h g)[k]? = some (Z.1 k, .inr (1, [.ref (Z.1 (ix (h k 0))), .ref (Z.1 18), .int (h k 2), .ref (Z.1 4), .ref (Z.1 5), .ref (Z.1 6), .ref (Z.1 7), .ref (Z.1 8), .int (h k 8), .ref (Z.1 9), .ref (Z.1 10), .int (h k 11), .ref (Z.1 11), .int (h k 13), .int (h k 14), .ref (Z.1 12)])) := by
  have h1 := k_lt hk (by decide)
  rw [wl_at h1, cel_k hk]
  rfl
theorem wk2 {Z : ZT} {h : Hp} {g : va_W} {k : Nat} (hk : knd k = 2) : (wl Z h g)[k]? = some (Z.1 k, .inr (2, [.ref (Z.1 17), .int (h k 1)])) := by
  have h1 := k_lt hk (by decide)
  rw [wl_at h1, cel_k hk]
  rfl
theorem wk3 {Z : ZT} {h : Hp} {g : va_W} {k : Nat} (hk : knd k = 3) : (wl Z h g)[k]? = some (Z.1 k, .inr (3, [.ref (Z.1 14), .int (h k 1), .int (h k 2)])) := by
  have h1 := k_lt hk (by decide)
  rw [wl_at h1, cel_k hk]
  rfl
theorem wk4 {Z : ZT} {h : Hp} {g : va_W} {k : Nat} (hk : knd k = 4) : (wl Z h g)[k]? = some (Z.1 k, .inr (4, [.int (h k 0), .int (h k 1), .int (h k 2), .ref (Z.1 (k + 1)), .int (h k 4), .ref (Z.1 (k + 2)), .ref (Z.1 (k + 3)), .ref (Z.1 (k + 4)), .ref (Z.1 (k + 5)), .ref (Z.1 (k + 6)), .int (h k 10), .ref (Z.1 (k + 7)), .ref (Z.1 (k + 8)), .int (h k 13), .ref (Z.1 (k + 9)), .ref (Z.1 (k + 10)), .ref (Z.1 (k + 11)), .ref (Z.1 (k + 12)), .ref (Z.1 (k + 13))])) := by
  have h1 := k_lt hk (by decide)
  rw [wl_at h1, cel_k hk]
  rfl
theorem wk5 {Z : ZT} {h : Hp} {g : va_W} {k : Nat} (hk : knd k = 5) : (wl Z h g)[k]? = some (Z.1 k, .inr (5, [.ref (Z.1 (ix (h k 0))), .int (h k 1), .int (h k 2), .int (h k 3)])) := by
  have h1 := k_lt hk (by decide)
  rw [wl_at h1, cel_k hk]
  rfl
theorem wk6 {Z : ZT} {h : Hp} {g : va_W} {k : Nat} (hk : knd k = 6) : (wl Z h g)[k]? = some (Z.1 k, .inr (6, [.int (h k 0), .ref (Z.1 (k + 1)), .ref (Z.1 (k + 2)), .ref (Z.1 (k + 3)), .ref (Z.1 (k + 4)), .ref (Z.1 (k + 5)), .ref (Z.1 (k + 6))])) := by
  have h1 := k_lt hk (by decide)
  rw [wl_at h1, cel_k hk]
  rfl
theorem wk7 {Z : ZT} {h : Hp} {g : va_W} {k : Nat} (hk : knd k = 7) : (wl Z h g)[k]? = some (Z.1 k, .inr (7, [.ref (Z.1 2), .int (h k 1), .int (h k 2), .int (h k 3), .int (h k 4), .int (h k 5), .int (h k 6)])) := by
  have h1 := k_lt hk (by decide)
  rw [wl_at h1, cel_k hk]
  rfl
theorem wk8 {Z : ZT} {h : Hp} {g : va_W} {k : Nat} (hk : knd k = 8) : (wl Z h g)[k]? = some (Z.1 k, .inr (8, [.ref (Z.1 1), .ref (Z.1 3), .ref (Z.1 13), .ref (Z.1 15), .ref (Z.1 16), .ref (Z.1 (ix (h k 5))), .ref (Z.1 (ix (h k 6)))])) := by
  have h1 := k_lt hk (by decide)
  rw [wl_at h1, cel_k hk]
  rfl
theorem wr10C {Z : ZT} {h : Hp} {g : va_W} {k n : Nat} (hk : arC k 10 n = true) : (wl Z h g)[k]? = some (Z.1 k, .inl (Z.2.2.1 0, n, .inl (h k))) := by
  obtain ⟨h1, h2, h3⟩ := arC_k hk
  rw [wl_at h3, cel_k h1, ← h2]
  rfl
theorem ws10C {Z : ZT} {h : Hp} {g : va_W} {k n j : Nat} {v : Int32} (hk : arC k 10 n = true) : (wl Z h g).set k (Z.1 k, .inl (Z.2.2.1 0, n, .inl (upd (h k) j v))) = wl Z (up h k j v) g := by
  obtain ⟨h1, h2, h3⟩ := arC_k hk
  refine wl_set h3 ?_ mx_upl
  rw [up_eq, cel_k h1, ← h2]
  rfl
theorem wr11C {Z : ZT} {h : Hp} {g : va_W} {k n : Nat} (hk : arC k 11 n = true) : (wl Z h g)[k]? = some (Z.1 k, .inl (Z.2.2.1 1, n, .inl (h k))) := by
  obtain ⟨h1, h2, h3⟩ := arC_k hk
  rw [wl_at h3, cel_k h1, ← h2]
  rfl
theorem ws11C {Z : ZT} {h : Hp} {g : va_W} {k n j : Nat} {v : Int32} (hk : arC k 11 n = true) : (wl Z h g).set k (Z.1 k, .inl (Z.2.2.1 1, n, .inl (upd (h k) j v))) = wl Z (up h k j v) g := by
  obtain ⟨h1, h2, h3⟩ := arC_k hk
  refine wl_set h3 ?_ mx_upl
  rw [up_eq, cel_k h1, ← h2]
  rfl
theorem wr12C {Z : ZT} {h : Hp} {g : va_W} {k n : Nat} (hk : arC k 12 n = true) : (wl Z h g)[k]? = some (Z.1 k, .inl (Z.2.2.1 2, n, .inl (h k))) := by
  obtain ⟨h1, h2, h3⟩ := arC_k hk
  rw [wl_at h3, cel_k h1, ← h2]
  rfl
theorem ws12C {Z : ZT} {h : Hp} {g : va_W} {k n j : Nat} {v : Int32} (hk : arC k 12 n = true) : (wl Z h g).set k (Z.1 k, .inl (Z.2.2.1 2, n, .inl (upd (h k) j v))) = wl Z (up h k j v) g := by
  obtain ⟨h1, h2, h3⟩ := arC_k hk
  refine wl_set h3 ?_ mx_upl
  rw [up_eq, cel_k h1, ← h2]
  rfl
def strs : List (String × Nat × String × Nat) := [("TranscriptCutterLaw$Drawn", 43, "", 100), ("TranscriptCutterLaw$Drawn", 69, "speaker s", 101), ("TranscriptCutterLaw$Drawn", 74, ";", 102), ("java/util/Arrays", 337, " > ", 103), ("TranscriptCutterLaw$Drawn", 90, "word s", 104), ("TranscriptCutterLaw$Drawn", 92, " t", 105), ("TranscriptCutterLaw$Drawn", 98, " ", 106), ("TranscriptCutterLaw$Drawn", 112, "breath ", 107), ("TranscriptCutterLaw$Drawn", 114, "length ", 108), ("TranscriptCutterLaw$Drawn", 116, ";handle ", 109), ("TranscriptCutter$TextGrammar", 43, "length", 2), ("TranscriptCutter$TextGrammar", 52, "speaker", 3), ("TranscriptCutter$TextGrammar", 57, "word", 4), ("TranscriptCutter$TextGrammar", 62, "breath", 5), ("TranscriptCutter$TextGrammar", 67, "handle", 6), ("TranscriptCutter", 74, "the text does not match", 7), ("TranscriptCutter", 354, "no such word", 17), ("TranscriptCutter", 357, "no such block", 18), ("TranscriptCutter", 361, "no such shot", 19), ("TranscriptCutter", 359, "no such speaker", 20), ("TranscriptCutter", 363, "no such places", 21), ("TranscriptCutter", 297, "the word is not kept", 22), ("TranscriptCutter", 300, "the last word is before the first one", 23), ("TranscriptCutter", 305, "the last shot is before the first one", 24), ("TranscriptCutter", 307, "there is no such shot to move behind", 25), ("TranscriptCutter", 309, "the shot to move behind is moved itself", 26), ("TranscriptCutter", 315, "a head or tail is 0 to 999", 27), ("TranscriptCutter$ScriptGrammar", 65, "cut", 8), ("TranscriptCutter$ScriptGrammar", 71, "clean", 9), ("TranscriptCutter$ScriptGrammar", 73, "restore", 10), ("TranscriptCutter$ScriptGrammar", 75, "move", 11), ("TranscriptCutter$ScriptGrammar", 77, "if", 12), ("TranscriptCutter$ScriptGrammar", 79, "repeat", 13), ("TranscriptCutter$ScriptGrammar", 102, "else", 14), ("TranscriptCutter$ScriptGrammar", 84, "behind", 15), ("TranscriptCutter", 97, "the script does not match", 16)]
def casts : List (String × String) := [("[B", "java/lang/Cloneable"), ("java/lang/IllegalArgumentException", "java/lang/IllegalArgumentException"), ("java/lang/IndexOutOfBoundsException", "java/lang/IndexOutOfBoundsException"), ("java/lang/IllegalStateException", "java/lang/IllegalStateException")]
theorem tyX_p {d : String} {t : FieldType} (h : parseFieldDescriptor d = some t) : parseFieldDescriptor d = some t := h
theorem zb_or {v : Int32} (h : zb v = true) : v = 0 ∨ v = 1 := by
  unfold zb at h
  rw [Bool.or_eq_true, decide_eq_true_eq, decide_eq_true_eq] at h
  exact h
theorem zb_n {v : Int32} (h : zb v = true) : narrow .boolean (.int v) = .int v := by
  rcases zb_or h with rfl | rfl <;> decide
theorem zb_f {v : Int32} (h : zb v = true) : fits .boolean (.int v) = true := by
  rcases zb_or h with rfl | rfl <;> decide
/-- the world of both sides, in a heap -/
def XW (Z : ZT) (h : Hp) (g : va_W) (H0 H : Heap) (locs : List Loc) : Prop := va_P Z.2.1 vwCl (wl Z h g) H ∧ va_S (FR Z) H0 H locs
theorem wl_D {Z : ZT} {h h' : Hp} {g : va_W} {A : Nat → Prop} (hD : va_D A (wl Z h g)) : va_D A (wl Z h' g) := by
  have key : ∀ (k : Nat) (q : Nat × va_E), (wl Z h' g)[k]? = some q → ∃ q0, (wl Z h g)[k]? = some q0 ∧ q0.1 = q.1 := by
    intro k q hk
    by_cases hl : k < 125
    · rw [wl_at hl] at hk
      cases hk
      exact ⟨_, wl_at hl, rfl⟩
    · exact ⟨q, by rw [wl_gt hl] at hk ⊢; exact hk, rfl⟩
  refine ⟨fun i j x y hi hj hxy => ?_, fun k q hk => ?_⟩
  · obtain ⟨x0, h1, h2⟩ := key i x hi
    obtain ⟨y0, h3, h4⟩ := key j y hj
    exact hD.1 i j x0 y0 h1 h3 (h2.trans (hxy.trans h4.symm))
  · obtain ⟨q0, h1, h2⟩ := key k q hk
    rw [← h2]
    exact hD.2 k q0 h1
/-- the texts' objects, and what a throw wants of the JDK's statics: old cells, that nothing here writes -/
def SS (Z : ZT) (U : State) (H : Heap) : Prop := ∀ i : Nat, okS i = true → va_O "java/lang/String" (Z.2.2.2.2 (2 * i)) (FR Z) U H ∧ va_OF "java/lang/String" "coder" "B" (.int 0) (Z.2.2.2.2 (2 * i)) (FR Z) U H ∧ va_OF "java/lang/String" "value" "[B" (.ref (Z.2.2.2.2 (2 * i + 1))) (Z.2.2.2.2 (2 * i)) (FR Z) U H ∧ va_T .byte (Z.2.2.2.2 (2 * i + 1)) (tl i) (fun j => .int (tb i j)) (FR Z) U H
def SR (Z : ZT) (U : State) : Prop := ∀ q ∈ strs, vk_R q.1 q.2.1 q.2.2.1 (Z.2.2.2.2 (2 * q.2.2.2)) U
def ncasts : List (String × String) := [("java/lang/IllegalArgumentException", "java/lang/IndexOutOfBoundsException"), ("java/lang/IllegalStateException", "java/lang/IndexOutOfBoundsException")]
def SN (U : State) : Prop := (∀ q ∈ casts, va_Nw (.castable q.1 q.2) U) ∧ ∀ q ∈ ncasts, va_Nc q.1 q.2 U
def SX (Z : ZT) (U : State) (H : Heap) : Prop := SS Z U H ∧ SR Z U ∧ va_Z "java/lang/String" "COMPACT_STRINGS" "Z" (.int 1) (FR Z) U H ∧ va_Zq "jdk/internal/util/Preconditions" "SIOOBE_FORMATTER" "Ljava/util/function/BiFunction;" (FR Z) U H ∧ vx_Zq Bundle.tN "UNASSIGNED_STACK" Bundle.steD (FR Z) U H ∧ vx_Zq Bundle.tN "SUPPRESSED_SENTINEL" Bundle.listD (FR Z) U H ∧ SN U
theorem SX.to {Z : ZT} {s U : State} {H : Heap} {locs : List Loc} (h : SX Z s s.heap) (hS : va_S (FR Z) s.heap H locs) (hw : s.WarmedH U.vm) : SX Z U H := by
  obtain ⟨h1, h2, h3, h4, h5, h6, h7⟩ := h
  refine ⟨fun i hi => ?_, fun q hq => vk_R.warm hw (h2 q hq), va_Z.moved hw.alike (h3.kept hS.2.1), va_Zq.moved hw.alike (h4.kept hS.2.1), vx_Zq.moved hw.alike (h5.kept hS.2.1), vx_Zq.moved hw.alike (h6.kept hS.2.1), ⟨fun q hq => va_Nw.warmC hw (h7.1 q hq), fun q hq => va_Nc.moved hw.alike (h7.2 q hq)⟩⟩
  obtain ⟨a, b, c, d⟩ := h1 i hi
  exact ⟨va_O.moved hw.alike (a.kept hS.2.1), va_OF.moved hw.alike (b.kept hS.2.1), va_OF.moved hw.alike (c.kept hS.2.1), va_T.moved hw.alike (d.kept hS.2.1)⟩
/-- a method's surroundings: the machine, the code, the tables, the object of the code's class -/
def CX (p : Program) (s : State) (m : MethodId) (args : Array Value) (meth : Method) (c : Code) (cc : ByteArray) (own : String) (nL : Nat) (ret : Option FieldType) (Z : ZT) (g : va_W) : Prop :=
  p.tables.exec = Jvm.exec ∧ c.code = cc ∧ (∀ w ∈ TW, w.before args s = true) ∧ s.vm.findClass own = some m.cls ∧ c.maxLocals = nL ∧ meth.sig.returnType = ret ∧ meth.locks = false ∧ va_K Z.2.1 vwCl (tyZ Z) s ∧ va_D (FR Z) (wl Z (fun _ _ => 0) g) ∧ Z.2.2.2.1 ≤ s.heap.size ∧ SX Z s s.heap
/-- the world as a contract says it -/
def Wd (Z : ZT) (h : Hp) (g : va_W) (U : State) : Prop := va_P Z.2.1 vwCl (wl Z h g) U.heap ∧ va_K Z.2.1 vwCl (tyZ Z) U ∧ va_D (FR Z) (wl Z (fun _ _ => 0) g) ∧ Z.2.2.2.1 ≤ U.heap.size ∧ SX Z U U.heap
def rmD (k : Nat) : Room := { frames := 2 + k, cells := 0, slots := 0, locals := 50 + 50 * k }
section XB
variable {p : Program} {l : Launch} {e : Env} {R : Room} {s : State} {m : MethodId} {args : Array Value} {below : List Frame} {meth : Method} {c : Code} {H : Heap} {locs : List Loc} {cells slots : Nat} {Q : State → Prop} {cc : ByteArray} {pc nL : Nat} {ret : Option FieldType} {ls : Array Slot} {rest : List Value} {Z : ZT} {h h1 : Hp} {g : va_W} {own : String}
theorem x_get (C : CX p s m args meth c cc own nL ret Z g) (hW : XW Z h g s.heap H locs) {o ci N idx : Nat} {fs : List Value} {Cn ref : String} {T : u_T} {v : Value} (ho : (wl Z h g)[o]? = some (Z.1 o, .inr (ci, fs))) (hc : vwCl[ci]? = some (Cn, T, N)) (hin : ∀ w ∈ u_ws Cn T N, w ∈ TW) (j : Nat) (hj : j < N) (hl : Cond.fieldLink own idx ref (T j).2.1 (T j).2.2.1 ∈ TW) (hr : (T j).1 = ref := by rfl) (hv : fs[j]? = some v) (hd : decode cc pc = .ok (.getfield idx, 3))
    (k : W p l e R s m args below meth c H locs cells slots Q (F0 m (pc + 3) ls (v :: rest))) : W p l e R s m args below meth c H locs cells slots Q (F0 m pc ls (.ref (Z.1 o) :: rest)) :=
  va_get C.1 C.2.1 (own := own) C.2.2.1 hin C.2.2.2.1 C.2.2.2.2.2.2.2.1 hW.1 o ho hc j hj (C.2.2.1 _ hl) (fun x q => by rw [hr] at q; exact q) hv hd k
theorem x_put (C : CX p s m args meth c cc own nL ret Z g) (hW : XW Z h g s.heap H locs) {o ci N idx : Nat} {fs : List Value} {Cn ref : String} {T : u_T} {v : Value} (ho : (wl Z h g)[o]? = some (Z.1 o, .inr (ci, fs))) (hc : vwCl[ci]? = some (Cn, T, N)) (hin : ∀ w ∈ u_ws Cn T N, w ∈ TW) (ty0 : Nat → FieldType) (hty : ∀ k, k < N → parseFieldDescriptor (T k).2.2.1 = some (ty0 k)) (hnm : ∀ a, a < N → ∀ b, b < N → a ≠ b → (T a).2.1 ≠ (T b).2.1) (j : Nat) (hj : j < N) (hl : Cond.fieldLink own idx ref (T j).2.1 (T j).2.2.1 ∈ TW) (hr : (T j).1 = ref := by rfl) (hfin : (T j).2.2.2 = false := by rfl) {ty : FieldType} (hty2 : parseFieldDescriptor (T j).2.2.1 = some ty) (hn : narrow ty v = v) (hfit : fits ty v = true) (hlen : j < fs.length) (hs : (wl Z h g).set o (Z.1 o, .inr (ci, fs.set j v)) = wl Z h1 g) (hd : decode cc pc = .ok (.putfield idx, 3))
    (kk : ∀ (H1 : Heap) (locs1 : List Loc), XW Z h1 g s.heap H1 locs1 → W p l e R s m args below meth c H1 locs1 cells slots Q (F0 m (pc + 3) ls rest)) : W p l e R s m args below meth c H locs cells slots Q (F0 m pc ls (v :: .ref (Z.1 o) :: rest)) :=
  va_put C.1 C.2.1 (own := own) C.2.2.1 hin ty0 hty hnm C.2.2.2.1 C.2.2.2.2.2.2.2.1 hW.1 (wl_D C.2.2.2.2.2.2.2.2.1) hW.2 o ho hc j hj (C.2.2.1 _ hl) (fun x q => by rw [hr] at q; exact q) hfin hty2 hn hfit hlen hd (fun H1 locs1 a _ b => kk H1 locs1 ⟨by rw [hs] at a; exact a, b⟩)
theorem x_ialdC (C : CX p s m args meth c cc own nL ret Z g) (hW : XW Z h g s.heap H locs) {o n : Nat} (ho : arC o 11 n = true) {i : Int32} {α : Type} {K : Option α} {out : α} (hf : ck (inb i n) K = some out) (hd : decode cc pc = .ok (.iaload, 1)) (k : K = some out → W p l e R s m args below meth c H locs cells slots Q (F0 m (pc + 1) ls (.int (h o (ix i)) :: rest))) : W p l e R s m args below meth c H locs cells slots Q (F0 m pc ls (.int i :: .ref (Z.1 o) :: rest)) :=
  va_iald C.1 C.2.1 C.2.2.2.2.2.2.2.1 hW.1 o 1 (wr11C ho) rfl (inb_in (ck_t hf).1) hd (k (ck_t hf).2)
theorem x_baldC (C : CX p s m args meth c cc own nL ret Z g) (hW : XW Z h g s.heap H locs) {o n : Nat} (ho : arC o 10 n = true) {i : Int32} {α : Type} {K : Option α} {out : α} (hf : ck (inb i n) K = some out) (hd : decode cc pc = .ok (.baload, 1)) (k : K = some out → W p l e R s m args below meth c H locs cells slots Q (F0 m (pc + 1) ls (.int (h o (ix i)) :: rest))) : W p l e R s m args below meth c H locs cells slots Q (F0 m pc ls (.int i :: .ref (Z.1 o) :: rest)) :=
  va_bald C.1 C.2.1 C.2.2.2.2.2.2.2.1 hW.1 o 0 (wr10C ho) rfl (inb_in (ck_t hf).1) hd (k (ck_t hf).2)
theorem x_zaldC (C : CX p s m args meth c cc own nL ret Z g) (hW : XW Z h g s.heap H locs) {o n : Nat} (ho : arC o 12 n = true) {i : Int32} {α : Type} {K : Option α} {out : α} (hf : ck (inb i n) K = some out) (hd : decode cc pc = .ok (.baload, 1)) (k : K = some out → W p l e R s m args below meth c H locs cells slots Q (F0 m (pc + 1) ls (.int (h o (ix i)) :: rest))) : W p l e R s m args below meth c H locs cells slots Q (F0 m pc ls (.int i :: .ref (Z.1 o) :: rest)) :=
  va_zald C.1 C.2.1 C.2.2.2.2.2.2.2.1 hW.1 o 2 (wr12C ho) rfl (inb_in (ck_t hf).1) hd (k (ck_t hf).2)
theorem x_iastC (C : CX p s m args meth c cc own nL ret Z g) (hW : XW Z h g s.heap H locs) {o n : Nat} (ho : arC o 11 n = true) {i v : Int32} {α : Type} {K : Hp → Option α} {out : α} (hf : ck (inb i n) (stp (up h o (ix i) v) K) = some out) (hd : decode cc pc = .ok (.iastore, 1)) (k : ∀ (h1 : Hp) (H1 : Heap) (locs1 : List Loc), K h1 = some out → XW Z h1 g s.heap H1 locs1 → W p l e R s m args below meth c H1 locs1 cells slots Q (F0 m (pc + 1) ls rest)) : W p l e R s m args below meth c H locs cells slots Q (F0 m pc ls (.int v :: .int i :: .ref (Z.1 o) :: rest)) :=
  va_iast C.1 C.2.1 C.2.2.2.2.2.2.2.1 hW.1 (wl_D C.2.2.2.2.2.2.2.2.1) hW.2 o 1 (wr11C ho) rfl (inb_in (ck_t hf).1) hd (fun H1 locs1 a _ b => k _ H1 locs1 (ck_t hf).2 ⟨by rw [← ws11C ho]; exact a, b⟩)
theorem x_bastC (C : CX p s m args meth c cc own nL ret Z g) (hW : XW Z h g s.heap H locs) {o n : Nat} (ho : arC o 10 n = true) {i v : Int32} {α : Type} {K : Hp → Option α} {out : α} (hf : ck (inb i n) (stp (up h o (ix i) (i2b v)) K) = some out) (hd : decode cc pc = .ok (.bastore, 1)) (k : ∀ (h1 : Hp) (H1 : Heap) (locs1 : List Loc), K h1 = some out → XW Z h1 g s.heap H1 locs1 → W p l e R s m args below meth c H1 locs1 cells slots Q (F0 m (pc + 1) ls rest)) : W p l e R s m args below meth c H locs cells slots Q (F0 m pc ls (.int v :: .int i :: .ref (Z.1 o) :: rest)) :=
  va_bast C.1 C.2.1 C.2.2.2.2.2.2.2.1 hW.1 (wl_D C.2.2.2.2.2.2.2.2.1) hW.2 o 0 (wr10C ho) rfl (inb_in (ck_t hf).1) hd (fun H1 locs1 a _ b => k _ H1 locs1 (ck_t hf).2 ⟨by rw [← ws10C ho]; rw [vp_nar_byte] at a; exact a, b⟩)
theorem zb_nar {v : Int32} (h : zb v = true) : vp_nar .boolean v = v := by rcases zb_or h with rfl | rfl <;> decide
theorem x_zastC (C : CX p s m args meth c cc own nL ret Z g) (hW : XW Z h g s.heap H locs) {o n : Nat} (ho : arC o 12 n = true) {i v : Int32} (hz : zb v = true) {α : Type} {K : Hp → Option α} {out : α} (hf : ck (inb i n) (stp (up h o (ix i) v) K) = some out) (hd : decode cc pc = .ok (.bastore, 1)) (k : ∀ (h1 : Hp) (H1 : Heap) (locs1 : List Loc), K h1 = some out → XW Z h1 g s.heap H1 locs1 → W p l e R s m args below meth c H1 locs1 cells slots Q (F0 m (pc + 1) ls rest)) : W p l e R s m args below meth c H locs cells slots Q (F0 m pc ls (.int v :: .int i :: .ref (Z.1 o) :: rest)) :=
  va_zast C.1 C.2.1 C.2.2.2.2.2.2.2.1 hW.1 (wl_D C.2.2.2.2.2.2.2.2.1) hW.2 o 2 (wr12C ho) rfl (inb_in (ck_t hf).1) hd (fun H1 locs1 a _ b => k _ H1 locs1 (ck_t hf).2 ⟨by rw [← ws12C ho]; rw [zb_nar hz] at a; exact a, b⟩)
end XB

theorem ms_X11_43 : ("TranscriptCutterLaw$Drawn", 43, "", 100) ∈ strs := List.mem_of_getElem? (i := 0) rfl
theorem ms_X11_69 : ("TranscriptCutterLaw$Drawn", 69, "speaker s", 101) ∈ strs := List.mem_of_getElem? (i := 1) rfl
theorem ms_X11_74 : ("TranscriptCutterLaw$Drawn", 74, ";", 102) ∈ strs := List.mem_of_getElem? (i := 2) rfl
theorem ms_J7_337 : ("java/util/Arrays", 337, " > ", 103) ∈ strs := List.mem_of_getElem? (i := 3) rfl
theorem ms_X11_90 : ("TranscriptCutterLaw$Drawn", 90, "word s", 104) ∈ strs := List.mem_of_getElem? (i := 4) rfl
theorem ms_X11_92 : ("TranscriptCutterLaw$Drawn", 92, " t", 105) ∈ strs := List.mem_of_getElem? (i := 5) rfl
theorem ms_X11_98 : ("TranscriptCutterLaw$Drawn", 98, " ", 106) ∈ strs := List.mem_of_getElem? (i := 6) rfl
theorem ms_X11_112 : ("TranscriptCutterLaw$Drawn", 112, "breath ", 107) ∈ strs := List.mem_of_getElem? (i := 7) rfl
theorem ms_X11_114 : ("TranscriptCutterLaw$Drawn", 114, "length ", 108) ∈ strs := List.mem_of_getElem? (i := 8) rfl
theorem ms_X11_116 : ("TranscriptCutterLaw$Drawn", 116, ";handle ", 109) ∈ strs := List.mem_of_getElem? (i := 9) rfl
theorem ms_X8_43 : ("TranscriptCutter$TextGrammar", 43, "length", 2) ∈ strs := List.mem_of_getElem? (i := 10) rfl
theorem ms_X8_52 : ("TranscriptCutter$TextGrammar", 52, "speaker", 3) ∈ strs := List.mem_of_getElem? (i := 11) rfl
theorem ms_X8_57 : ("TranscriptCutter$TextGrammar", 57, "word", 4) ∈ strs := List.mem_of_getElem? (i := 12) rfl
theorem ms_X8_62 : ("TranscriptCutter$TextGrammar", 62, "breath", 5) ∈ strs := List.mem_of_getElem? (i := 13) rfl
theorem ms_X8_67 : ("TranscriptCutter$TextGrammar", 67, "handle", 6) ∈ strs := List.mem_of_getElem? (i := 14) rfl
theorem ms_X10_74 : ("TranscriptCutter", 74, "the text does not match", 7) ∈ strs := List.mem_of_getElem? (i := 15) rfl
theorem ms_X10_354 : ("TranscriptCutter", 354, "no such word", 17) ∈ strs := List.mem_of_getElem? (i := 16) rfl
theorem ms_X10_357 : ("TranscriptCutter", 357, "no such block", 18) ∈ strs := List.mem_of_getElem? (i := 17) rfl
theorem ms_X10_361 : ("TranscriptCutter", 361, "no such shot", 19) ∈ strs := List.mem_of_getElem? (i := 18) rfl
theorem ms_X10_359 : ("TranscriptCutter", 359, "no such speaker", 20) ∈ strs := List.mem_of_getElem? (i := 19) rfl
theorem ms_X10_363 : ("TranscriptCutter", 363, "no such places", 21) ∈ strs := List.mem_of_getElem? (i := 20) rfl
theorem ms_X10_297 : ("TranscriptCutter", 297, "the word is not kept", 22) ∈ strs := List.mem_of_getElem? (i := 21) rfl
theorem ms_X10_300 : ("TranscriptCutter", 300, "the last word is before the first one", 23) ∈ strs := List.mem_of_getElem? (i := 22) rfl
theorem ms_X10_305 : ("TranscriptCutter", 305, "the last shot is before the first one", 24) ∈ strs := List.mem_of_getElem? (i := 23) rfl
theorem ms_X10_307 : ("TranscriptCutter", 307, "there is no such shot to move behind", 25) ∈ strs := List.mem_of_getElem? (i := 24) rfl
theorem ms_X10_309 : ("TranscriptCutter", 309, "the shot to move behind is moved itself", 26) ∈ strs := List.mem_of_getElem? (i := 25) rfl
theorem ms_X10_315 : ("TranscriptCutter", 315, "a head or tail is 0 to 999", 27) ∈ strs := List.mem_of_getElem? (i := 26) rfl
theorem ms_X7_65 : ("TranscriptCutter$ScriptGrammar", 65, "cut", 8) ∈ strs := List.mem_of_getElem? (i := 27) rfl
theorem ms_X7_71 : ("TranscriptCutter$ScriptGrammar", 71, "clean", 9) ∈ strs := List.mem_of_getElem? (i := 28) rfl
theorem ms_X7_73 : ("TranscriptCutter$ScriptGrammar", 73, "restore", 10) ∈ strs := List.mem_of_getElem? (i := 29) rfl
theorem ms_X7_75 : ("TranscriptCutter$ScriptGrammar", 75, "move", 11) ∈ strs := List.mem_of_getElem? (i := 30) rfl
theorem ms_X7_77 : ("TranscriptCutter$ScriptGrammar", 77, "if", 12) ∈ strs := List.mem_of_getElem? (i := 31) rfl
theorem ms_X7_79 : ("TranscriptCutter$ScriptGrammar", 79, "repeat", 13) ∈ strs := List.mem_of_getElem? (i := 32) rfl
theorem ms_X7_102 : ("TranscriptCutter$ScriptGrammar", 102, "else", 14) ∈ strs := List.mem_of_getElem? (i := 33) rfl
theorem ms_X7_84 : ("TranscriptCutter$ScriptGrammar", 84, "behind", 15) ∈ strs := List.mem_of_getElem? (i := 34) rfl
theorem ms_X10_97 : ("TranscriptCutter", 97, "the script does not match", 16) ∈ strs := List.mem_of_getElem? (i := 35) rfl
section GP
variable {p : Program} {l : Launch} {e : Env} {R : Room} {s : State} {m : MethodId} {args : Array Value} {below : List Frame} {meth : Method} {c : Code} {H : Heap} {locs : List Loc} {cells slots : Nat} {Q : State → Prop} {cc : ByteArray} {pc nL : Nat} {ret : Option FieldType} {ls : Array Slot} {rest : List Value} {Z : ZT} {h : Hp} {g : va_W}
theorem ml_X9_9 : Cond.fieldLink RX9 9 RX9 (TX9 0).2.1 (TX9 0).2.2.1 ∈ TW := TW_of 60 (by decide +kernel) (by decide +kernel)
theorem xg_X9_9 (C : CX p s m args meth c cc RX9 nL ret Z g) (hW : XW Z h g s.heap H locs) {o : Nat} (hk : knd o = 7) (hd : decode cc pc = .ok (.getfield 9, 3)) (kk : W p l e R s m args below meth c H locs cells slots Q (F0 m (pc + 3) ls (.ref (Z.1 2) :: rest))) : W p l e R s m args below meth c H locs cells slots Q (F0 m pc ls (.ref (Z.1 o) :: rest)) := x_get C hW (wk7 hk) rfl wsX9_in 0 (by decide) (ml_X9_9) rfl (v := .ref (Z.1 2)) rfl hd kk
theorem ml_X10_58 : Cond.fieldLink RX10 58 RX9 (TX9 1).2.1 (TX9 1).2.2.1 ∈ TW := TW_of 61 (by decide +kernel) (by decide +kernel)
theorem xg_X10_58 (C : CX p s m args meth c cc RX10 nL ret Z g) (hW : XW Z h g s.heap H locs) {o : Nat} (hk : knd o = 7) (hd : decode cc pc = .ok (.getfield 58, 3)) (kk : W p l e R s m args below meth c H locs cells slots Q (F0 m (pc + 3) ls (.int (h o 1) :: rest))) : W p l e R s m args below meth c H locs cells slots Q (F0 m pc ls (.ref (Z.1 o) :: rest)) := x_get C hW (wk7 hk) rfl wsX9_in 1 (by decide) (ml_X10_58) rfl (v := .int (h o 1)) rfl hd kk
theorem xp_X10_58 (C : CX p s m args meth c cc RX10 nL ret Z g) (hW : XW Z h g s.heap H locs) {o : Nat} (hk : knd o = 7) {v : Int32} {α : Type} {K : Hp → Option α} {out : α} (hf : stp (up h o 1 v) K = some out) (hd : decode cc pc = .ok (.putfield 58, 3)) (kk : ∀ (h1 : Hp) (H1 : Heap) (locs1 : List Loc), K h1 = some out → XW Z h1 g s.heap H1 locs1 → W p l e R s m args below meth c H1 locs1 cells slots Q (F0 m (pc + 3) ls rest)) : W p l e R s m args below meth c H locs cells slots Q (F0 m pc ls (.int v :: .ref (Z.1 o) :: rest)) := by
  have hs : (wl Z h g).set o (Z.1 o, .inr (7, ([.ref (Z.1 2), .int (h o 1), .int (h o 2), .int (h o 3), .int (h o 4), .int (h o 5), .int (h o 6)]).set 1 (.int v))) = wl Z (up h o 1 v) g := by
    have h1 := k_lt hk (by decide)
    refine wl_set h1 ?_ mx_upl
    rw [up_eq]
    rw [cel_k hk]
    rfl
  exact x_put C hW (wk7 hk) rfl wsX9_in tyX9 tyX9_ok nmX9 1 (by decide) (ml_X10_58) rfl rfl (ty := .int) (by decide +kernel) (rfl) (rfl) (Nat.le_of_ble_eq_true rfl) hs hd (fun H1 locs1 q => kk _ H1 locs1 hf q)
theorem ml_X9_19 : Cond.fieldLink RX9 19 RX9 (TX9 1).2.1 (TX9 1).2.2.1 ∈ TW := TW_of 62 (by decide +kernel) (by decide +kernel)
theorem xg_X9_19 (C : CX p s m args meth c cc RX9 nL ret Z g) (hW : XW Z h g s.heap H locs) {o : Nat} (hk : knd o = 7) (hd : decode cc pc = .ok (.getfield 19, 3)) (kk : W p l e R s m args below meth c H locs cells slots Q (F0 m (pc + 3) ls (.int (h o 1) :: rest))) : W p l e R s m args below meth c H locs cells slots Q (F0 m pc ls (.ref (Z.1 o) :: rest)) := x_get C hW (wk7 hk) rfl wsX9_in 1 (by decide) (ml_X9_19) rfl (v := .int (h o 1)) rfl hd kk
theorem xp_X9_19 (C : CX p s m args meth c cc RX9 nL ret Z g) (hW : XW Z h g s.heap H locs) {o : Nat} (hk : knd o = 7) {v : Int32} {α : Type} {K : Hp → Option α} {out : α} (hf : stp (up h o 1 v) K = some out) (hd : decode cc pc = .ok (.putfield 19, 3)) (kk : ∀ (h1 : Hp) (H1 : Heap) (locs1 : List Loc), K h1 = some out → XW Z h1 g s.heap H1 locs1 → W p l e R s m args below meth c H1 locs1 cells slots Q (F0 m (pc + 3) ls rest)) : W p l e R s m args below meth c H locs cells slots Q (F0 m pc ls (.int v :: .ref (Z.1 o) :: rest)) := by
  have hs : (wl Z h g).set o (Z.1 o, .inr (7, ([.ref (Z.1 2), .int (h o 1), .int (h o 2), .int (h o 3), .int (h o 4), .int (h o 5), .int (h o 6)]).set 1 (.int v))) = wl Z (up h o 1 v) g := by
    have h1 := k_lt hk (by decide)
    refine wl_set h1 ?_ mx_upl
    rw [up_eq]
    rw [cel_k hk]
    rfl
  exact x_put C hW (wk7 hk) rfl wsX9_in tyX9 tyX9_ok nmX9 1 (by decide) (ml_X9_19) rfl rfl (ty := .int) (by decide +kernel) (rfl) (rfl) (Nat.le_of_ble_eq_true rfl) hs hd (fun H1 locs1 q => kk _ H1 locs1 hf q)
theorem ml_X9_15 : Cond.fieldLink RX9 15 RX9 (TX9 2).2.1 (TX9 2).2.2.1 ∈ TW := TW_of 63 (by decide +kernel) (by decide +kernel)
theorem xg_X9_15 (C : CX p s m args meth c cc RX9 nL ret Z g) (hW : XW Z h g s.heap H locs) {o : Nat} (hk : knd o = 7) (hd : decode cc pc = .ok (.getfield 15, 3)) (kk : W p l e R s m args below meth c H locs cells slots Q (F0 m (pc + 3) ls (.int (h o 2) :: rest))) : W p l e R s m args below meth c H locs cells slots Q (F0 m pc ls (.ref (Z.1 o) :: rest)) := x_get C hW (wk7 hk) rfl wsX9_in 2 (by decide) (ml_X9_15) rfl (v := .int (h o 2)) rfl hd kk
theorem xp_X9_15 (C : CX p s m args meth c cc RX9 nL ret Z g) (hW : XW Z h g s.heap H locs) {o : Nat} (hk : knd o = 7) {v : Int32} {α : Type} {K : Hp → Option α} {out : α} (hf : stp (up h o 2 v) K = some out) (hd : decode cc pc = .ok (.putfield 15, 3)) (kk : ∀ (h1 : Hp) (H1 : Heap) (locs1 : List Loc), K h1 = some out → XW Z h1 g s.heap H1 locs1 → W p l e R s m args below meth c H1 locs1 cells slots Q (F0 m (pc + 3) ls rest)) : W p l e R s m args below meth c H locs cells slots Q (F0 m pc ls (.int v :: .ref (Z.1 o) :: rest)) := by
  have hs : (wl Z h g).set o (Z.1 o, .inr (7, ([.ref (Z.1 2), .int (h o 1), .int (h o 2), .int (h o 3), .int (h o 4), .int (h o 5), .int (h o 6)]).set 2 (.int v))) = wl Z (up h o 2 v) g := by
    have h1 := k_lt hk (by decide)
    refine wl_set h1 ?_ mx_upl
    rw [up_eq]
    rw [cel_k hk]
    rfl
  exact x_put C hW (wk7 hk) rfl wsX9_in tyX9 tyX9_ok nmX9 2 (by decide) (ml_X9_15) rfl rfl (ty := .int) (by decide +kernel) (rfl) (rfl) (Nat.le_of_ble_eq_true rfl) hs hd (fun H1 locs1 q => kk _ H1 locs1 hf q)
theorem ml_X9_22 : Cond.fieldLink RX9 22 RX9 (TX9 3).2.1 (TX9 3).2.2.1 ∈ TW := TW_of 64 (by decide +kernel) (by decide +kernel)
theorem xg_X9_22 (C : CX p s m args meth c cc RX9 nL ret Z g) (hW : XW Z h g s.heap H locs) {o : Nat} (hk : knd o = 7) (hd : decode cc pc = .ok (.getfield 22, 3)) (kk : W p l e R s m args below meth c H locs cells slots Q (F0 m (pc + 3) ls (.int (h o 3) :: rest))) : W p l e R s m args below meth c H locs cells slots Q (F0 m pc ls (.ref (Z.1 o) :: rest)) := x_get C hW (wk7 hk) rfl wsX9_in 3 (by decide) (ml_X9_22) rfl (v := .int (h o 3)) rfl hd kk
theorem xp_X9_22 (C : CX p s m args meth c cc RX9 nL ret Z g) (hW : XW Z h g s.heap H locs) {o : Nat} (hk : knd o = 7) {v : Int32} {α : Type} {K : Hp → Option α} {out : α} (hf : stp (up h o 3 v) K = some out) (hd : decode cc pc = .ok (.putfield 22, 3)) (kk : ∀ (h1 : Hp) (H1 : Heap) (locs1 : List Loc), K h1 = some out → XW Z h1 g s.heap H1 locs1 → W p l e R s m args below meth c H1 locs1 cells slots Q (F0 m (pc + 3) ls rest)) : W p l e R s m args below meth c H locs cells slots Q (F0 m pc ls (.int v :: .ref (Z.1 o) :: rest)) := by
  have hs : (wl Z h g).set o (Z.1 o, .inr (7, ([.ref (Z.1 2), .int (h o 1), .int (h o 2), .int (h o 3), .int (h o 4), .int (h o 5), .int (h o 6)]).set 3 (.int v))) = wl Z (up h o 3 v) g := by
    have h1 := k_lt hk (by decide)
    refine wl_set h1 ?_ mx_upl
    rw [up_eq]
    rw [cel_k hk]
    rfl
  exact x_put C hW (wk7 hk) rfl wsX9_in tyX9 tyX9_ok nmX9 3 (by decide) (ml_X9_22) rfl rfl (ty := .int) (by decide +kernel) (rfl) (rfl) (Nat.le_of_ble_eq_true rfl) hs hd (fun H1 locs1 q => kk _ H1 locs1 hf q)
theorem ml_X10_112 : Cond.fieldLink RX10 112 RX9 (TX9 3).2.1 (TX9 3).2.2.1 ∈ TW := TW_of 65 (by decide +kernel) (by decide +kernel)
theorem xg_X10_112 (C : CX p s m args meth c cc RX10 nL ret Z g) (hW : XW Z h g s.heap H locs) {o : Nat} (hk : knd o = 7) (hd : decode cc pc = .ok (.getfield 112, 3)) (kk : W p l e R s m args below meth c H locs cells slots Q (F0 m (pc + 3) ls (.int (h o 3) :: rest))) : W p l e R s m args below meth c H locs cells slots Q (F0 m pc ls (.ref (Z.1 o) :: rest)) := x_get C hW (wk7 hk) rfl wsX9_in 3 (by decide) (ml_X10_112) rfl (v := .int (h o 3)) rfl hd kk
theorem xp_X10_112 (C : CX p s m args meth c cc RX10 nL ret Z g) (hW : XW Z h g s.heap H locs) {o : Nat} (hk : knd o = 7) {v : Int32} {α : Type} {K : Hp → Option α} {out : α} (hf : stp (up h o 3 v) K = some out) (hd : decode cc pc = .ok (.putfield 112, 3)) (kk : ∀ (h1 : Hp) (H1 : Heap) (locs1 : List Loc), K h1 = some out → XW Z h1 g s.heap H1 locs1 → W p l e R s m args below meth c H1 locs1 cells slots Q (F0 m (pc + 3) ls rest)) : W p l e R s m args below meth c H locs cells slots Q (F0 m pc ls (.int v :: .ref (Z.1 o) :: rest)) := by
  have hs : (wl Z h g).set o (Z.1 o, .inr (7, ([.ref (Z.1 2), .int (h o 1), .int (h o 2), .int (h o 3), .int (h o 4), .int (h o 5), .int (h o 6)]).set 3 (.int v))) = wl Z (up h o 3 v) g := by
    have h1 := k_lt hk (by decide)
    refine wl_set h1 ?_ mx_upl
    rw [up_eq]
    rw [cel_k hk]
    rfl
  exact x_put C hW (wk7 hk) rfl wsX9_in tyX9 tyX9_ok nmX9 3 (by decide) (ml_X10_112) rfl rfl (ty := .int) (by decide +kernel) (rfl) (rfl) (Nat.le_of_ble_eq_true rfl) hs hd (fun H1 locs1 q => kk _ H1 locs1 hf q)
theorem ml_X9_34 : Cond.fieldLink RX9 34 RX9 (TX9 4).2.1 (TX9 4).2.2.1 ∈ TW := TW_of 66 (by decide +kernel) (by decide +kernel)
theorem xg_X9_34 (C : CX p s m args meth c cc RX9 nL ret Z g) (hW : XW Z h g s.heap H locs) {o : Nat} (hk : knd o = 7) (hd : decode cc pc = .ok (.getfield 34, 3)) (kk : W p l e R s m args below meth c H locs cells slots Q (F0 m (pc + 3) ls (.int (h o 4) :: rest))) : W p l e R s m args below meth c H locs cells slots Q (F0 m pc ls (.ref (Z.1 o) :: rest)) := x_get C hW (wk7 hk) rfl wsX9_in 4 (by decide) (ml_X9_34) rfl (v := .int (h o 4)) rfl hd kk
theorem xp_X9_34 (C : CX p s m args meth c cc RX9 nL ret Z g) (hW : XW Z h g s.heap H locs) {o : Nat} (hk : knd o = 7) {v : Int32} {α : Type} {K : Hp → Option α} {out : α} (hf : stp (up h o 4 v) K = some out) (hd : decode cc pc = .ok (.putfield 34, 3)) (kk : ∀ (h1 : Hp) (H1 : Heap) (locs1 : List Loc), K h1 = some out → XW Z h1 g s.heap H1 locs1 → W p l e R s m args below meth c H1 locs1 cells slots Q (F0 m (pc + 3) ls rest)) : W p l e R s m args below meth c H locs cells slots Q (F0 m pc ls (.int v :: .ref (Z.1 o) :: rest)) := by
  have hs : (wl Z h g).set o (Z.1 o, .inr (7, ([.ref (Z.1 2), .int (h o 1), .int (h o 2), .int (h o 3), .int (h o 4), .int (h o 5), .int (h o 6)]).set 4 (.int v))) = wl Z (up h o 4 v) g := by
    have h1 := k_lt hk (by decide)
    refine wl_set h1 ?_ mx_upl
    rw [up_eq]
    rw [cel_k hk]
    rfl
  exact x_put C hW (wk7 hk) rfl wsX9_in tyX9 tyX9_ok nmX9 4 (by decide) (ml_X9_34) rfl rfl (ty := .int) (by decide +kernel) (rfl) (rfl) (Nat.le_of_ble_eq_true rfl) hs hd (fun H1 locs1 q => kk _ H1 locs1 hf q)
theorem ml_X9_25 : Cond.fieldLink RX9 25 RX9 (TX9 5).2.1 (TX9 5).2.2.1 ∈ TW := TW_of 67 (by decide +kernel) (by decide +kernel)
theorem xg_X9_25 (C : CX p s m args meth c cc RX9 nL ret Z g) (hW : XW Z h g s.heap H locs) {o : Nat} (hk : knd o = 7) (hd : decode cc pc = .ok (.getfield 25, 3)) (kk : W p l e R s m args below meth c H locs cells slots Q (F0 m (pc + 3) ls (.int (h o 5) :: rest))) : W p l e R s m args below meth c H locs cells slots Q (F0 m pc ls (.ref (Z.1 o) :: rest)) := x_get C hW (wk7 hk) rfl wsX9_in 5 (by decide) (ml_X9_25) rfl (v := .int (h o 5)) rfl hd kk
theorem xp_X9_25 (C : CX p s m args meth c cc RX9 nL ret Z g) (hW : XW Z h g s.heap H locs) {o : Nat} (hk : knd o = 7) {v : Int32} {α : Type} {K : Hp → Option α} {out : α} (hf : stp (up h o 5 v) K = some out) (hd : decode cc pc = .ok (.putfield 25, 3)) (kk : ∀ (h1 : Hp) (H1 : Heap) (locs1 : List Loc), K h1 = some out → XW Z h1 g s.heap H1 locs1 → W p l e R s m args below meth c H1 locs1 cells slots Q (F0 m (pc + 3) ls rest)) : W p l e R s m args below meth c H locs cells slots Q (F0 m pc ls (.int v :: .ref (Z.1 o) :: rest)) := by
  have hs : (wl Z h g).set o (Z.1 o, .inr (7, ([.ref (Z.1 2), .int (h o 1), .int (h o 2), .int (h o 3), .int (h o 4), .int (h o 5), .int (h o 6)]).set 5 (.int v))) = wl Z (up h o 5 v) g := by
    have h1 := k_lt hk (by decide)
    refine wl_set h1 ?_ mx_upl
    rw [up_eq]
    rw [cel_k hk]
    rfl
  exact x_put C hW (wk7 hk) rfl wsX9_in tyX9 tyX9_ok nmX9 5 (by decide) (ml_X9_25) rfl rfl (ty := .int) (by decide +kernel) (rfl) (rfl) (Nat.le_of_ble_eq_true rfl) hs hd (fun H1 locs1 q => kk _ H1 locs1 hf q)
theorem ml_X9_28 : Cond.fieldLink RX9 28 RX9 (TX9 6).2.1 (TX9 6).2.2.1 ∈ TW := TW_of 68 (by decide +kernel) (by decide +kernel)
theorem xg_X9_28 (C : CX p s m args meth c cc RX9 nL ret Z g) (hW : XW Z h g s.heap H locs) {o : Nat} (hk : knd o = 7) (hd : decode cc pc = .ok (.getfield 28, 3)) (kk : W p l e R s m args below meth c H locs cells slots Q (F0 m (pc + 3) ls (.int (h o 6) :: rest))) : W p l e R s m args below meth c H locs cells slots Q (F0 m pc ls (.ref (Z.1 o) :: rest)) := x_get C hW (wk7 hk) rfl wsX9_in 6 (by decide) (ml_X9_28) rfl (v := .int (h o 6)) rfl hd kk
theorem xp_X9_28 (C : CX p s m args meth c cc RX9 nL ret Z g) (hW : XW Z h g s.heap H locs) {o : Nat} (hk : knd o = 7) {v : Int32} {α : Type} {K : Hp → Option α} {out : α} (hf : stp (up h o 6 v) K = some out) (hd : decode cc pc = .ok (.putfield 28, 3)) (kk : ∀ (h1 : Hp) (H1 : Heap) (locs1 : List Loc), K h1 = some out → XW Z h1 g s.heap H1 locs1 → W p l e R s m args below meth c H1 locs1 cells slots Q (F0 m (pc + 3) ls rest)) : W p l e R s m args below meth c H locs cells slots Q (F0 m pc ls (.int v :: .ref (Z.1 o) :: rest)) := by
  have hs : (wl Z h g).set o (Z.1 o, .inr (7, ([.ref (Z.1 2), .int (h o 1), .int (h o 2), .int (h o 3), .int (h o 4), .int (h o 5), .int (h o 6)]).set 6 (.int v))) = wl Z (up h o 6 v) g := by
    have h1 := k_lt hk (by decide)
    refine wl_set h1 ?_ mx_upl
    rw [up_eq]
    rw [cel_k hk]
    rfl
  exact x_put C hW (wk7 hk) rfl wsX9_in tyX9 tyX9_ok nmX9 6 (by decide) (ml_X9_28) rfl rfl (ty := .int) (by decide +kernel) (rfl) (rfl) (Nat.le_of_ble_eq_true rfl) hs hd (fun H1 locs1 q => kk _ H1 locs1 hf q)
theorem ml_X4_9 : Cond.fieldLink RX4 9 RX4 (TX4 0).2.1 (TX4 0).2.2.1 ∈ TW := TW_of 97 (by decide +kernel) (by decide +kernel)
theorem xg_X4_9 (C : CX p s m args meth c cc RX4 nL ret Z g) (hW : XW Z h g s.heap H locs) {o : Nat} (hk : knd o = 4) (hd : decode cc pc = .ok (.getfield 9, 3)) (kk : W p l e R s m args below meth c H locs cells slots Q (F0 m (pc + 3) ls (.int (h o 0) :: rest))) : W p l e R s m args below meth c H locs cells slots Q (F0 m pc ls (.ref (Z.1 o) :: rest)) := x_get C hW (wk4 hk) rfl wsX4_in 0 (by decide) (ml_X4_9) rfl (v := .int (h o 0)) rfl hd kk
theorem xp_X4_9 (C : CX p s m args meth c cc RX4 nL ret Z g) (hW : XW Z h g s.heap H locs) {o : Nat} (hk : knd o = 4) {v : Int32} {α : Type} {K : Hp → Option α} {out : α} (hf : stp (up h o 0 v) K = some out) (hd : decode cc pc = .ok (.putfield 9, 3)) (kk : ∀ (h1 : Hp) (H1 : Heap) (locs1 : List Loc), K h1 = some out → XW Z h1 g s.heap H1 locs1 → W p l e R s m args below meth c H1 locs1 cells slots Q (F0 m (pc + 3) ls rest)) : W p l e R s m args below meth c H locs cells slots Q (F0 m pc ls (.int v :: .ref (Z.1 o) :: rest)) := by
  have hs : (wl Z h g).set o (Z.1 o, .inr (4, ([.int (h o 0), .int (h o 1), .int (h o 2), .ref (Z.1 (o + 1)), .int (h o 4), .ref (Z.1 (o + 2)), .ref (Z.1 (o + 3)), .ref (Z.1 (o + 4)), .ref (Z.1 (o + 5)), .ref (Z.1 (o + 6)), .int (h o 10), .ref (Z.1 (o + 7)), .ref (Z.1 (o + 8)), .int (h o 13), .ref (Z.1 (o + 9)), .ref (Z.1 (o + 10)), .ref (Z.1 (o + 11)), .ref (Z.1 (o + 12)), .ref (Z.1 (o + 13))]).set 0 (.int v))) = wl Z (up h o 0 v) g := by
    have h1 := k_lt hk (by decide)
    refine wl_set h1 ?_ mx_upl
    rw [up_eq]
    rw [cel_k hk]
    rfl
  exact x_put C hW (wk4 hk) rfl wsX4_in tyX4 tyX4_ok nmX4 0 (by decide) (ml_X4_9) rfl rfl (ty := .int) (by decide +kernel) (rfl) (rfl) (Nat.le_of_ble_eq_true rfl) hs hd (fun H1 locs1 q => kk _ H1 locs1 hf q)
theorem ml_X8_80 : Cond.fieldLink RX8 80 RX4 (TX4 0).2.1 (TX4 0).2.2.1 ∈ TW := TW_of 98 (by decide +kernel) (by decide +kernel)
theorem xg_X8_80 (C : CX p s m args meth c cc RX8 nL ret Z g) (hW : XW Z h g s.heap H locs) {o : Nat} (hk : knd o = 4) (hd : decode cc pc = .ok (.getfield 80, 3)) (kk : W p l e R s m args below meth c H locs cells slots Q (F0 m (pc + 3) ls (.int (h o 0) :: rest))) : W p l e R s m args below meth c H locs cells slots Q (F0 m pc ls (.ref (Z.1 o) :: rest)) := x_get C hW (wk4 hk) rfl wsX4_in 0 (by decide) (ml_X8_80) rfl (v := .int (h o 0)) rfl hd kk
theorem xp_X8_80 (C : CX p s m args meth c cc RX8 nL ret Z g) (hW : XW Z h g s.heap H locs) {o : Nat} (hk : knd o = 4) {v : Int32} {α : Type} {K : Hp → Option α} {out : α} (hf : stp (up h o 0 v) K = some out) (hd : decode cc pc = .ok (.putfield 80, 3)) (kk : ∀ (h1 : Hp) (H1 : Heap) (locs1 : List Loc), K h1 = some out → XW Z h1 g s.heap H1 locs1 → W p l e R s m args below meth c H1 locs1 cells slots Q (F0 m (pc + 3) ls rest)) : W p l e R s m args below meth c H locs cells slots Q (F0 m pc ls (.int v :: .ref (Z.1 o) :: rest)) := by
  have hs : (wl Z h g).set o (Z.1 o, .inr (4, ([.int (h o 0), .int (h o 1), .int (h o 2), .ref (Z.1 (o + 1)), .int (h o 4), .ref (Z.1 (o + 2)), .ref (Z.1 (o + 3)), .ref (Z.1 (o + 4)), .ref (Z.1 (o + 5)), .ref (Z.1 (o + 6)), .int (h o 10), .ref (Z.1 (o + 7)), .ref (Z.1 (o + 8)), .int (h o 13), .ref (Z.1 (o + 9)), .ref (Z.1 (o + 10)), .ref (Z.1 (o + 11)), .ref (Z.1 (o + 12)), .ref (Z.1 (o + 13))]).set 0 (.int v))) = wl Z (up h o 0 v) g := by
    have h1 := k_lt hk (by decide)
    refine wl_set h1 ?_ mx_upl
    rw [up_eq]
    rw [cel_k hk]
    rfl
  exact x_put C hW (wk4 hk) rfl wsX4_in tyX4 tyX4_ok nmX4 0 (by decide) (ml_X8_80) rfl rfl (ty := .int) (by decide +kernel) (rfl) (rfl) (Nat.le_of_ble_eq_true rfl) hs hd (fun H1 locs1 q => kk _ H1 locs1 hf q)
theorem ml_X10_115 : Cond.fieldLink RX10 115 RX4 (TX4 0).2.1 (TX4 0).2.2.1 ∈ TW := TW_of 99 (by decide +kernel) (by decide +kernel)
theorem xg_X10_115 (C : CX p s m args meth c cc RX10 nL ret Z g) (hW : XW Z h g s.heap H locs) {o : Nat} (hk : knd o = 4) (hd : decode cc pc = .ok (.getfield 115, 3)) (kk : W p l e R s m args below meth c H locs cells slots Q (F0 m (pc + 3) ls (.int (h o 0) :: rest))) : W p l e R s m args below meth c H locs cells slots Q (F0 m pc ls (.ref (Z.1 o) :: rest)) := x_get C hW (wk4 hk) rfl wsX4_in 0 (by decide) (ml_X10_115) rfl (v := .int (h o 0)) rfl hd kk
theorem xp_X10_115 (C : CX p s m args meth c cc RX10 nL ret Z g) (hW : XW Z h g s.heap H locs) {o : Nat} (hk : knd o = 4) {v : Int32} {α : Type} {K : Hp → Option α} {out : α} (hf : stp (up h o 0 v) K = some out) (hd : decode cc pc = .ok (.putfield 115, 3)) (kk : ∀ (h1 : Hp) (H1 : Heap) (locs1 : List Loc), K h1 = some out → XW Z h1 g s.heap H1 locs1 → W p l e R s m args below meth c H1 locs1 cells slots Q (F0 m (pc + 3) ls rest)) : W p l e R s m args below meth c H locs cells slots Q (F0 m pc ls (.int v :: .ref (Z.1 o) :: rest)) := by
  have hs : (wl Z h g).set o (Z.1 o, .inr (4, ([.int (h o 0), .int (h o 1), .int (h o 2), .ref (Z.1 (o + 1)), .int (h o 4), .ref (Z.1 (o + 2)), .ref (Z.1 (o + 3)), .ref (Z.1 (o + 4)), .ref (Z.1 (o + 5)), .ref (Z.1 (o + 6)), .int (h o 10), .ref (Z.1 (o + 7)), .ref (Z.1 (o + 8)), .int (h o 13), .ref (Z.1 (o + 9)), .ref (Z.1 (o + 10)), .ref (Z.1 (o + 11)), .ref (Z.1 (o + 12)), .ref (Z.1 (o + 13))]).set 0 (.int v))) = wl Z (up h o 0 v) g := by
    have h1 := k_lt hk (by decide)
    refine wl_set h1 ?_ mx_upl
    rw [up_eq]
    rw [cel_k hk]
    rfl
  exact x_put C hW (wk4 hk) rfl wsX4_in tyX4 tyX4_ok nmX4 0 (by decide) (ml_X10_115) rfl rfl (ty := .int) (by decide +kernel) (rfl) (rfl) (Nat.le_of_ble_eq_true rfl) hs hd (fun H1 locs1 q => kk _ H1 locs1 hf q)
theorem ml_X4_15 : Cond.fieldLink RX4 15 RX4 (TX4 1).2.1 (TX4 1).2.2.1 ∈ TW := TW_of 100 (by decide +kernel) (by decide +kernel)
theorem xg_X4_15 (C : CX p s m args meth c cc RX4 nL ret Z g) (hW : XW Z h g s.heap H locs) {o : Nat} (hk : knd o = 4) (hd : decode cc pc = .ok (.getfield 15, 3)) (kk : W p l e R s m args below meth c H locs cells slots Q (F0 m (pc + 3) ls (.int (h o 1) :: rest))) : W p l e R s m args below meth c H locs cells slots Q (F0 m pc ls (.ref (Z.1 o) :: rest)) := x_get C hW (wk4 hk) rfl wsX4_in 1 (by decide) (ml_X4_15) rfl (v := .int (h o 1)) rfl hd kk
theorem xp_X4_15 (C : CX p s m args meth c cc RX4 nL ret Z g) (hW : XW Z h g s.heap H locs) {o : Nat} (hk : knd o = 4) {v : Int32} {α : Type} {K : Hp → Option α} {out : α} (hf : stp (up h o 1 v) K = some out) (hd : decode cc pc = .ok (.putfield 15, 3)) (kk : ∀ (h1 : Hp) (H1 : Heap) (locs1 : List Loc), K h1 = some out → XW Z h1 g s.heap H1 locs1 → W p l e R s m args below meth c H1 locs1 cells slots Q (F0 m (pc + 3) ls rest)) : W p l e R s m args below meth c H locs cells slots Q (F0 m pc ls (.int v :: .ref (Z.1 o) :: rest)) := by
  have hs : (wl Z h g).set o (Z.1 o, .inr (4, ([.int (h o 0), .int (h o 1), .int (h o 2), .ref (Z.1 (o + 1)), .int (h o 4), .ref (Z.1 (o + 2)), .ref (Z.1 (o + 3)), .ref (Z.1 (o + 4)), .ref (Z.1 (o + 5)), .ref (Z.1 (o + 6)), .int (h o 10), .ref (Z.1 (o + 7)), .ref (Z.1 (o + 8)), .int (h o 13), .ref (Z.1 (o + 9)), .ref (Z.1 (o + 10)), .ref (Z.1 (o + 11)), .ref (Z.1 (o + 12)), .ref (Z.1 (o + 13))]).set 1 (.int v))) = wl Z (up h o 1 v) g := by
    have h1 := k_lt hk (by decide)
    refine wl_set h1 ?_ mx_upl
    rw [up_eq]
    rw [cel_k hk]
    rfl
  exact x_put C hW (wk4 hk) rfl wsX4_in tyX4 tyX4_ok nmX4 1 (by decide) (ml_X4_15) rfl rfl (ty := .int) (by decide +kernel) (rfl) (rfl) (Nat.le_of_ble_eq_true rfl) hs hd (fun H1 locs1 q => kk _ H1 locs1 hf q)
theorem ml_X8_83 : Cond.fieldLink RX8 83 RX4 (TX4 1).2.1 (TX4 1).2.2.1 ∈ TW := TW_of 101 (by decide +kernel) (by decide +kernel)
theorem xg_X8_83 (C : CX p s m args meth c cc RX8 nL ret Z g) (hW : XW Z h g s.heap H locs) {o : Nat} (hk : knd o = 4) (hd : decode cc pc = .ok (.getfield 83, 3)) (kk : W p l e R s m args below meth c H locs cells slots Q (F0 m (pc + 3) ls (.int (h o 1) :: rest))) : W p l e R s m args below meth c H locs cells slots Q (F0 m pc ls (.ref (Z.1 o) :: rest)) := x_get C hW (wk4 hk) rfl wsX4_in 1 (by decide) (ml_X8_83) rfl (v := .int (h o 1)) rfl hd kk
theorem xp_X8_83 (C : CX p s m args meth c cc RX8 nL ret Z g) (hW : XW Z h g s.heap H locs) {o : Nat} (hk : knd o = 4) {v : Int32} {α : Type} {K : Hp → Option α} {out : α} (hf : stp (up h o 1 v) K = some out) (hd : decode cc pc = .ok (.putfield 83, 3)) (kk : ∀ (h1 : Hp) (H1 : Heap) (locs1 : List Loc), K h1 = some out → XW Z h1 g s.heap H1 locs1 → W p l e R s m args below meth c H1 locs1 cells slots Q (F0 m (pc + 3) ls rest)) : W p l e R s m args below meth c H locs cells slots Q (F0 m pc ls (.int v :: .ref (Z.1 o) :: rest)) := by
  have hs : (wl Z h g).set o (Z.1 o, .inr (4, ([.int (h o 0), .int (h o 1), .int (h o 2), .ref (Z.1 (o + 1)), .int (h o 4), .ref (Z.1 (o + 2)), .ref (Z.1 (o + 3)), .ref (Z.1 (o + 4)), .ref (Z.1 (o + 5)), .ref (Z.1 (o + 6)), .int (h o 10), .ref (Z.1 (o + 7)), .ref (Z.1 (o + 8)), .int (h o 13), .ref (Z.1 (o + 9)), .ref (Z.1 (o + 10)), .ref (Z.1 (o + 11)), .ref (Z.1 (o + 12)), .ref (Z.1 (o + 13))]).set 1 (.int v))) = wl Z (up h o 1 v) g := by
    have h1 := k_lt hk (by decide)
    refine wl_set h1 ?_ mx_upl
    rw [up_eq]
    rw [cel_k hk]
    rfl
  exact x_put C hW (wk4 hk) rfl wsX4_in tyX4 tyX4_ok nmX4 1 (by decide) (ml_X8_83) rfl rfl (ty := .int) (by decide +kernel) (rfl) (rfl) (Nat.le_of_ble_eq_true rfl) hs hd (fun H1 locs1 q => kk _ H1 locs1 hf q)
theorem ml_X10_125 : Cond.fieldLink RX10 125 RX4 (TX4 1).2.1 (TX4 1).2.2.1 ∈ TW := TW_of 102 (by decide +kernel) (by decide +kernel)
theorem xg_X10_125 (C : CX p s m args meth c cc RX10 nL ret Z g) (hW : XW Z h g s.heap H locs) {o : Nat} (hk : knd o = 4) (hd : decode cc pc = .ok (.getfield 125, 3)) (kk : W p l e R s m args below meth c H locs cells slots Q (F0 m (pc + 3) ls (.int (h o 1) :: rest))) : W p l e R s m args below meth c H locs cells slots Q (F0 m pc ls (.ref (Z.1 o) :: rest)) := x_get C hW (wk4 hk) rfl wsX4_in 1 (by decide) (ml_X10_125) rfl (v := .int (h o 1)) rfl hd kk
theorem xp_X10_125 (C : CX p s m args meth c cc RX10 nL ret Z g) (hW : XW Z h g s.heap H locs) {o : Nat} (hk : knd o = 4) {v : Int32} {α : Type} {K : Hp → Option α} {out : α} (hf : stp (up h o 1 v) K = some out) (hd : decode cc pc = .ok (.putfield 125, 3)) (kk : ∀ (h1 : Hp) (H1 : Heap) (locs1 : List Loc), K h1 = some out → XW Z h1 g s.heap H1 locs1 → W p l e R s m args below meth c H1 locs1 cells slots Q (F0 m (pc + 3) ls rest)) : W p l e R s m args below meth c H locs cells slots Q (F0 m pc ls (.int v :: .ref (Z.1 o) :: rest)) := by
  have hs : (wl Z h g).set o (Z.1 o, .inr (4, ([.int (h o 0), .int (h o 1), .int (h o 2), .ref (Z.1 (o + 1)), .int (h o 4), .ref (Z.1 (o + 2)), .ref (Z.1 (o + 3)), .ref (Z.1 (o + 4)), .ref (Z.1 (o + 5)), .ref (Z.1 (o + 6)), .int (h o 10), .ref (Z.1 (o + 7)), .ref (Z.1 (o + 8)), .int (h o 13), .ref (Z.1 (o + 9)), .ref (Z.1 (o + 10)), .ref (Z.1 (o + 11)), .ref (Z.1 (o + 12)), .ref (Z.1 (o + 13))]).set 1 (.int v))) = wl Z (up h o 1 v) g := by
    have h1 := k_lt hk (by decide)
    refine wl_set h1 ?_ mx_upl
    rw [up_eq]
    rw [cel_k hk]
    rfl
  exact x_put C hW (wk4 hk) rfl wsX4_in tyX4 tyX4_ok nmX4 1 (by decide) (ml_X10_125) rfl rfl (ty := .int) (by decide +kernel) (rfl) (rfl) (Nat.le_of_ble_eq_true rfl) hs hd (fun H1 locs1 q => kk _ H1 locs1 hf q)
theorem ml_X1_170 : Cond.fieldLink RX1 170 RX4 (TX4 1).2.1 (TX4 1).2.2.1 ∈ TW := TW_of 103 (by decide +kernel) (by decide +kernel)
theorem xg_X1_170 (C : CX p s m args meth c cc RX1 nL ret Z g) (hW : XW Z h g s.heap H locs) {o : Nat} (hk : knd o = 4) (hd : decode cc pc = .ok (.getfield 170, 3)) (kk : W p l e R s m args below meth c H locs cells slots Q (F0 m (pc + 3) ls (.int (h o 1) :: rest))) : W p l e R s m args below meth c H locs cells slots Q (F0 m pc ls (.ref (Z.1 o) :: rest)) := x_get C hW (wk4 hk) rfl wsX4_in 1 (by decide) (ml_X1_170) rfl (v := .int (h o 1)) rfl hd kk
theorem xp_X1_170 (C : CX p s m args meth c cc RX1 nL ret Z g) (hW : XW Z h g s.heap H locs) {o : Nat} (hk : knd o = 4) {v : Int32} {α : Type} {K : Hp → Option α} {out : α} (hf : stp (up h o 1 v) K = some out) (hd : decode cc pc = .ok (.putfield 170, 3)) (kk : ∀ (h1 : Hp) (H1 : Heap) (locs1 : List Loc), K h1 = some out → XW Z h1 g s.heap H1 locs1 → W p l e R s m args below meth c H1 locs1 cells slots Q (F0 m (pc + 3) ls rest)) : W p l e R s m args below meth c H locs cells slots Q (F0 m pc ls (.int v :: .ref (Z.1 o) :: rest)) := by
  have hs : (wl Z h g).set o (Z.1 o, .inr (4, ([.int (h o 0), .int (h o 1), .int (h o 2), .ref (Z.1 (o + 1)), .int (h o 4), .ref (Z.1 (o + 2)), .ref (Z.1 (o + 3)), .ref (Z.1 (o + 4)), .ref (Z.1 (o + 5)), .ref (Z.1 (o + 6)), .int (h o 10), .ref (Z.1 (o + 7)), .ref (Z.1 (o + 8)), .int (h o 13), .ref (Z.1 (o + 9)), .ref (Z.1 (o + 10)), .ref (Z.1 (o + 11)), .ref (Z.1 (o + 12)), .ref (Z.1 (o + 13))]).set 1 (.int v))) = wl Z (up h o 1 v) g := by
    have h1 := k_lt hk (by decide)
    refine wl_set h1 ?_ mx_upl
    rw [up_eq]
    rw [cel_k hk]
    rfl
  exact x_put C hW (wk4 hk) rfl wsX4_in tyX4 tyX4_ok nmX4 1 (by decide) (ml_X1_170) rfl rfl (ty := .int) (by decide +kernel) (rfl) (rfl) (Nat.le_of_ble_eq_true rfl) hs hd (fun H1 locs1 q => kk _ H1 locs1 hf q)
theorem ml_X4_59 : Cond.fieldLink RX4 59 RX4 (TX4 2).2.1 (TX4 2).2.2.1 ∈ TW := TW_of 104 (by decide +kernel) (by decide +kernel)
theorem xg_X4_59 (C : CX p s m args meth c cc RX4 nL ret Z g) (hW : XW Z h g s.heap H locs) {o : Nat} (hk : knd o = 4) (hd : decode cc pc = .ok (.getfield 59, 3)) (kk : W p l e R s m args below meth c H locs cells slots Q (F0 m (pc + 3) ls (.int (h o 2) :: rest))) : W p l e R s m args below meth c H locs cells slots Q (F0 m pc ls (.ref (Z.1 o) :: rest)) := x_get C hW (wk4 hk) rfl wsX4_in 2 (by decide) (ml_X4_59) rfl (v := .int (h o 2)) rfl hd kk
theorem xp_X4_59 (C : CX p s m args meth c cc RX4 nL ret Z g) (hW : XW Z h g s.heap H locs) {o : Nat} (hk : knd o = 4) {v : Int32} {α : Type} {K : Hp → Option α} {out : α} (hf : stp (up h o 2 v) K = some out) (hd : decode cc pc = .ok (.putfield 59, 3)) (kk : ∀ (h1 : Hp) (H1 : Heap) (locs1 : List Loc), K h1 = some out → XW Z h1 g s.heap H1 locs1 → W p l e R s m args below meth c H1 locs1 cells slots Q (F0 m (pc + 3) ls rest)) : W p l e R s m args below meth c H locs cells slots Q (F0 m pc ls (.int v :: .ref (Z.1 o) :: rest)) := by
  have hs : (wl Z h g).set o (Z.1 o, .inr (4, ([.int (h o 0), .int (h o 1), .int (h o 2), .ref (Z.1 (o + 1)), .int (h o 4), .ref (Z.1 (o + 2)), .ref (Z.1 (o + 3)), .ref (Z.1 (o + 4)), .ref (Z.1 (o + 5)), .ref (Z.1 (o + 6)), .int (h o 10), .ref (Z.1 (o + 7)), .ref (Z.1 (o + 8)), .int (h o 13), .ref (Z.1 (o + 9)), .ref (Z.1 (o + 10)), .ref (Z.1 (o + 11)), .ref (Z.1 (o + 12)), .ref (Z.1 (o + 13))]).set 2 (.int v))) = wl Z (up h o 2 v) g := by
    have h1 := k_lt hk (by decide)
    refine wl_set h1 ?_ mx_upl
    rw [up_eq]
    rw [cel_k hk]
    rfl
  exact x_put C hW (wk4 hk) rfl wsX4_in tyX4 tyX4_ok nmX4 2 (by decide) (ml_X4_59) rfl rfl (ty := .int) (by decide +kernel) (rfl) (rfl) (Nat.le_of_ble_eq_true rfl) hs hd (fun H1 locs1 q => kk _ H1 locs1 hf q)
theorem ml_X8_85 : Cond.fieldLink RX8 85 RX4 (TX4 2).2.1 (TX4 2).2.2.1 ∈ TW := TW_of 105 (by decide +kernel) (by decide +kernel)
theorem xg_X8_85 (C : CX p s m args meth c cc RX8 nL ret Z g) (hW : XW Z h g s.heap H locs) {o : Nat} (hk : knd o = 4) (hd : decode cc pc = .ok (.getfield 85, 3)) (kk : W p l e R s m args below meth c H locs cells slots Q (F0 m (pc + 3) ls (.int (h o 2) :: rest))) : W p l e R s m args below meth c H locs cells slots Q (F0 m pc ls (.ref (Z.1 o) :: rest)) := x_get C hW (wk4 hk) rfl wsX4_in 2 (by decide) (ml_X8_85) rfl (v := .int (h o 2)) rfl hd kk
theorem xp_X8_85 (C : CX p s m args meth c cc RX8 nL ret Z g) (hW : XW Z h g s.heap H locs) {o : Nat} (hk : knd o = 4) {v : Int32} {α : Type} {K : Hp → Option α} {out : α} (hf : stp (up h o 2 v) K = some out) (hd : decode cc pc = .ok (.putfield 85, 3)) (kk : ∀ (h1 : Hp) (H1 : Heap) (locs1 : List Loc), K h1 = some out → XW Z h1 g s.heap H1 locs1 → W p l e R s m args below meth c H1 locs1 cells slots Q (F0 m (pc + 3) ls rest)) : W p l e R s m args below meth c H locs cells slots Q (F0 m pc ls (.int v :: .ref (Z.1 o) :: rest)) := by
  have hs : (wl Z h g).set o (Z.1 o, .inr (4, ([.int (h o 0), .int (h o 1), .int (h o 2), .ref (Z.1 (o + 1)), .int (h o 4), .ref (Z.1 (o + 2)), .ref (Z.1 (o + 3)), .ref (Z.1 (o + 4)), .ref (Z.1 (o + 5)), .ref (Z.1 (o + 6)), .int (h o 10), .ref (Z.1 (o + 7)), .ref (Z.1 (o + 8)), .int (h o 13), .ref (Z.1 (o + 9)), .ref (Z.1 (o + 10)), .ref (Z.1 (o + 11)), .ref (Z.1 (o + 12)), .ref (Z.1 (o + 13))]).set 2 (.int v))) = wl Z (up h o 2 v) g := by
    have h1 := k_lt hk (by decide)
    refine wl_set h1 ?_ mx_upl
    rw [up_eq]
    rw [cel_k hk]
    rfl
  exact x_put C hW (wk4 hk) rfl wsX4_in tyX4 tyX4_ok nmX4 2 (by decide) (ml_X8_85) rfl rfl (ty := .int) (by decide +kernel) (rfl) (rfl) (Nat.le_of_ble_eq_true rfl) hs hd (fun H1 locs1 q => kk _ H1 locs1 hf q)
theorem ml_X10_116 : Cond.fieldLink RX10 116 RX4 (TX4 2).2.1 (TX4 2).2.2.1 ∈ TW := TW_of 106 (by decide +kernel) (by decide +kernel)
theorem xg_X10_116 (C : CX p s m args meth c cc RX10 nL ret Z g) (hW : XW Z h g s.heap H locs) {o : Nat} (hk : knd o = 4) (hd : decode cc pc = .ok (.getfield 116, 3)) (kk : W p l e R s m args below meth c H locs cells slots Q (F0 m (pc + 3) ls (.int (h o 2) :: rest))) : W p l e R s m args below meth c H locs cells slots Q (F0 m pc ls (.ref (Z.1 o) :: rest)) := x_get C hW (wk4 hk) rfl wsX4_in 2 (by decide) (ml_X10_116) rfl (v := .int (h o 2)) rfl hd kk
theorem xp_X10_116 (C : CX p s m args meth c cc RX10 nL ret Z g) (hW : XW Z h g s.heap H locs) {o : Nat} (hk : knd o = 4) {v : Int32} {α : Type} {K : Hp → Option α} {out : α} (hf : stp (up h o 2 v) K = some out) (hd : decode cc pc = .ok (.putfield 116, 3)) (kk : ∀ (h1 : Hp) (H1 : Heap) (locs1 : List Loc), K h1 = some out → XW Z h1 g s.heap H1 locs1 → W p l e R s m args below meth c H1 locs1 cells slots Q (F0 m (pc + 3) ls rest)) : W p l e R s m args below meth c H locs cells slots Q (F0 m pc ls (.int v :: .ref (Z.1 o) :: rest)) := by
  have hs : (wl Z h g).set o (Z.1 o, .inr (4, ([.int (h o 0), .int (h o 1), .int (h o 2), .ref (Z.1 (o + 1)), .int (h o 4), .ref (Z.1 (o + 2)), .ref (Z.1 (o + 3)), .ref (Z.1 (o + 4)), .ref (Z.1 (o + 5)), .ref (Z.1 (o + 6)), .int (h o 10), .ref (Z.1 (o + 7)), .ref (Z.1 (o + 8)), .int (h o 13), .ref (Z.1 (o + 9)), .ref (Z.1 (o + 10)), .ref (Z.1 (o + 11)), .ref (Z.1 (o + 12)), .ref (Z.1 (o + 13))]).set 2 (.int v))) = wl Z (up h o 2 v) g := by
    have h1 := k_lt hk (by decide)
    refine wl_set h1 ?_ mx_upl
    rw [up_eq]
    rw [cel_k hk]
    rfl
  exact x_put C hW (wk4 hk) rfl wsX4_in tyX4 tyX4_ok nmX4 2 (by decide) (ml_X10_116) rfl rfl (ty := .int) (by decide +kernel) (rfl) (rfl) (Nat.le_of_ble_eq_true rfl) hs hd (fun H1 locs1 q => kk _ H1 locs1 hf q)
theorem ml_X4_18 : Cond.fieldLink RX4 18 RX4 (TX4 3).2.1 (TX4 3).2.2.1 ∈ TW := TW_of 107 (by decide +kernel) (by decide +kernel)
theorem xg_X4_18 (C : CX p s m args meth c cc RX4 nL ret Z g) (hW : XW Z h g s.heap H locs) {o : Nat} (hk : knd o = 4) (hd : decode cc pc = .ok (.getfield 18, 3)) (kk : W p l e R s m args below meth c H locs cells slots Q (F0 m (pc + 3) ls (.ref (Z.1 (o + 1)) :: rest))) : W p l e R s m args below meth c H locs cells slots Q (F0 m pc ls (.ref (Z.1 o) :: rest)) := x_get C hW (wk4 hk) rfl wsX4_in 3 (by decide) (ml_X4_18) rfl (v := .ref (Z.1 (o + 1))) rfl hd kk
theorem ml_X4_62 : Cond.fieldLink RX4 62 RX4 (TX4 4).2.1 (TX4 4).2.2.1 ∈ TW := TW_of 108 (by decide +kernel) (by decide +kernel)
theorem xg_X4_62 (C : CX p s m args meth c cc RX4 nL ret Z g) (hW : XW Z h g s.heap H locs) {o : Nat} (hk : knd o = 4) (hd : decode cc pc = .ok (.getfield 62, 3)) (kk : W p l e R s m args below meth c H locs cells slots Q (F0 m (pc + 3) ls (.int (h o 4) :: rest))) : W p l e R s m args below meth c H locs cells slots Q (F0 m pc ls (.ref (Z.1 o) :: rest)) := x_get C hW (wk4 hk) rfl wsX4_in 4 (by decide) (ml_X4_62) rfl (v := .int (h o 4)) rfl hd kk
theorem xp_X4_62 (C : CX p s m args meth c cc RX4 nL ret Z g) (hW : XW Z h g s.heap H locs) {o : Nat} (hk : knd o = 4) {v : Int32} {α : Type} {K : Hp → Option α} {out : α} (hf : stp (up h o 4 v) K = some out) (hd : decode cc pc = .ok (.putfield 62, 3)) (kk : ∀ (h1 : Hp) (H1 : Heap) (locs1 : List Loc), K h1 = some out → XW Z h1 g s.heap H1 locs1 → W p l e R s m args below meth c H1 locs1 cells slots Q (F0 m (pc + 3) ls rest)) : W p l e R s m args below meth c H locs cells slots Q (F0 m pc ls (.int v :: .ref (Z.1 o) :: rest)) := by
  have hs : (wl Z h g).set o (Z.1 o, .inr (4, ([.int (h o 0), .int (h o 1), .int (h o 2), .ref (Z.1 (o + 1)), .int (h o 4), .ref (Z.1 (o + 2)), .ref (Z.1 (o + 3)), .ref (Z.1 (o + 4)), .ref (Z.1 (o + 5)), .ref (Z.1 (o + 6)), .int (h o 10), .ref (Z.1 (o + 7)), .ref (Z.1 (o + 8)), .int (h o 13), .ref (Z.1 (o + 9)), .ref (Z.1 (o + 10)), .ref (Z.1 (o + 11)), .ref (Z.1 (o + 12)), .ref (Z.1 (o + 13))]).set 4 (.int v))) = wl Z (up h o 4 v) g := by
    have h1 := k_lt hk (by decide)
    refine wl_set h1 ?_ mx_upl
    rw [up_eq]
    rw [cel_k hk]
    rfl
  exact x_put C hW (wk4 hk) rfl wsX4_in tyX4 tyX4_ok nmX4 4 (by decide) (ml_X4_62) rfl rfl (ty := .int) (by decide +kernel) (rfl) (rfl) (Nat.le_of_ble_eq_true rfl) hs hd (fun H1 locs1 q => kk _ H1 locs1 hf q)
theorem ml_X10_89 : Cond.fieldLink RX10 89 RX4 (TX4 4).2.1 (TX4 4).2.2.1 ∈ TW := TW_of 109 (by decide +kernel) (by decide +kernel)
theorem xg_X10_89 (C : CX p s m args meth c cc RX10 nL ret Z g) (hW : XW Z h g s.heap H locs) {o : Nat} (hk : knd o = 4) (hd : decode cc pc = .ok (.getfield 89, 3)) (kk : W p l e R s m args below meth c H locs cells slots Q (F0 m (pc + 3) ls (.int (h o 4) :: rest))) : W p l e R s m args below meth c H locs cells slots Q (F0 m pc ls (.ref (Z.1 o) :: rest)) := x_get C hW (wk4 hk) rfl wsX4_in 4 (by decide) (ml_X10_89) rfl (v := .int (h o 4)) rfl hd kk
theorem xp_X10_89 (C : CX p s m args meth c cc RX10 nL ret Z g) (hW : XW Z h g s.heap H locs) {o : Nat} (hk : knd o = 4) {v : Int32} {α : Type} {K : Hp → Option α} {out : α} (hf : stp (up h o 4 v) K = some out) (hd : decode cc pc = .ok (.putfield 89, 3)) (kk : ∀ (h1 : Hp) (H1 : Heap) (locs1 : List Loc), K h1 = some out → XW Z h1 g s.heap H1 locs1 → W p l e R s m args below meth c H1 locs1 cells slots Q (F0 m (pc + 3) ls rest)) : W p l e R s m args below meth c H locs cells slots Q (F0 m pc ls (.int v :: .ref (Z.1 o) :: rest)) := by
  have hs : (wl Z h g).set o (Z.1 o, .inr (4, ([.int (h o 0), .int (h o 1), .int (h o 2), .ref (Z.1 (o + 1)), .int (h o 4), .ref (Z.1 (o + 2)), .ref (Z.1 (o + 3)), .ref (Z.1 (o + 4)), .ref (Z.1 (o + 5)), .ref (Z.1 (o + 6)), .int (h o 10), .ref (Z.1 (o + 7)), .ref (Z.1 (o + 8)), .int (h o 13), .ref (Z.1 (o + 9)), .ref (Z.1 (o + 10)), .ref (Z.1 (o + 11)), .ref (Z.1 (o + 12)), .ref (Z.1 (o + 13))]).set 4 (.int v))) = wl Z (up h o 4 v) g := by
    have h1 := k_lt hk (by decide)
    refine wl_set h1 ?_ mx_upl
    rw [up_eq]
    rw [cel_k hk]
    rfl
  exact x_put C hW (wk4 hk) rfl wsX4_in tyX4 tyX4_ok nmX4 4 (by decide) (ml_X10_89) rfl rfl (ty := .int) (by decide +kernel) (rfl) (rfl) (Nat.le_of_ble_eq_true rfl) hs hd (fun H1 locs1 q => kk _ H1 locs1 hf q)
theorem ml_X8_100 : Cond.fieldLink RX8 100 RX4 (TX4 4).2.1 (TX4 4).2.2.1 ∈ TW := TW_of 110 (by decide +kernel) (by decide +kernel)
theorem xg_X8_100 (C : CX p s m args meth c cc RX8 nL ret Z g) (hW : XW Z h g s.heap H locs) {o : Nat} (hk : knd o = 4) (hd : decode cc pc = .ok (.getfield 100, 3)) (kk : W p l e R s m args below meth c H locs cells slots Q (F0 m (pc + 3) ls (.int (h o 4) :: rest))) : W p l e R s m args below meth c H locs cells slots Q (F0 m pc ls (.ref (Z.1 o) :: rest)) := x_get C hW (wk4 hk) rfl wsX4_in 4 (by decide) (ml_X8_100) rfl (v := .int (h o 4)) rfl hd kk
theorem xp_X8_100 (C : CX p s m args meth c cc RX8 nL ret Z g) (hW : XW Z h g s.heap H locs) {o : Nat} (hk : knd o = 4) {v : Int32} {α : Type} {K : Hp → Option α} {out : α} (hf : stp (up h o 4 v) K = some out) (hd : decode cc pc = .ok (.putfield 100, 3)) (kk : ∀ (h1 : Hp) (H1 : Heap) (locs1 : List Loc), K h1 = some out → XW Z h1 g s.heap H1 locs1 → W p l e R s m args below meth c H1 locs1 cells slots Q (F0 m (pc + 3) ls rest)) : W p l e R s m args below meth c H locs cells slots Q (F0 m pc ls (.int v :: .ref (Z.1 o) :: rest)) := by
  have hs : (wl Z h g).set o (Z.1 o, .inr (4, ([.int (h o 0), .int (h o 1), .int (h o 2), .ref (Z.1 (o + 1)), .int (h o 4), .ref (Z.1 (o + 2)), .ref (Z.1 (o + 3)), .ref (Z.1 (o + 4)), .ref (Z.1 (o + 5)), .ref (Z.1 (o + 6)), .int (h o 10), .ref (Z.1 (o + 7)), .ref (Z.1 (o + 8)), .int (h o 13), .ref (Z.1 (o + 9)), .ref (Z.1 (o + 10)), .ref (Z.1 (o + 11)), .ref (Z.1 (o + 12)), .ref (Z.1 (o + 13))]).set 4 (.int v))) = wl Z (up h o 4 v) g := by
    have h1 := k_lt hk (by decide)
    refine wl_set h1 ?_ mx_upl
    rw [up_eq]
    rw [cel_k hk]
    rfl
  exact x_put C hW (wk4 hk) rfl wsX4_in tyX4 tyX4_ok nmX4 4 (by decide) (ml_X8_100) rfl rfl (ty := .int) (by decide +kernel) (rfl) (rfl) (Nat.le_of_ble_eq_true rfl) hs hd (fun H1 locs1 q => kk _ H1 locs1 hf q)
theorem ml_X1_160 : Cond.fieldLink RX1 160 RX4 (TX4 4).2.1 (TX4 4).2.2.1 ∈ TW := TW_of 111 (by decide +kernel) (by decide +kernel)
theorem xg_X1_160 (C : CX p s m args meth c cc RX1 nL ret Z g) (hW : XW Z h g s.heap H locs) {o : Nat} (hk : knd o = 4) (hd : decode cc pc = .ok (.getfield 160, 3)) (kk : W p l e R s m args below meth c H locs cells slots Q (F0 m (pc + 3) ls (.int (h o 4) :: rest))) : W p l e R s m args below meth c H locs cells slots Q (F0 m pc ls (.ref (Z.1 o) :: rest)) := x_get C hW (wk4 hk) rfl wsX4_in 4 (by decide) (ml_X1_160) rfl (v := .int (h o 4)) rfl hd kk
theorem xp_X1_160 (C : CX p s m args meth c cc RX1 nL ret Z g) (hW : XW Z h g s.heap H locs) {o : Nat} (hk : knd o = 4) {v : Int32} {α : Type} {K : Hp → Option α} {out : α} (hf : stp (up h o 4 v) K = some out) (hd : decode cc pc = .ok (.putfield 160, 3)) (kk : ∀ (h1 : Hp) (H1 : Heap) (locs1 : List Loc), K h1 = some out → XW Z h1 g s.heap H1 locs1 → W p l e R s m args below meth c H1 locs1 cells slots Q (F0 m (pc + 3) ls rest)) : W p l e R s m args below meth c H locs cells slots Q (F0 m pc ls (.int v :: .ref (Z.1 o) :: rest)) := by
  have hs : (wl Z h g).set o (Z.1 o, .inr (4, ([.int (h o 0), .int (h o 1), .int (h o 2), .ref (Z.1 (o + 1)), .int (h o 4), .ref (Z.1 (o + 2)), .ref (Z.1 (o + 3)), .ref (Z.1 (o + 4)), .ref (Z.1 (o + 5)), .ref (Z.1 (o + 6)), .int (h o 10), .ref (Z.1 (o + 7)), .ref (Z.1 (o + 8)), .int (h o 13), .ref (Z.1 (o + 9)), .ref (Z.1 (o + 10)), .ref (Z.1 (o + 11)), .ref (Z.1 (o + 12)), .ref (Z.1 (o + 13))]).set 4 (.int v))) = wl Z (up h o 4 v) g := by
    have h1 := k_lt hk (by decide)
    refine wl_set h1 ?_ mx_upl
    rw [up_eq]
    rw [cel_k hk]
    rfl
  exact x_put C hW (wk4 hk) rfl wsX4_in tyX4 tyX4_ok nmX4 4 (by decide) (ml_X1_160) rfl rfl (ty := .int) (by decide +kernel) (rfl) (rfl) (Nat.le_of_ble_eq_true rfl) hs hd (fun H1 locs1 q => kk _ H1 locs1 hf q)
theorem ml_X4_22 : Cond.fieldLink RX4 22 RX4 (TX4 5).2.1 (TX4 5).2.2.1 ∈ TW := TW_of 112 (by decide +kernel) (by decide +kernel)
theorem xg_X4_22 (C : CX p s m args meth c cc RX4 nL ret Z g) (hW : XW Z h g s.heap H locs) {o : Nat} (hk : knd o = 4) (hd : decode cc pc = .ok (.getfield 22, 3)) (kk : W p l e R s m args below meth c H locs cells slots Q (F0 m (pc + 3) ls (.ref (Z.1 (o + 2)) :: rest))) : W p l e R s m args below meth c H locs cells slots Q (F0 m pc ls (.ref (Z.1 o) :: rest)) := x_get C hW (wk4 hk) rfl wsX4_in 5 (by decide) (ml_X4_22) rfl (v := .ref (Z.1 (o + 2))) rfl hd kk
theorem ml_X1_142 : Cond.fieldLink RX1 142 RX4 (TX4 5).2.1 (TX4 5).2.2.1 ∈ TW := TW_of 113 (by decide +kernel) (by decide +kernel)
theorem xg_X1_142 (C : CX p s m args meth c cc RX1 nL ret Z g) (hW : XW Z h g s.heap H locs) {o : Nat} (hk : knd o = 4) (hd : decode cc pc = .ok (.getfield 142, 3)) (kk : W p l e R s m args below meth c H locs cells slots Q (F0 m (pc + 3) ls (.ref (Z.1 (o + 2)) :: rest))) : W p l e R s m args below meth c H locs cells slots Q (F0 m pc ls (.ref (Z.1 o) :: rest)) := x_get C hW (wk4 hk) rfl wsX4_in 5 (by decide) (ml_X1_142) rfl (v := .ref (Z.1 (o + 2))) rfl hd kk
theorem ml_X4_25 : Cond.fieldLink RX4 25 RX4 (TX4 6).2.1 (TX4 6).2.2.1 ∈ TW := TW_of 114 (by decide +kernel) (by decide +kernel)
theorem xg_X4_25 (C : CX p s m args meth c cc RX4 nL ret Z g) (hW : XW Z h g s.heap H locs) {o : Nat} (hk : knd o = 4) (hd : decode cc pc = .ok (.getfield 25, 3)) (kk : W p l e R s m args below meth c H locs cells slots Q (F0 m (pc + 3) ls (.ref (Z.1 (o + 3)) :: rest))) : W p l e R s m args below meth c H locs cells slots Q (F0 m pc ls (.ref (Z.1 o) :: rest)) := x_get C hW (wk4 hk) rfl wsX4_in 6 (by decide) (ml_X4_25) rfl (v := .ref (Z.1 (o + 3))) rfl hd kk
theorem ml_X10_131 : Cond.fieldLink RX10 131 RX4 (TX4 6).2.1 (TX4 6).2.2.1 ∈ TW := TW_of 115 (by decide +kernel) (by decide +kernel)
theorem xg_X10_131 (C : CX p s m args meth c cc RX10 nL ret Z g) (hW : XW Z h g s.heap H locs) {o : Nat} (hk : knd o = 4) (hd : decode cc pc = .ok (.getfield 131, 3)) (kk : W p l e R s m args below meth c H locs cells slots Q (F0 m (pc + 3) ls (.ref (Z.1 (o + 3)) :: rest))) : W p l e R s m args below meth c H locs cells slots Q (F0 m pc ls (.ref (Z.1 o) :: rest)) := x_get C hW (wk4 hk) rfl wsX4_in 6 (by decide) (ml_X10_131) rfl (v := .ref (Z.1 (o + 3))) rfl hd kk
theorem ml_X1_135 : Cond.fieldLink RX1 135 RX4 (TX4 6).2.1 (TX4 6).2.2.1 ∈ TW := TW_of 116 (by decide +kernel) (by decide +kernel)
theorem xg_X1_135 (C : CX p s m args meth c cc RX1 nL ret Z g) (hW : XW Z h g s.heap H locs) {o : Nat} (hk : knd o = 4) (hd : decode cc pc = .ok (.getfield 135, 3)) (kk : W p l e R s m args below meth c H locs cells slots Q (F0 m (pc + 3) ls (.ref (Z.1 (o + 3)) :: rest))) : W p l e R s m args below meth c H locs cells slots Q (F0 m pc ls (.ref (Z.1 o) :: rest)) := x_get C hW (wk4 hk) rfl wsX4_in 6 (by decide) (ml_X1_135) rfl (v := .ref (Z.1 (o + 3))) rfl hd kk
theorem ml_X4_28 : Cond.fieldLink RX4 28 RX4 (TX4 7).2.1 (TX4 7).2.2.1 ∈ TW := TW_of 117 (by decide +kernel) (by decide +kernel)
theorem xg_X4_28 (C : CX p s m args meth c cc RX4 nL ret Z g) (hW : XW Z h g s.heap H locs) {o : Nat} (hk : knd o = 4) (hd : decode cc pc = .ok (.getfield 28, 3)) (kk : W p l e R s m args below meth c H locs cells slots Q (F0 m (pc + 3) ls (.ref (Z.1 (o + 4)) :: rest))) : W p l e R s m args below meth c H locs cells slots Q (F0 m pc ls (.ref (Z.1 o) :: rest)) := x_get C hW (wk4 hk) rfl wsX4_in 7 (by decide) (ml_X4_28) rfl (v := .ref (Z.1 (o + 4))) rfl hd kk
theorem ml_X1_115 : Cond.fieldLink RX1 115 RX4 (TX4 7).2.1 (TX4 7).2.2.1 ∈ TW := TW_of 118 (by decide +kernel) (by decide +kernel)
theorem xg_X1_115 (C : CX p s m args meth c cc RX1 nL ret Z g) (hW : XW Z h g s.heap H locs) {o : Nat} (hk : knd o = 4) (hd : decode cc pc = .ok (.getfield 115, 3)) (kk : W p l e R s m args below meth c H locs cells slots Q (F0 m (pc + 3) ls (.ref (Z.1 (o + 4)) :: rest))) : W p l e R s m args below meth c H locs cells slots Q (F0 m pc ls (.ref (Z.1 o) :: rest)) := x_get C hW (wk4 hk) rfl wsX4_in 7 (by decide) (ml_X1_115) rfl (v := .ref (Z.1 (o + 4))) rfl hd kk
theorem ml_X10_135 : Cond.fieldLink RX10 135 RX4 (TX4 7).2.1 (TX4 7).2.2.1 ∈ TW := TW_of 119 (by decide +kernel) (by decide +kernel)
theorem xg_X10_135 (C : CX p s m args meth c cc RX10 nL ret Z g) (hW : XW Z h g s.heap H locs) {o : Nat} (hk : knd o = 4) (hd : decode cc pc = .ok (.getfield 135, 3)) (kk : W p l e R s m args below meth c H locs cells slots Q (F0 m (pc + 3) ls (.ref (Z.1 (o + 4)) :: rest))) : W p l e R s m args below meth c H locs cells slots Q (F0 m pc ls (.ref (Z.1 o) :: rest)) := x_get C hW (wk4 hk) rfl wsX4_in 7 (by decide) (ml_X10_135) rfl (v := .ref (Z.1 (o + 4))) rfl hd kk
theorem ml_X4_31 : Cond.fieldLink RX4 31 RX4 (TX4 8).2.1 (TX4 8).2.2.1 ∈ TW := TW_of 120 (by decide +kernel) (by decide +kernel)
theorem xg_X4_31 (C : CX p s m args meth c cc RX4 nL ret Z g) (hW : XW Z h g s.heap H locs) {o : Nat} (hk : knd o = 4) (hd : decode cc pc = .ok (.getfield 31, 3)) (kk : W p l e R s m args below meth c H locs cells slots Q (F0 m (pc + 3) ls (.ref (Z.1 (o + 5)) :: rest))) : W p l e R s m args below meth c H locs cells slots Q (F0 m pc ls (.ref (Z.1 o) :: rest)) := x_get C hW (wk4 hk) rfl wsX4_in 8 (by decide) (ml_X4_31) rfl (v := .ref (Z.1 (o + 5))) rfl hd kk
theorem ml_X1_123 : Cond.fieldLink RX1 123 RX4 (TX4 8).2.1 (TX4 8).2.2.1 ∈ TW := TW_of 121 (by decide +kernel) (by decide +kernel)
theorem xg_X1_123 (C : CX p s m args meth c cc RX1 nL ret Z g) (hW : XW Z h g s.heap H locs) {o : Nat} (hk : knd o = 4) (hd : decode cc pc = .ok (.getfield 123, 3)) (kk : W p l e R s m args below meth c H locs cells slots Q (F0 m (pc + 3) ls (.ref (Z.1 (o + 5)) :: rest))) : W p l e R s m args below meth c H locs cells slots Q (F0 m pc ls (.ref (Z.1 o) :: rest)) := x_get C hW (wk4 hk) rfl wsX4_in 8 (by decide) (ml_X1_123) rfl (v := .ref (Z.1 (o + 5))) rfl hd kk
theorem ml_X10_138 : Cond.fieldLink RX10 138 RX4 (TX4 8).2.1 (TX4 8).2.2.1 ∈ TW := TW_of 122 (by decide +kernel) (by decide +kernel)
theorem xg_X10_138 (C : CX p s m args meth c cc RX10 nL ret Z g) (hW : XW Z h g s.heap H locs) {o : Nat} (hk : knd o = 4) (hd : decode cc pc = .ok (.getfield 138, 3)) (kk : W p l e R s m args below meth c H locs cells slots Q (F0 m (pc + 3) ls (.ref (Z.1 (o + 5)) :: rest))) : W p l e R s m args below meth c H locs cells slots Q (F0 m pc ls (.ref (Z.1 o) :: rest)) := x_get C hW (wk4 hk) rfl wsX4_in 8 (by decide) (ml_X10_138) rfl (v := .ref (Z.1 (o + 5))) rfl hd kk
theorem ml_X4_34 : Cond.fieldLink RX4 34 RX4 (TX4 9).2.1 (TX4 9).2.2.1 ∈ TW := TW_of 123 (by decide +kernel) (by decide +kernel)
theorem xg_X4_34 (C : CX p s m args meth c cc RX4 nL ret Z g) (hW : XW Z h g s.heap H locs) {o : Nat} (hk : knd o = 4) (hd : decode cc pc = .ok (.getfield 34, 3)) (kk : W p l e R s m args below meth c H locs cells slots Q (F0 m (pc + 3) ls (.ref (Z.1 (o + 6)) :: rest))) : W p l e R s m args below meth c H locs cells slots Q (F0 m pc ls (.ref (Z.1 o) :: rest)) := x_get C hW (wk4 hk) rfl wsX4_in 9 (by decide) (ml_X4_34) rfl (v := .ref (Z.1 (o + 6))) rfl hd kk
theorem ml_X1_126 : Cond.fieldLink RX1 126 RX4 (TX4 9).2.1 (TX4 9).2.2.1 ∈ TW := TW_of 124 (by decide +kernel) (by decide +kernel)
theorem xg_X1_126 (C : CX p s m args meth c cc RX1 nL ret Z g) (hW : XW Z h g s.heap H locs) {o : Nat} (hk : knd o = 4) (hd : decode cc pc = .ok (.getfield 126, 3)) (kk : W p l e R s m args below meth c H locs cells slots Q (F0 m (pc + 3) ls (.ref (Z.1 (o + 6)) :: rest))) : W p l e R s m args below meth c H locs cells slots Q (F0 m pc ls (.ref (Z.1 o) :: rest)) := x_get C hW (wk4 hk) rfl wsX4_in 9 (by decide) (ml_X1_126) rfl (v := .ref (Z.1 (o + 6))) rfl hd kk
theorem ml_X10_141 : Cond.fieldLink RX10 141 RX4 (TX4 9).2.1 (TX4 9).2.2.1 ∈ TW := TW_of 125 (by decide +kernel) (by decide +kernel)
theorem xg_X10_141 (C : CX p s m args meth c cc RX10 nL ret Z g) (hW : XW Z h g s.heap H locs) {o : Nat} (hk : knd o = 4) (hd : decode cc pc = .ok (.getfield 141, 3)) (kk : W p l e R s m args below meth c H locs cells slots Q (F0 m (pc + 3) ls (.ref (Z.1 (o + 6)) :: rest))) : W p l e R s m args below meth c H locs cells slots Q (F0 m pc ls (.ref (Z.1 o) :: rest)) := x_get C hW (wk4 hk) rfl wsX4_in 9 (by decide) (ml_X10_141) rfl (v := .ref (Z.1 (o + 6))) rfl hd kk
theorem ml_X4_65 : Cond.fieldLink RX4 65 RX4 (TX4 10).2.1 (TX4 10).2.2.1 ∈ TW := TW_of 126 (by decide +kernel) (by decide +kernel)
theorem xg_X4_65 (C : CX p s m args meth c cc RX4 nL ret Z g) (hW : XW Z h g s.heap H locs) {o : Nat} (hk : knd o = 4) (hd : decode cc pc = .ok (.getfield 65, 3)) (kk : W p l e R s m args below meth c H locs cells slots Q (F0 m (pc + 3) ls (.int (h o 10) :: rest))) : W p l e R s m args below meth c H locs cells slots Q (F0 m pc ls (.ref (Z.1 o) :: rest)) := x_get C hW (wk4 hk) rfl wsX4_in 10 (by decide) (ml_X4_65) rfl (v := .int (h o 10)) rfl hd kk
theorem xp_X4_65 (C : CX p s m args meth c cc RX4 nL ret Z g) (hW : XW Z h g s.heap H locs) {o : Nat} (hk : knd o = 4) {v : Int32} {α : Type} {K : Hp → Option α} {out : α} (hf : stp (up h o 10 v) K = some out) (hd : decode cc pc = .ok (.putfield 65, 3)) (kk : ∀ (h1 : Hp) (H1 : Heap) (locs1 : List Loc), K h1 = some out → XW Z h1 g s.heap H1 locs1 → W p l e R s m args below meth c H1 locs1 cells slots Q (F0 m (pc + 3) ls rest)) : W p l e R s m args below meth c H locs cells slots Q (F0 m pc ls (.int v :: .ref (Z.1 o) :: rest)) := by
  have hs : (wl Z h g).set o (Z.1 o, .inr (4, ([.int (h o 0), .int (h o 1), .int (h o 2), .ref (Z.1 (o + 1)), .int (h o 4), .ref (Z.1 (o + 2)), .ref (Z.1 (o + 3)), .ref (Z.1 (o + 4)), .ref (Z.1 (o + 5)), .ref (Z.1 (o + 6)), .int (h o 10), .ref (Z.1 (o + 7)), .ref (Z.1 (o + 8)), .int (h o 13), .ref (Z.1 (o + 9)), .ref (Z.1 (o + 10)), .ref (Z.1 (o + 11)), .ref (Z.1 (o + 12)), .ref (Z.1 (o + 13))]).set 10 (.int v))) = wl Z (up h o 10 v) g := by
    have h1 := k_lt hk (by decide)
    refine wl_set h1 ?_ mx_upl
    rw [up_eq]
    rw [cel_k hk]
    rfl
  exact x_put C hW (wk4 hk) rfl wsX4_in tyX4 tyX4_ok nmX4 10 (by decide) (ml_X4_65) rfl rfl (ty := .int) (by decide +kernel) (rfl) (rfl) (Nat.le_of_ble_eq_true rfl) hs hd (fun H1 locs1 q => kk _ H1 locs1 hf q)
theorem ml_X8_112 : Cond.fieldLink RX8 112 RX4 (TX4 10).2.1 (TX4 10).2.2.1 ∈ TW := TW_of 127 (by decide +kernel) (by decide +kernel)
theorem xg_X8_112 (C : CX p s m args meth c cc RX8 nL ret Z g) (hW : XW Z h g s.heap H locs) {o : Nat} (hk : knd o = 4) (hd : decode cc pc = .ok (.getfield 112, 3)) (kk : W p l e R s m args below meth c H locs cells slots Q (F0 m (pc + 3) ls (.int (h o 10) :: rest))) : W p l e R s m args below meth c H locs cells slots Q (F0 m pc ls (.ref (Z.1 o) :: rest)) := x_get C hW (wk4 hk) rfl wsX4_in 10 (by decide) (ml_X8_112) rfl (v := .int (h o 10)) rfl hd kk
theorem xp_X8_112 (C : CX p s m args meth c cc RX8 nL ret Z g) (hW : XW Z h g s.heap H locs) {o : Nat} (hk : knd o = 4) {v : Int32} {α : Type} {K : Hp → Option α} {out : α} (hf : stp (up h o 10 v) K = some out) (hd : decode cc pc = .ok (.putfield 112, 3)) (kk : ∀ (h1 : Hp) (H1 : Heap) (locs1 : List Loc), K h1 = some out → XW Z h1 g s.heap H1 locs1 → W p l e R s m args below meth c H1 locs1 cells slots Q (F0 m (pc + 3) ls rest)) : W p l e R s m args below meth c H locs cells slots Q (F0 m pc ls (.int v :: .ref (Z.1 o) :: rest)) := by
  have hs : (wl Z h g).set o (Z.1 o, .inr (4, ([.int (h o 0), .int (h o 1), .int (h o 2), .ref (Z.1 (o + 1)), .int (h o 4), .ref (Z.1 (o + 2)), .ref (Z.1 (o + 3)), .ref (Z.1 (o + 4)), .ref (Z.1 (o + 5)), .ref (Z.1 (o + 6)), .int (h o 10), .ref (Z.1 (o + 7)), .ref (Z.1 (o + 8)), .int (h o 13), .ref (Z.1 (o + 9)), .ref (Z.1 (o + 10)), .ref (Z.1 (o + 11)), .ref (Z.1 (o + 12)), .ref (Z.1 (o + 13))]).set 10 (.int v))) = wl Z (up h o 10 v) g := by
    have h1 := k_lt hk (by decide)
    refine wl_set h1 ?_ mx_upl
    rw [up_eq]
    rw [cel_k hk]
    rfl
  exact x_put C hW (wk4 hk) rfl wsX4_in tyX4 tyX4_ok nmX4 10 (by decide) (ml_X8_112) rfl rfl (ty := .int) (by decide +kernel) (rfl) (rfl) (Nat.le_of_ble_eq_true rfl) hs hd (fun H1 locs1 q => kk _ H1 locs1 hf q)
theorem ml_X10_122 : Cond.fieldLink RX10 122 RX4 (TX4 10).2.1 (TX4 10).2.2.1 ∈ TW := TW_of 128 (by decide +kernel) (by decide +kernel)
theorem xg_X10_122 (C : CX p s m args meth c cc RX10 nL ret Z g) (hW : XW Z h g s.heap H locs) {o : Nat} (hk : knd o = 4) (hd : decode cc pc = .ok (.getfield 122, 3)) (kk : W p l e R s m args below meth c H locs cells slots Q (F0 m (pc + 3) ls (.int (h o 10) :: rest))) : W p l e R s m args below meth c H locs cells slots Q (F0 m pc ls (.ref (Z.1 o) :: rest)) := x_get C hW (wk4 hk) rfl wsX4_in 10 (by decide) (ml_X10_122) rfl (v := .int (h o 10)) rfl hd kk
theorem xp_X10_122 (C : CX p s m args meth c cc RX10 nL ret Z g) (hW : XW Z h g s.heap H locs) {o : Nat} (hk : knd o = 4) {v : Int32} {α : Type} {K : Hp → Option α} {out : α} (hf : stp (up h o 10 v) K = some out) (hd : decode cc pc = .ok (.putfield 122, 3)) (kk : ∀ (h1 : Hp) (H1 : Heap) (locs1 : List Loc), K h1 = some out → XW Z h1 g s.heap H1 locs1 → W p l e R s m args below meth c H1 locs1 cells slots Q (F0 m (pc + 3) ls rest)) : W p l e R s m args below meth c H locs cells slots Q (F0 m pc ls (.int v :: .ref (Z.1 o) :: rest)) := by
  have hs : (wl Z h g).set o (Z.1 o, .inr (4, ([.int (h o 0), .int (h o 1), .int (h o 2), .ref (Z.1 (o + 1)), .int (h o 4), .ref (Z.1 (o + 2)), .ref (Z.1 (o + 3)), .ref (Z.1 (o + 4)), .ref (Z.1 (o + 5)), .ref (Z.1 (o + 6)), .int (h o 10), .ref (Z.1 (o + 7)), .ref (Z.1 (o + 8)), .int (h o 13), .ref (Z.1 (o + 9)), .ref (Z.1 (o + 10)), .ref (Z.1 (o + 11)), .ref (Z.1 (o + 12)), .ref (Z.1 (o + 13))]).set 10 (.int v))) = wl Z (up h o 10 v) g := by
    have h1 := k_lt hk (by decide)
    refine wl_set h1 ?_ mx_upl
    rw [up_eq]
    rw [cel_k hk]
    rfl
  exact x_put C hW (wk4 hk) rfl wsX4_in tyX4 tyX4_ok nmX4 10 (by decide) (ml_X10_122) rfl rfl (ty := .int) (by decide +kernel) (rfl) (rfl) (Nat.le_of_ble_eq_true rfl) hs hd (fun H1 locs1 q => kk _ H1 locs1 hf q)
theorem ml_X4_37 : Cond.fieldLink RX4 37 RX4 (TX4 11).2.1 (TX4 11).2.2.1 ∈ TW := TW_of 129 (by decide +kernel) (by decide +kernel)
theorem xg_X4_37 (C : CX p s m args meth c cc RX4 nL ret Z g) (hW : XW Z h g s.heap H locs) {o : Nat} (hk : knd o = 4) (hd : decode cc pc = .ok (.getfield 37, 3)) (kk : W p l e R s m args below meth c H locs cells slots Q (F0 m (pc + 3) ls (.ref (Z.1 (o + 7)) :: rest))) : W p l e R s m args below meth c H locs cells slots Q (F0 m pc ls (.ref (Z.1 o) :: rest)) := x_get C hW (wk4 hk) rfl wsX4_in 11 (by decide) (ml_X4_37) rfl (v := .ref (Z.1 (o + 7))) rfl hd kk
theorem ml_X4_40 : Cond.fieldLink RX4 40 RX4 (TX4 12).2.1 (TX4 12).2.2.1 ∈ TW := TW_of 130 (by decide +kernel) (by decide +kernel)
theorem xg_X4_40 (C : CX p s m args meth c cc RX4 nL ret Z g) (hW : XW Z h g s.heap H locs) {o : Nat} (hk : knd o = 4) (hd : decode cc pc = .ok (.getfield 40, 3)) (kk : W p l e R s m args below meth c H locs cells slots Q (F0 m (pc + 3) ls (.ref (Z.1 (o + 8)) :: rest))) : W p l e R s m args below meth c H locs cells slots Q (F0 m pc ls (.ref (Z.1 o) :: rest)) := x_get C hW (wk4 hk) rfl wsX4_in 12 (by decide) (ml_X4_40) rfl (v := .ref (Z.1 (o + 8))) rfl hd kk
theorem ml_X1_53 : Cond.fieldLink RX1 53 RX4 (TX4 13).2.1 (TX4 13).2.2.1 ∈ TW := TW_of 131 (by decide +kernel) (by decide +kernel)
theorem xg_X1_53 (C : CX p s m args meth c cc RX1 nL ret Z g) (hW : XW Z h g s.heap H locs) {o : Nat} (hk : knd o = 4) (hd : decode cc pc = .ok (.getfield 53, 3)) (kk : W p l e R s m args below meth c H locs cells slots Q (F0 m (pc + 3) ls (.int (h o 13) :: rest))) : W p l e R s m args below meth c H locs cells slots Q (F0 m pc ls (.ref (Z.1 o) :: rest)) := x_get C hW (wk4 hk) rfl wsX4_in 13 (by decide) (ml_X1_53) rfl (v := .int (h o 13)) rfl hd kk
theorem xp_X1_53 (C : CX p s m args meth c cc RX1 nL ret Z g) (hW : XW Z h g s.heap H locs) {o : Nat} (hk : knd o = 4) {v : Int32} {α : Type} {K : Hp → Option α} {out : α} (hf : stp (up h o 13 v) K = some out) (hd : decode cc pc = .ok (.putfield 53, 3)) (kk : ∀ (h1 : Hp) (H1 : Heap) (locs1 : List Loc), K h1 = some out → XW Z h1 g s.heap H1 locs1 → W p l e R s m args below meth c H1 locs1 cells slots Q (F0 m (pc + 3) ls rest)) : W p l e R s m args below meth c H locs cells slots Q (F0 m pc ls (.int v :: .ref (Z.1 o) :: rest)) := by
  have hs : (wl Z h g).set o (Z.1 o, .inr (4, ([.int (h o 0), .int (h o 1), .int (h o 2), .ref (Z.1 (o + 1)), .int (h o 4), .ref (Z.1 (o + 2)), .ref (Z.1 (o + 3)), .ref (Z.1 (o + 4)), .ref (Z.1 (o + 5)), .ref (Z.1 (o + 6)), .int (h o 10), .ref (Z.1 (o + 7)), .ref (Z.1 (o + 8)), .int (h o 13), .ref (Z.1 (o + 9)), .ref (Z.1 (o + 10)), .ref (Z.1 (o + 11)), .ref (Z.1 (o + 12)), .ref (Z.1 (o + 13))]).set 13 (.int v))) = wl Z (up h o 13 v) g := by
    have h1 := k_lt hk (by decide)
    refine wl_set h1 ?_ mx_upl
    rw [up_eq]
    rw [cel_k hk]
    rfl
  exact x_put C hW (wk4 hk) rfl wsX4_in tyX4 tyX4_ok nmX4 13 (by decide) (ml_X1_53) rfl rfl (ty := .int) (by decide +kernel) (rfl) (rfl) (Nat.le_of_ble_eq_true rfl) hs hd (fun H1 locs1 q => kk _ H1 locs1 hf q)
theorem ml_X4_68 : Cond.fieldLink RX4 68 RX4 (TX4 13).2.1 (TX4 13).2.2.1 ∈ TW := TW_of 132 (by decide +kernel) (by decide +kernel)
theorem xg_X4_68 (C : CX p s m args meth c cc RX4 nL ret Z g) (hW : XW Z h g s.heap H locs) {o : Nat} (hk : knd o = 4) (hd : decode cc pc = .ok (.getfield 68, 3)) (kk : W p l e R s m args below meth c H locs cells slots Q (F0 m (pc + 3) ls (.int (h o 13) :: rest))) : W p l e R s m args below meth c H locs cells slots Q (F0 m pc ls (.ref (Z.1 o) :: rest)) := x_get C hW (wk4 hk) rfl wsX4_in 13 (by decide) (ml_X4_68) rfl (v := .int (h o 13)) rfl hd kk
theorem xp_X4_68 (C : CX p s m args meth c cc RX4 nL ret Z g) (hW : XW Z h g s.heap H locs) {o : Nat} (hk : knd o = 4) {v : Int32} {α : Type} {K : Hp → Option α} {out : α} (hf : stp (up h o 13 v) K = some out) (hd : decode cc pc = .ok (.putfield 68, 3)) (kk : ∀ (h1 : Hp) (H1 : Heap) (locs1 : List Loc), K h1 = some out → XW Z h1 g s.heap H1 locs1 → W p l e R s m args below meth c H1 locs1 cells slots Q (F0 m (pc + 3) ls rest)) : W p l e R s m args below meth c H locs cells slots Q (F0 m pc ls (.int v :: .ref (Z.1 o) :: rest)) := by
  have hs : (wl Z h g).set o (Z.1 o, .inr (4, ([.int (h o 0), .int (h o 1), .int (h o 2), .ref (Z.1 (o + 1)), .int (h o 4), .ref (Z.1 (o + 2)), .ref (Z.1 (o + 3)), .ref (Z.1 (o + 4)), .ref (Z.1 (o + 5)), .ref (Z.1 (o + 6)), .int (h o 10), .ref (Z.1 (o + 7)), .ref (Z.1 (o + 8)), .int (h o 13), .ref (Z.1 (o + 9)), .ref (Z.1 (o + 10)), .ref (Z.1 (o + 11)), .ref (Z.1 (o + 12)), .ref (Z.1 (o + 13))]).set 13 (.int v))) = wl Z (up h o 13 v) g := by
    have h1 := k_lt hk (by decide)
    refine wl_set h1 ?_ mx_upl
    rw [up_eq]
    rw [cel_k hk]
    rfl
  exact x_put C hW (wk4 hk) rfl wsX4_in tyX4 tyX4_ok nmX4 13 (by decide) (ml_X4_68) rfl rfl (ty := .int) (by decide +kernel) (rfl) (rfl) (Nat.le_of_ble_eq_true rfl) hs hd (fun H1 locs1 q => kk _ H1 locs1 hf q)
theorem ml_X10_119 : Cond.fieldLink RX10 119 RX4 (TX4 13).2.1 (TX4 13).2.2.1 ∈ TW := TW_of 133 (by decide +kernel) (by decide +kernel)
theorem xg_X10_119 (C : CX p s m args meth c cc RX10 nL ret Z g) (hW : XW Z h g s.heap H locs) {o : Nat} (hk : knd o = 4) (hd : decode cc pc = .ok (.getfield 119, 3)) (kk : W p l e R s m args below meth c H locs cells slots Q (F0 m (pc + 3) ls (.int (h o 13) :: rest))) : W p l e R s m args below meth c H locs cells slots Q (F0 m pc ls (.ref (Z.1 o) :: rest)) := x_get C hW (wk4 hk) rfl wsX4_in 13 (by decide) (ml_X10_119) rfl (v := .int (h o 13)) rfl hd kk
theorem xp_X10_119 (C : CX p s m args meth c cc RX10 nL ret Z g) (hW : XW Z h g s.heap H locs) {o : Nat} (hk : knd o = 4) {v : Int32} {α : Type} {K : Hp → Option α} {out : α} (hf : stp (up h o 13 v) K = some out) (hd : decode cc pc = .ok (.putfield 119, 3)) (kk : ∀ (h1 : Hp) (H1 : Heap) (locs1 : List Loc), K h1 = some out → XW Z h1 g s.heap H1 locs1 → W p l e R s m args below meth c H1 locs1 cells slots Q (F0 m (pc + 3) ls rest)) : W p l e R s m args below meth c H locs cells slots Q (F0 m pc ls (.int v :: .ref (Z.1 o) :: rest)) := by
  have hs : (wl Z h g).set o (Z.1 o, .inr (4, ([.int (h o 0), .int (h o 1), .int (h o 2), .ref (Z.1 (o + 1)), .int (h o 4), .ref (Z.1 (o + 2)), .ref (Z.1 (o + 3)), .ref (Z.1 (o + 4)), .ref (Z.1 (o + 5)), .ref (Z.1 (o + 6)), .int (h o 10), .ref (Z.1 (o + 7)), .ref (Z.1 (o + 8)), .int (h o 13), .ref (Z.1 (o + 9)), .ref (Z.1 (o + 10)), .ref (Z.1 (o + 11)), .ref (Z.1 (o + 12)), .ref (Z.1 (o + 13))]).set 13 (.int v))) = wl Z (up h o 13 v) g := by
    have h1 := k_lt hk (by decide)
    refine wl_set h1 ?_ mx_upl
    rw [up_eq]
    rw [cel_k hk]
    rfl
  exact x_put C hW (wk4 hk) rfl wsX4_in tyX4 tyX4_ok nmX4 13 (by decide) (ml_X10_119) rfl rfl (ty := .int) (by decide +kernel) (rfl) (rfl) (Nat.le_of_ble_eq_true rfl) hs hd (fun H1 locs1 q => kk _ H1 locs1 hf q)
theorem ml_X4_43 : Cond.fieldLink RX4 43 RX4 (TX4 14).2.1 (TX4 14).2.2.1 ∈ TW := TW_of 134 (by decide +kernel) (by decide +kernel)
theorem xg_X4_43 (C : CX p s m args meth c cc RX4 nL ret Z g) (hW : XW Z h g s.heap H locs) {o : Nat} (hk : knd o = 4) (hd : decode cc pc = .ok (.getfield 43, 3)) (kk : W p l e R s m args below meth c H locs cells slots Q (F0 m (pc + 3) ls (.ref (Z.1 (o + 9)) :: rest))) : W p l e R s m args below meth c H locs cells slots Q (F0 m pc ls (.ref (Z.1 o) :: rest)) := x_get C hW (wk4 hk) rfl wsX4_in 14 (by decide) (ml_X4_43) rfl (v := .ref (Z.1 (o + 9))) rfl hd kk
theorem ml_X1_93 : Cond.fieldLink RX1 93 RX4 (TX4 14).2.1 (TX4 14).2.2.1 ∈ TW := TW_of 135 (by decide +kernel) (by decide +kernel)
theorem xg_X1_93 (C : CX p s m args meth c cc RX1 nL ret Z g) (hW : XW Z h g s.heap H locs) {o : Nat} (hk : knd o = 4) (hd : decode cc pc = .ok (.getfield 93, 3)) (kk : W p l e R s m args below meth c H locs cells slots Q (F0 m (pc + 3) ls (.ref (Z.1 (o + 9)) :: rest))) : W p l e R s m args below meth c H locs cells slots Q (F0 m pc ls (.ref (Z.1 o) :: rest)) := x_get C hW (wk4 hk) rfl wsX4_in 14 (by decide) (ml_X1_93) rfl (v := .ref (Z.1 (o + 9))) rfl hd kk
theorem ml_X10_171 : Cond.fieldLink RX10 171 RX4 (TX4 14).2.1 (TX4 14).2.2.1 ∈ TW := TW_of 136 (by decide +kernel) (by decide +kernel)
theorem xg_X10_171 (C : CX p s m args meth c cc RX10 nL ret Z g) (hW : XW Z h g s.heap H locs) {o : Nat} (hk : knd o = 4) (hd : decode cc pc = .ok (.getfield 171, 3)) (kk : W p l e R s m args below meth c H locs cells slots Q (F0 m (pc + 3) ls (.ref (Z.1 (o + 9)) :: rest))) : W p l e R s m args below meth c H locs cells slots Q (F0 m pc ls (.ref (Z.1 o) :: rest)) := x_get C hW (wk4 hk) rfl wsX4_in 14 (by decide) (ml_X10_171) rfl (v := .ref (Z.1 (o + 9))) rfl hd kk
theorem ml_X4_46 : Cond.fieldLink RX4 46 RX4 (TX4 15).2.1 (TX4 15).2.2.1 ∈ TW := TW_of 137 (by decide +kernel) (by decide +kernel)
theorem xg_X4_46 (C : CX p s m args meth c cc RX4 nL ret Z g) (hW : XW Z h g s.heap H locs) {o : Nat} (hk : knd o = 4) (hd : decode cc pc = .ok (.getfield 46, 3)) (kk : W p l e R s m args below meth c H locs cells slots Q (F0 m (pc + 3) ls (.ref (Z.1 (o + 10)) :: rest))) : W p l e R s m args below meth c H locs cells slots Q (F0 m pc ls (.ref (Z.1 o) :: rest)) := x_get C hW (wk4 hk) rfl wsX4_in 15 (by decide) (ml_X4_46) rfl (v := .ref (Z.1 (o + 10))) rfl hd kk
theorem ml_X10_165 : Cond.fieldLink RX10 165 RX4 (TX4 15).2.1 (TX4 15).2.2.1 ∈ TW := TW_of 138 (by decide +kernel) (by decide +kernel)
theorem xg_X10_165 (C : CX p s m args meth c cc RX10 nL ret Z g) (hW : XW Z h g s.heap H locs) {o : Nat} (hk : knd o = 4) (hd : decode cc pc = .ok (.getfield 165, 3)) (kk : W p l e R s m args below meth c H locs cells slots Q (F0 m (pc + 3) ls (.ref (Z.1 (o + 10)) :: rest))) : W p l e R s m args below meth c H locs cells slots Q (F0 m pc ls (.ref (Z.1 o) :: rest)) := x_get C hW (wk4 hk) rfl wsX4_in 15 (by decide) (ml_X10_165) rfl (v := .ref (Z.1 (o + 10))) rfl hd kk
theorem ml_X4_49 : Cond.fieldLink RX4 49 RX4 (TX4 16).2.1 (TX4 16).2.2.1 ∈ TW := TW_of 139 (by decide +kernel) (by decide +kernel)
theorem xg_X4_49 (C : CX p s m args meth c cc RX4 nL ret Z g) (hW : XW Z h g s.heap H locs) {o : Nat} (hk : knd o = 4) (hd : decode cc pc = .ok (.getfield 49, 3)) (kk : W p l e R s m args below meth c H locs cells slots Q (F0 m (pc + 3) ls (.ref (Z.1 (o + 11)) :: rest))) : W p l e R s m args below meth c H locs cells slots Q (F0 m pc ls (.ref (Z.1 o) :: rest)) := x_get C hW (wk4 hk) rfl wsX4_in 16 (by decide) (ml_X4_49) rfl (v := .ref (Z.1 (o + 11))) rfl hd kk
theorem ml_X10_168 : Cond.fieldLink RX10 168 RX4 (TX4 16).2.1 (TX4 16).2.2.1 ∈ TW := TW_of 140 (by decide +kernel) (by decide +kernel)
theorem xg_X10_168 (C : CX p s m args meth c cc RX10 nL ret Z g) (hW : XW Z h g s.heap H locs) {o : Nat} (hk : knd o = 4) (hd : decode cc pc = .ok (.getfield 168, 3)) (kk : W p l e R s m args below meth c H locs cells slots Q (F0 m (pc + 3) ls (.ref (Z.1 (o + 11)) :: rest))) : W p l e R s m args below meth c H locs cells slots Q (F0 m pc ls (.ref (Z.1 o) :: rest)) := x_get C hW (wk4 hk) rfl wsX4_in 16 (by decide) (ml_X10_168) rfl (v := .ref (Z.1 (o + 11))) rfl hd kk
theorem ml_X4_52 : Cond.fieldLink RX4 52 RX4 (TX4 17).2.1 (TX4 17).2.2.1 ∈ TW := TW_of 141 (by decide +kernel) (by decide +kernel)
theorem xg_X4_52 (C : CX p s m args meth c cc RX4 nL ret Z g) (hW : XW Z h g s.heap H locs) {o : Nat} (hk : knd o = 4) (hd : decode cc pc = .ok (.getfield 52, 3)) (kk : W p l e R s m args below meth c H locs cells slots Q (F0 m (pc + 3) ls (.ref (Z.1 (o + 12)) :: rest))) : W p l e R s m args below meth c H locs cells slots Q (F0 m pc ls (.ref (Z.1 o) :: rest)) := x_get C hW (wk4 hk) rfl wsX4_in 17 (by decide) (ml_X4_52) rfl (v := .ref (Z.1 (o + 12))) rfl hd kk
theorem ml_X10_180 : Cond.fieldLink RX10 180 RX4 (TX4 17).2.1 (TX4 17).2.2.1 ∈ TW := TW_of 142 (by decide +kernel) (by decide +kernel)
theorem xg_X10_180 (C : CX p s m args meth c cc RX10 nL ret Z g) (hW : XW Z h g s.heap H locs) {o : Nat} (hk : knd o = 4) (hd : decode cc pc = .ok (.getfield 180, 3)) (kk : W p l e R s m args below meth c H locs cells slots Q (F0 m (pc + 3) ls (.ref (Z.1 (o + 12)) :: rest))) : W p l e R s m args below meth c H locs cells slots Q (F0 m pc ls (.ref (Z.1 o) :: rest)) := x_get C hW (wk4 hk) rfl wsX4_in 17 (by decide) (ml_X10_180) rfl (v := .ref (Z.1 (o + 12))) rfl hd kk
theorem ml_X4_55 : Cond.fieldLink RX4 55 RX4 (TX4 18).2.1 (TX4 18).2.2.1 ∈ TW := TW_of 143 (by decide +kernel) (by decide +kernel)
theorem xg_X4_55 (C : CX p s m args meth c cc RX4 nL ret Z g) (hW : XW Z h g s.heap H locs) {o : Nat} (hk : knd o = 4) (hd : decode cc pc = .ok (.getfield 55, 3)) (kk : W p l e R s m args below meth c H locs cells slots Q (F0 m (pc + 3) ls (.ref (Z.1 (o + 13)) :: rest))) : W p l e R s m args below meth c H locs cells slots Q (F0 m pc ls (.ref (Z.1 o) :: rest)) := x_get C hW (wk4 hk) rfl wsX4_in 18 (by decide) (ml_X4_55) rfl (v := .ref (Z.1 (o + 13))) rfl hd kk
theorem ml_X10_201 : Cond.fieldLink RX10 201 RX4 (TX4 18).2.1 (TX4 18).2.2.1 ∈ TW := TW_of 144 (by decide +kernel) (by decide +kernel)
theorem xg_X10_201 (C : CX p s m args meth c cc RX10 nL ret Z g) (hW : XW Z h g s.heap H locs) {o : Nat} (hk : knd o = 4) (hd : decode cc pc = .ok (.getfield 201, 3)) (kk : W p l e R s m args below meth c H locs cells slots Q (F0 m (pc + 3) ls (.ref (Z.1 (o + 13)) :: rest))) : W p l e R s m args below meth c H locs cells slots Q (F0 m pc ls (.ref (Z.1 o) :: rest)) := x_get C hW (wk4 hk) rfl wsX4_in 18 (by decide) (ml_X10_201) rfl (v := .ref (Z.1 (o + 13))) rfl hd kk
theorem ml_X0_9 : Cond.fieldLink RX0 9 RX0 (TX0 0).2.1 (TX0 0).2.2.1 ∈ TW := TW_of 192 (by decide +kernel) (by decide +kernel)
theorem xg_X0_9 (C : CX p s m args meth c cc RX0 nL ret Z g) (hW : XW Z h g s.heap H locs) {o : Nat} (hk : knd o = 0) (hd : decode cc pc = .ok (.getfield 9, 3)) (kk : W p l e R s m args below meth c H locs cells slots Q (F0 m (pc + 3) ls (.ref (Z.1 (o + 1)) :: rest))) : W p l e R s m args below meth c H locs cells slots Q (F0 m pc ls (.ref (Z.1 o) :: rest)) := x_get C hW (wk0 hk) rfl wsX0_in 0 (by decide) (ml_X0_9) rfl (v := .ref (Z.1 (o + 1))) rfl hd kk
theorem ml_X1_96 : Cond.fieldLink RX1 96 RX0 (TX0 0).2.1 (TX0 0).2.2.1 ∈ TW := TW_of 193 (by decide +kernel) (by decide +kernel)
theorem xg_X1_96 (C : CX p s m args meth c cc RX1 nL ret Z g) (hW : XW Z h g s.heap H locs) {o : Nat} (hk : knd o = 0) (hd : decode cc pc = .ok (.getfield 96, 3)) (kk : W p l e R s m args below meth c H locs cells slots Q (F0 m (pc + 3) ls (.ref (Z.1 (o + 1)) :: rest))) : W p l e R s m args below meth c H locs cells slots Q (F0 m pc ls (.ref (Z.1 o) :: rest)) := x_get C hW (wk0 hk) rfl wsX0_in 0 (by decide) (ml_X1_96) rfl (v := .ref (Z.1 (o + 1))) rfl hd kk
theorem ml_X0_25 : Cond.fieldLink RX0 25 RX0 (TX0 1).2.1 (TX0 1).2.2.1 ∈ TW := TW_of 194 (by decide +kernel) (by decide +kernel)
theorem xg_X0_25 (C : CX p s m args meth c cc RX0 nL ret Z g) (hW : XW Z h g s.heap H locs) {o : Nat} (hk : knd o = 0) (hd : decode cc pc = .ok (.getfield 25, 3)) (kk : W p l e R s m args below meth c H locs cells slots Q (F0 m (pc + 3) ls (.int (h o 1) :: rest))) : W p l e R s m args below meth c H locs cells slots Q (F0 m pc ls (.ref (Z.1 o) :: rest)) := x_get C hW (wk0 hk) rfl wsX0_in 1 (by decide) (ml_X0_25) rfl (v := .int (h o 1)) rfl hd kk
theorem xp_X0_25 (C : CX p s m args meth c cc RX0 nL ret Z g) (hW : XW Z h g s.heap H locs) {o : Nat} (hk : knd o = 0) {v : Int32} {α : Type} {K : Hp → Option α} {out : α} (hf : stp (up h o 1 v) K = some out) (hd : decode cc pc = .ok (.putfield 25, 3)) (kk : ∀ (h1 : Hp) (H1 : Heap) (locs1 : List Loc), K h1 = some out → XW Z h1 g s.heap H1 locs1 → W p l e R s m args below meth c H1 locs1 cells slots Q (F0 m (pc + 3) ls rest)) : W p l e R s m args below meth c H locs cells slots Q (F0 m pc ls (.int v :: .ref (Z.1 o) :: rest)) := by
  have hs : (wl Z h g).set o (Z.1 o, .inr (0, ([.ref (Z.1 (o + 1)), .int (h o 1), .ref (Z.1 (o + 2)), .ref (Z.1 (o + 3)), .ref (Z.1 (o + 4))]).set 1 (.int v))) = wl Z (up h o 1 v) g := by
    have h1 := k_lt hk (by decide)
    refine wl_set h1 ?_ mx_upl
    rw [up_eq]
    rw [cel_k hk]
    rfl
  exact x_put C hW (wk0 hk) rfl wsX0_in tyX0 tyX0_ok nmX0 1 (by decide) (ml_X0_25) rfl rfl (ty := .int) (by decide +kernel) (rfl) (rfl) (Nat.le_of_ble_eq_true rfl) hs hd (fun H1 locs1 q => kk _ H1 locs1 hf q)
theorem ml_X1_70 : Cond.fieldLink RX1 70 RX0 (TX0 1).2.1 (TX0 1).2.2.1 ∈ TW := TW_of 195 (by decide +kernel) (by decide +kernel)
theorem xg_X1_70 (C : CX p s m args meth c cc RX1 nL ret Z g) (hW : XW Z h g s.heap H locs) {o : Nat} (hk : knd o = 0) (hd : decode cc pc = .ok (.getfield 70, 3)) (kk : W p l e R s m args below meth c H locs cells slots Q (F0 m (pc + 3) ls (.int (h o 1) :: rest))) : W p l e R s m args below meth c H locs cells slots Q (F0 m pc ls (.ref (Z.1 o) :: rest)) := x_get C hW (wk0 hk) rfl wsX0_in 1 (by decide) (ml_X1_70) rfl (v := .int (h o 1)) rfl hd kk
theorem xp_X1_70 (C : CX p s m args meth c cc RX1 nL ret Z g) (hW : XW Z h g s.heap H locs) {o : Nat} (hk : knd o = 0) {v : Int32} {α : Type} {K : Hp → Option α} {out : α} (hf : stp (up h o 1 v) K = some out) (hd : decode cc pc = .ok (.putfield 70, 3)) (kk : ∀ (h1 : Hp) (H1 : Heap) (locs1 : List Loc), K h1 = some out → XW Z h1 g s.heap H1 locs1 → W p l e R s m args below meth c H1 locs1 cells slots Q (F0 m (pc + 3) ls rest)) : W p l e R s m args below meth c H locs cells slots Q (F0 m pc ls (.int v :: .ref (Z.1 o) :: rest)) := by
  have hs : (wl Z h g).set o (Z.1 o, .inr (0, ([.ref (Z.1 (o + 1)), .int (h o 1), .ref (Z.1 (o + 2)), .ref (Z.1 (o + 3)), .ref (Z.1 (o + 4))]).set 1 (.int v))) = wl Z (up h o 1 v) g := by
    have h1 := k_lt hk (by decide)
    refine wl_set h1 ?_ mx_upl
    rw [up_eq]
    rw [cel_k hk]
    rfl
  exact x_put C hW (wk0 hk) rfl wsX0_in tyX0 tyX0_ok nmX0 1 (by decide) (ml_X1_70) rfl rfl (ty := .int) (by decide +kernel) (rfl) (rfl) (Nat.le_of_ble_eq_true rfl) hs hd (fun H1 locs1 q => kk _ H1 locs1 hf q)
theorem ml_X10_208 : Cond.fieldLink RX10 208 RX0 (TX0 1).2.1 (TX0 1).2.2.1 ∈ TW := TW_of 196 (by decide +kernel) (by decide +kernel)
theorem xg_X10_208 (C : CX p s m args meth c cc RX10 nL ret Z g) (hW : XW Z h g s.heap H locs) {o : Nat} (hk : knd o = 0) (hd : decode cc pc = .ok (.getfield 208, 3)) (kk : W p l e R s m args below meth c H locs cells slots Q (F0 m (pc + 3) ls (.int (h o 1) :: rest))) : W p l e R s m args below meth c H locs cells slots Q (F0 m pc ls (.ref (Z.1 o) :: rest)) := x_get C hW (wk0 hk) rfl wsX0_in 1 (by decide) (ml_X10_208) rfl (v := .int (h o 1)) rfl hd kk
theorem xp_X10_208 (C : CX p s m args meth c cc RX10 nL ret Z g) (hW : XW Z h g s.heap H locs) {o : Nat} (hk : knd o = 0) {v : Int32} {α : Type} {K : Hp → Option α} {out : α} (hf : stp (up h o 1 v) K = some out) (hd : decode cc pc = .ok (.putfield 208, 3)) (kk : ∀ (h1 : Hp) (H1 : Heap) (locs1 : List Loc), K h1 = some out → XW Z h1 g s.heap H1 locs1 → W p l e R s m args below meth c H1 locs1 cells slots Q (F0 m (pc + 3) ls rest)) : W p l e R s m args below meth c H locs cells slots Q (F0 m pc ls (.int v :: .ref (Z.1 o) :: rest)) := by
  have hs : (wl Z h g).set o (Z.1 o, .inr (0, ([.ref (Z.1 (o + 1)), .int (h o 1), .ref (Z.1 (o + 2)), .ref (Z.1 (o + 3)), .ref (Z.1 (o + 4))]).set 1 (.int v))) = wl Z (up h o 1 v) g := by
    have h1 := k_lt hk (by decide)
    refine wl_set h1 ?_ mx_upl
    rw [up_eq]
    rw [cel_k hk]
    rfl
  exact x_put C hW (wk0 hk) rfl wsX0_in tyX0 tyX0_ok nmX0 1 (by decide) (ml_X10_208) rfl rfl (ty := .int) (by decide +kernel) (rfl) (rfl) (Nat.le_of_ble_eq_true rfl) hs hd (fun H1 locs1 q => kk _ H1 locs1 hf q)
theorem ml_X0_15 : Cond.fieldLink RX0 15 RX0 (TX0 2).2.1 (TX0 2).2.2.1 ∈ TW := TW_of 197 (by decide +kernel) (by decide +kernel)
theorem xg_X0_15 (C : CX p s m args meth c cc RX0 nL ret Z g) (hW : XW Z h g s.heap H locs) {o : Nat} (hk : knd o = 0) (hd : decode cc pc = .ok (.getfield 15, 3)) (kk : W p l e R s m args below meth c H locs cells slots Q (F0 m (pc + 3) ls (.ref (Z.1 (o + 2)) :: rest))) : W p l e R s m args below meth c H locs cells slots Q (F0 m pc ls (.ref (Z.1 o) :: rest)) := x_get C hW (wk0 hk) rfl wsX0_in 2 (by decide) (ml_X0_15) rfl (v := .ref (Z.1 (o + 2))) rfl hd kk
theorem ml_X1_73 : Cond.fieldLink RX1 73 RX0 (TX0 2).2.1 (TX0 2).2.2.1 ∈ TW := TW_of 198 (by decide +kernel) (by decide +kernel)
theorem xg_X1_73 (C : CX p s m args meth c cc RX1 nL ret Z g) (hW : XW Z h g s.heap H locs) {o : Nat} (hk : knd o = 0) (hd : decode cc pc = .ok (.getfield 73, 3)) (kk : W p l e R s m args below meth c H locs cells slots Q (F0 m (pc + 3) ls (.ref (Z.1 (o + 2)) :: rest))) : W p l e R s m args below meth c H locs cells slots Q (F0 m pc ls (.ref (Z.1 o) :: rest)) := x_get C hW (wk0 hk) rfl wsX0_in 2 (by decide) (ml_X1_73) rfl (v := .ref (Z.1 (o + 2))) rfl hd kk
theorem ml_X10_214 : Cond.fieldLink RX10 214 RX0 (TX0 2).2.1 (TX0 2).2.2.1 ∈ TW := TW_of 199 (by decide +kernel) (by decide +kernel)
theorem xg_X10_214 (C : CX p s m args meth c cc RX10 nL ret Z g) (hW : XW Z h g s.heap H locs) {o : Nat} (hk : knd o = 0) (hd : decode cc pc = .ok (.getfield 214, 3)) (kk : W p l e R s m args below meth c H locs cells slots Q (F0 m (pc + 3) ls (.ref (Z.1 (o + 2)) :: rest))) : W p l e R s m args below meth c H locs cells slots Q (F0 m pc ls (.ref (Z.1 o) :: rest)) := x_get C hW (wk0 hk) rfl wsX0_in 2 (by decide) (ml_X10_214) rfl (v := .ref (Z.1 (o + 2))) rfl hd kk
theorem ml_X0_19 : Cond.fieldLink RX0 19 RX0 (TX0 3).2.1 (TX0 3).2.2.1 ∈ TW := TW_of 200 (by decide +kernel) (by decide +kernel)
theorem xg_X0_19 (C : CX p s m args meth c cc RX0 nL ret Z g) (hW : XW Z h g s.heap H locs) {o : Nat} (hk : knd o = 0) (hd : decode cc pc = .ok (.getfield 19, 3)) (kk : W p l e R s m args below meth c H locs cells slots Q (F0 m (pc + 3) ls (.ref (Z.1 (o + 3)) :: rest))) : W p l e R s m args below meth c H locs cells slots Q (F0 m pc ls (.ref (Z.1 o) :: rest)) := x_get C hW (wk0 hk) rfl wsX0_in 3 (by decide) (ml_X0_19) rfl (v := .ref (Z.1 (o + 3))) rfl hd kk
theorem ml_X1_76 : Cond.fieldLink RX1 76 RX0 (TX0 3).2.1 (TX0 3).2.2.1 ∈ TW := TW_of 201 (by decide +kernel) (by decide +kernel)
theorem xg_X1_76 (C : CX p s m args meth c cc RX1 nL ret Z g) (hW : XW Z h g s.heap H locs) {o : Nat} (hk : knd o = 0) (hd : decode cc pc = .ok (.getfield 76, 3)) (kk : W p l e R s m args below meth c H locs cells slots Q (F0 m (pc + 3) ls (.ref (Z.1 (o + 3)) :: rest))) : W p l e R s m args below meth c H locs cells slots Q (F0 m pc ls (.ref (Z.1 o) :: rest)) := x_get C hW (wk0 hk) rfl wsX0_in 3 (by decide) (ml_X1_76) rfl (v := .ref (Z.1 (o + 3))) rfl hd kk
theorem ml_X10_187 : Cond.fieldLink RX10 187 RX0 (TX0 3).2.1 (TX0 3).2.2.1 ∈ TW := TW_of 202 (by decide +kernel) (by decide +kernel)
theorem xg_X10_187 (C : CX p s m args meth c cc RX10 nL ret Z g) (hW : XW Z h g s.heap H locs) {o : Nat} (hk : knd o = 0) (hd : decode cc pc = .ok (.getfield 187, 3)) (kk : W p l e R s m args below meth c H locs cells slots Q (F0 m (pc + 3) ls (.ref (Z.1 (o + 3)) :: rest))) : W p l e R s m args below meth c H locs cells slots Q (F0 m pc ls (.ref (Z.1 o) :: rest)) := x_get C hW (wk0 hk) rfl wsX0_in 3 (by decide) (ml_X10_187) rfl (v := .ref (Z.1 (o + 3))) rfl hd kk
theorem ml_X0_22 : Cond.fieldLink RX0 22 RX0 (TX0 4).2.1 (TX0 4).2.2.1 ∈ TW := TW_of 203 (by decide +kernel) (by decide +kernel)
theorem xg_X0_22 (C : CX p s m args meth c cc RX0 nL ret Z g) (hW : XW Z h g s.heap H locs) {o : Nat} (hk : knd o = 0) (hd : decode cc pc = .ok (.getfield 22, 3)) (kk : W p l e R s m args below meth c H locs cells slots Q (F0 m (pc + 3) ls (.ref (Z.1 (o + 4)) :: rest))) : W p l e R s m args below meth c H locs cells slots Q (F0 m pc ls (.ref (Z.1 o) :: rest)) := x_get C hW (wk0 hk) rfl wsX0_in 4 (by decide) (ml_X0_22) rfl (v := .ref (Z.1 (o + 4))) rfl hd kk
theorem ml_X1_83 : Cond.fieldLink RX1 83 RX0 (TX0 4).2.1 (TX0 4).2.2.1 ∈ TW := TW_of 204 (by decide +kernel) (by decide +kernel)
theorem xg_X1_83 (C : CX p s m args meth c cc RX1 nL ret Z g) (hW : XW Z h g s.heap H locs) {o : Nat} (hk : knd o = 0) (hd : decode cc pc = .ok (.getfield 83, 3)) (kk : W p l e R s m args below meth c H locs cells slots Q (F0 m (pc + 3) ls (.ref (Z.1 (o + 4)) :: rest))) : W p l e R s m args below meth c H locs cells slots Q (F0 m pc ls (.ref (Z.1 o) :: rest)) := x_get C hW (wk0 hk) rfl wsX0_in 4 (by decide) (ml_X1_83) rfl (v := .ref (Z.1 (o + 4))) rfl hd kk
theorem ml_X10_192 : Cond.fieldLink RX10 192 RX0 (TX0 4).2.1 (TX0 4).2.2.1 ∈ TW := TW_of 205 (by decide +kernel) (by decide +kernel)
theorem xg_X10_192 (C : CX p s m args meth c cc RX10 nL ret Z g) (hW : XW Z h g s.heap H locs) {o : Nat} (hk : knd o = 0) (hd : decode cc pc = .ok (.getfield 192, 3)) (kk : W p l e R s m args below meth c H locs cells slots Q (F0 m (pc + 3) ls (.ref (Z.1 (o + 4)) :: rest))) : W p l e R s m args below meth c H locs cells slots Q (F0 m pc ls (.ref (Z.1 o) :: rest)) := x_get C hW (wk0 hk) rfl wsX0_in 4 (by decide) (ml_X10_192) rfl (v := .ref (Z.1 (o + 4))) rfl hd kk
theorem ml_X1_12 : Cond.fieldLink RX1 12 RX1 (TX1 0).2.1 (TX1 0).2.2.1 ∈ TW := TW_of 217 (by decide +kernel) (by decide +kernel)
theorem xg_X1_12 (C : CX p s m args meth c cc RX1 nL ret Z g) (hW : XW Z h g s.heap H locs) {o : Nat} (hk : knd o = 1) {α : Type} {K : Nat → Option α} {out : α} (hf : ckp (h o 0) 4 K = some out) (hd : decode cc pc = .ok (.getfield 12, 3)) (kk : ∀ r : Nat, knd r = 4 → K r = some out → W p l e R s m args below meth c H locs cells slots Q (F0 m (pc + 3) ls (.ref (Z.1 r) :: rest))) : W p l e R s m args below meth c H locs cells slots Q (F0 m pc ls (.ref (Z.1 o) :: rest)) := by
  obtain ⟨h1, h2⟩ := ckp_t hf
  exact x_get C hW (wk1 hk) rfl wsX1_in 0 (by decide) (ml_X1_12) rfl (v := .ref (Z.1 (ix (h o 0)))) rfl hd (kk _ h1 h2)
theorem xp_X1_12 (C : CX p s m args meth c cc RX1 nL ret Z g) (hW : XW Z h g s.heap H locs) {o : Nat} (hk : knd o = 1) {r : Nat} (hr : knd r = 4) {α : Type} {K : Hp → Option α} {out : α} (hf : stp (up h o 0 (nI r)) K = some out) (hd : decode cc pc = .ok (.putfield 12, 3)) (kk : ∀ (h1 : Hp) (H1 : Heap) (locs1 : List Loc), K h1 = some out → XW Z h1 g s.heap H1 locs1 → W p l e R s m args below meth c H1 locs1 cells slots Q (F0 m (pc + 3) ls rest)) : W p l e R s m args below meth c H locs cells slots Q (F0 m pc ls (.ref (Z.1 r) :: .ref (Z.1 o) :: rest)) := by
  have hs : (wl Z h g).set o (Z.1 o, .inr (1, ([.ref (Z.1 (ix (h o 0))), .ref (Z.1 18), .int (h o 2), .ref (Z.1 4), .ref (Z.1 5), .ref (Z.1 6), .ref (Z.1 7), .ref (Z.1 8), .int (h o 8), .ref (Z.1 9), .ref (Z.1 10), .int (h o 11), .ref (Z.1 11), .int (h o 13), .int (h o 14), .ref (Z.1 12)]).set 0 (.ref (Z.1 r)))) = wl Z (up h o 0 (nI r)) g := by
    have h1 := k_lt hk (by decide)
    refine wl_set h1 ?_ mx_upl
    rw [up_eq]
    rw [cel_k hk]
    have e1 : ix (nI r) = r := nI_clamp (Nat.lt_of_lt_of_le (k_lt hr (by decide)) (by decide))
    show (Sum.inr (1, ([.ref (Z.1 (ix (nI r))), .ref (Z.1 18), .int (h o 2), .ref (Z.1 4), .ref (Z.1 5), .ref (Z.1 6), .ref (Z.1 7), .ref (Z.1 8), .int (h o 8), .ref (Z.1 9), .ref (Z.1 10), .int (h o 11), .ref (Z.1 11), .int (h o 13), .int (h o 14), .ref (Z.1 12)] : List Value)) : va_E) = _
    rw [e1]
    rfl
  exact x_put C hW (wk1 hk) rfl wsX1_in tyX1 tyX1_ok nmX1 0 (by decide) (ml_X1_12) rfl rfl (ty := .object "TranscriptCutter$Recording") (by decide +kernel) (rfl) (rfl) (Nat.le_of_ble_eq_true rfl) hs hd (fun H1 locs1 q => kk _ H1 locs1 hf q)
theorem ml_X10_86 : Cond.fieldLink RX10 86 RX1 (TX1 0).2.1 (TX1 0).2.2.1 ∈ TW := TW_of 218 (by decide +kernel) (by decide +kernel)
theorem xg_X10_86 (C : CX p s m args meth c cc RX10 nL ret Z g) (hW : XW Z h g s.heap H locs) {o : Nat} (hk : knd o = 1) {α : Type} {K : Nat → Option α} {out : α} (hf : ckp (h o 0) 4 K = some out) (hd : decode cc pc = .ok (.getfield 86, 3)) (kk : ∀ r : Nat, knd r = 4 → K r = some out → W p l e R s m args below meth c H locs cells slots Q (F0 m (pc + 3) ls (.ref (Z.1 r) :: rest))) : W p l e R s m args below meth c H locs cells slots Q (F0 m pc ls (.ref (Z.1 o) :: rest)) := by
  obtain ⟨h1, h2⟩ := ckp_t hf
  exact x_get C hW (wk1 hk) rfl wsX1_in 0 (by decide) (ml_X10_86) rfl (v := .ref (Z.1 (ix (h o 0)))) rfl hd (kk _ h1 h2)
theorem xp_X10_86 (C : CX p s m args meth c cc RX10 nL ret Z g) (hW : XW Z h g s.heap H locs) {o : Nat} (hk : knd o = 1) {r : Nat} (hr : knd r = 4) {α : Type} {K : Hp → Option α} {out : α} (hf : stp (up h o 0 (nI r)) K = some out) (hd : decode cc pc = .ok (.putfield 86, 3)) (kk : ∀ (h1 : Hp) (H1 : Heap) (locs1 : List Loc), K h1 = some out → XW Z h1 g s.heap H1 locs1 → W p l e R s m args below meth c H1 locs1 cells slots Q (F0 m (pc + 3) ls rest)) : W p l e R s m args below meth c H locs cells slots Q (F0 m pc ls (.ref (Z.1 r) :: .ref (Z.1 o) :: rest)) := by
  have hs : (wl Z h g).set o (Z.1 o, .inr (1, ([.ref (Z.1 (ix (h o 0))), .ref (Z.1 18), .int (h o 2), .ref (Z.1 4), .ref (Z.1 5), .ref (Z.1 6), .ref (Z.1 7), .ref (Z.1 8), .int (h o 8), .ref (Z.1 9), .ref (Z.1 10), .int (h o 11), .ref (Z.1 11), .int (h o 13), .int (h o 14), .ref (Z.1 12)]).set 0 (.ref (Z.1 r)))) = wl Z (up h o 0 (nI r)) g := by
    have h1 := k_lt hk (by decide)
    refine wl_set h1 ?_ mx_upl
    rw [up_eq]
    rw [cel_k hk]
    have e1 : ix (nI r) = r := nI_clamp (Nat.lt_of_lt_of_le (k_lt hr (by decide)) (by decide))
    show (Sum.inr (1, ([.ref (Z.1 (ix (nI r))), .ref (Z.1 18), .int (h o 2), .ref (Z.1 4), .ref (Z.1 5), .ref (Z.1 6), .ref (Z.1 7), .ref (Z.1 8), .int (h o 8), .ref (Z.1 9), .ref (Z.1 10), .int (h o 11), .ref (Z.1 11), .int (h o 13), .int (h o 14), .ref (Z.1 12)] : List Value)) : va_E) = _
    rw [e1]
    rfl
  exact x_put C hW (wk1 hk) rfl wsX1_in tyX1 tyX1_ok nmX1 0 (by decide) (ml_X10_86) rfl rfl (ty := .object "TranscriptCutter$Recording") (by decide +kernel) (rfl) (rfl) (Nat.le_of_ble_eq_true rfl) hs hd (fun H1 locs1 q => kk _ H1 locs1 hf q)
theorem ml_X1_21 : Cond.fieldLink RX1 21 RX1 (TX1 1).2.1 (TX1 1).2.2.1 ∈ TW := TW_of 219 (by decide +kernel) (by decide +kernel)
theorem xg_X1_21 (C : CX p s m args meth c cc RX1 nL ret Z g) (hW : XW Z h g s.heap H locs) {o : Nat} (hk : knd o = 1) (hd : decode cc pc = .ok (.getfield 21, 3)) (kk : W p l e R s m args below meth c H locs cells slots Q (F0 m (pc + 3) ls (.ref (Z.1 18) :: rest))) : W p l e R s m args below meth c H locs cells slots Q (F0 m pc ls (.ref (Z.1 o) :: rest)) := x_get C hW (wk1 hk) rfl wsX1_in 1 (by decide) (ml_X1_21) rfl (v := .ref (Z.1 18)) rfl hd kk
theorem ml_X10_183 : Cond.fieldLink RX10 183 RX1 (TX1 1).2.1 (TX1 1).2.2.1 ∈ TW := TW_of 220 (by decide +kernel) (by decide +kernel)
theorem xg_X10_183 (C : CX p s m args meth c cc RX10 nL ret Z g) (hW : XW Z h g s.heap H locs) {o : Nat} (hk : knd o = 1) (hd : decode cc pc = .ok (.getfield 183, 3)) (kk : W p l e R s m args below meth c H locs cells slots Q (F0 m (pc + 3) ls (.ref (Z.1 18) :: rest))) : W p l e R s m args below meth c H locs cells slots Q (F0 m pc ls (.ref (Z.1 o) :: rest)) := x_get C hW (wk1 hk) rfl wsX1_in 1 (by decide) (ml_X10_183) rfl (v := .ref (Z.1 18)) rfl hd kk
theorem ml_X1_64 : Cond.fieldLink RX1 64 RX1 (TX1 2).2.1 (TX1 2).2.2.1 ∈ TW := TW_of 221 (by decide +kernel) (by decide +kernel)
theorem xg_X1_64 (C : CX p s m args meth c cc RX1 nL ret Z g) (hW : XW Z h g s.heap H locs) {o : Nat} (hk : knd o = 1) (hd : decode cc pc = .ok (.getfield 64, 3)) (kk : W p l e R s m args below meth c H locs cells slots Q (F0 m (pc + 3) ls (.int (h o 2) :: rest))) : W p l e R s m args below meth c H locs cells slots Q (F0 m pc ls (.ref (Z.1 o) :: rest)) := x_get C hW (wk1 hk) rfl wsX1_in 2 (by decide) (ml_X1_64) rfl (v := .int (h o 2)) rfl hd kk
theorem xp_X1_64 (C : CX p s m args meth c cc RX1 nL ret Z g) (hW : XW Z h g s.heap H locs) {o : Nat} (hk : knd o = 1) {v : Int32} {α : Type} {K : Hp → Option α} {out : α} (hf : stp (up h o 2 v) K = some out) (hd : decode cc pc = .ok (.putfield 64, 3)) (kk : ∀ (h1 : Hp) (H1 : Heap) (locs1 : List Loc), K h1 = some out → XW Z h1 g s.heap H1 locs1 → W p l e R s m args below meth c H1 locs1 cells slots Q (F0 m (pc + 3) ls rest)) : W p l e R s m args below meth c H locs cells slots Q (F0 m pc ls (.int v :: .ref (Z.1 o) :: rest)) := by
  have hs : (wl Z h g).set o (Z.1 o, .inr (1, ([.ref (Z.1 (ix (h o 0))), .ref (Z.1 18), .int (h o 2), .ref (Z.1 4), .ref (Z.1 5), .ref (Z.1 6), .ref (Z.1 7), .ref (Z.1 8), .int (h o 8), .ref (Z.1 9), .ref (Z.1 10), .int (h o 11), .ref (Z.1 11), .int (h o 13), .int (h o 14), .ref (Z.1 12)]).set 2 (.int v))) = wl Z (up h o 2 v) g := by
    have h1 := k_lt hk (by decide)
    refine wl_set h1 ?_ mx_upl
    rw [up_eq]
    rw [cel_k hk]
    rfl
  exact x_put C hW (wk1 hk) rfl wsX1_in tyX1 tyX1_ok nmX1 2 (by decide) (ml_X1_64) rfl rfl (ty := .int) (by decide +kernel) (rfl) (rfl) (Nat.le_of_ble_eq_true rfl) hs hd (fun H1 locs1 q => kk _ H1 locs1 hf q)
theorem ml_X10_226 : Cond.fieldLink RX10 226 RX1 (TX1 2).2.1 (TX1 2).2.2.1 ∈ TW := TW_of 222 (by decide +kernel) (by decide +kernel)
theorem xg_X10_226 (C : CX p s m args meth c cc RX10 nL ret Z g) (hW : XW Z h g s.heap H locs) {o : Nat} (hk : knd o = 1) (hd : decode cc pc = .ok (.getfield 226, 3)) (kk : W p l e R s m args below meth c H locs cells slots Q (F0 m (pc + 3) ls (.int (h o 2) :: rest))) : W p l e R s m args below meth c H locs cells slots Q (F0 m pc ls (.ref (Z.1 o) :: rest)) := x_get C hW (wk1 hk) rfl wsX1_in 2 (by decide) (ml_X10_226) rfl (v := .int (h o 2)) rfl hd kk
theorem xp_X10_226 (C : CX p s m args meth c cc RX10 nL ret Z g) (hW : XW Z h g s.heap H locs) {o : Nat} (hk : knd o = 1) {v : Int32} {α : Type} {K : Hp → Option α} {out : α} (hf : stp (up h o 2 v) K = some out) (hd : decode cc pc = .ok (.putfield 226, 3)) (kk : ∀ (h1 : Hp) (H1 : Heap) (locs1 : List Loc), K h1 = some out → XW Z h1 g s.heap H1 locs1 → W p l e R s m args below meth c H1 locs1 cells slots Q (F0 m (pc + 3) ls rest)) : W p l e R s m args below meth c H locs cells slots Q (F0 m pc ls (.int v :: .ref (Z.1 o) :: rest)) := by
  have hs : (wl Z h g).set o (Z.1 o, .inr (1, ([.ref (Z.1 (ix (h o 0))), .ref (Z.1 18), .int (h o 2), .ref (Z.1 4), .ref (Z.1 5), .ref (Z.1 6), .ref (Z.1 7), .ref (Z.1 8), .int (h o 8), .ref (Z.1 9), .ref (Z.1 10), .int (h o 11), .ref (Z.1 11), .int (h o 13), .int (h o 14), .ref (Z.1 12)]).set 2 (.int v))) = wl Z (up h o 2 v) g := by
    have h1 := k_lt hk (by decide)
    refine wl_set h1 ?_ mx_upl
    rw [up_eq]
    rw [cel_k hk]
    rfl
  exact x_put C hW (wk1 hk) rfl wsX1_in tyX1 tyX1_ok nmX1 2 (by decide) (ml_X10_226) rfl rfl (ty := .int) (by decide +kernel) (rfl) (rfl) (Nat.le_of_ble_eq_true rfl) hs hd (fun H1 locs1 q => kk _ H1 locs1 hf q)
theorem ml_X1_25 : Cond.fieldLink RX1 25 RX1 (TX1 3).2.1 (TX1 3).2.2.1 ∈ TW := TW_of 223 (by decide +kernel) (by decide +kernel)
theorem xg_X1_25 (C : CX p s m args meth c cc RX1 nL ret Z g) (hW : XW Z h g s.heap H locs) {o : Nat} (hk : knd o = 1) (hd : decode cc pc = .ok (.getfield 25, 3)) (kk : W p l e R s m args below meth c H locs cells slots Q (F0 m (pc + 3) ls (.ref (Z.1 4) :: rest))) : W p l e R s m args below meth c H locs cells slots Q (F0 m pc ls (.ref (Z.1 o) :: rest)) := x_get C hW (wk1 hk) rfl wsX1_in 3 (by decide) (ml_X1_25) rfl (v := .ref (Z.1 4)) rfl hd kk
theorem ml_X10_217 : Cond.fieldLink RX10 217 RX1 (TX1 3).2.1 (TX1 3).2.2.1 ∈ TW := TW_of 224 (by decide +kernel) (by decide +kernel)
theorem xg_X10_217 (C : CX p s m args meth c cc RX10 nL ret Z g) (hW : XW Z h g s.heap H locs) {o : Nat} (hk : knd o = 1) (hd : decode cc pc = .ok (.getfield 217, 3)) (kk : W p l e R s m args below meth c H locs cells slots Q (F0 m (pc + 3) ls (.ref (Z.1 4) :: rest))) : W p l e R s m args below meth c H locs cells slots Q (F0 m pc ls (.ref (Z.1 o) :: rest)) := x_get C hW (wk1 hk) rfl wsX1_in 3 (by decide) (ml_X10_217) rfl (v := .ref (Z.1 4)) rfl hd kk
theorem ml_X1_29 : Cond.fieldLink RX1 29 RX1 (TX1 4).2.1 (TX1 4).2.2.1 ∈ TW := TW_of 225 (by decide +kernel) (by decide +kernel)
theorem xg_X1_29 (C : CX p s m args meth c cc RX1 nL ret Z g) (hW : XW Z h g s.heap H locs) {o : Nat} (hk : knd o = 1) (hd : decode cc pc = .ok (.getfield 29, 3)) (kk : W p l e R s m args below meth c H locs cells slots Q (F0 m (pc + 3) ls (.ref (Z.1 5) :: rest))) : W p l e R s m args below meth c H locs cells slots Q (F0 m pc ls (.ref (Z.1 o) :: rest)) := x_get C hW (wk1 hk) rfl wsX1_in 4 (by decide) (ml_X1_29) rfl (v := .ref (Z.1 5)) rfl hd kk
theorem ml_X10_220 : Cond.fieldLink RX10 220 RX1 (TX1 4).2.1 (TX1 4).2.2.1 ∈ TW := TW_of 226 (by decide +kernel) (by decide +kernel)
theorem xg_X10_220 (C : CX p s m args meth c cc RX10 nL ret Z g) (hW : XW Z h g s.heap H locs) {o : Nat} (hk : knd o = 1) (hd : decode cc pc = .ok (.getfield 220, 3)) (kk : W p l e R s m args below meth c H locs cells slots Q (F0 m (pc + 3) ls (.ref (Z.1 5) :: rest))) : W p l e R s m args below meth c H locs cells slots Q (F0 m pc ls (.ref (Z.1 o) :: rest)) := x_get C hW (wk1 hk) rfl wsX1_in 4 (by decide) (ml_X10_220) rfl (v := .ref (Z.1 5)) rfl hd kk
theorem ml_X1_32 : Cond.fieldLink RX1 32 RX1 (TX1 5).2.1 (TX1 5).2.2.1 ∈ TW := TW_of 227 (by decide +kernel) (by decide +kernel)
theorem xg_X1_32 (C : CX p s m args meth c cc RX1 nL ret Z g) (hW : XW Z h g s.heap H locs) {o : Nat} (hk : knd o = 1) (hd : decode cc pc = .ok (.getfield 32, 3)) (kk : W p l e R s m args below meth c H locs cells slots Q (F0 m (pc + 3) ls (.ref (Z.1 6) :: rest))) : W p l e R s m args below meth c H locs cells slots Q (F0 m pc ls (.ref (Z.1 o) :: rest)) := x_get C hW (wk1 hk) rfl wsX1_in 5 (by decide) (ml_X1_32) rfl (v := .ref (Z.1 6)) rfl hd kk
theorem ml_X10_223 : Cond.fieldLink RX10 223 RX1 (TX1 5).2.1 (TX1 5).2.2.1 ∈ TW := TW_of 228 (by decide +kernel) (by decide +kernel)
theorem xg_X10_223 (C : CX p s m args meth c cc RX10 nL ret Z g) (hW : XW Z h g s.heap H locs) {o : Nat} (hk : knd o = 1) (hd : decode cc pc = .ok (.getfield 223, 3)) (kk : W p l e R s m args below meth c H locs cells slots Q (F0 m (pc + 3) ls (.ref (Z.1 6) :: rest))) : W p l e R s m args below meth c H locs cells slots Q (F0 m pc ls (.ref (Z.1 o) :: rest)) := x_get C hW (wk1 hk) rfl wsX1_in 5 (by decide) (ml_X10_223) rfl (v := .ref (Z.1 6)) rfl hd kk
theorem ml_X1_35 : Cond.fieldLink RX1 35 RX1 (TX1 6).2.1 (TX1 6).2.2.1 ∈ TW := TW_of 229 (by decide +kernel) (by decide +kernel)
theorem xg_X1_35 (C : CX p s m args meth c cc RX1 nL ret Z g) (hW : XW Z h g s.heap H locs) {o : Nat} (hk : knd o = 1) (hd : decode cc pc = .ok (.getfield 35, 3)) (kk : W p l e R s m args below meth c H locs cells slots Q (F0 m (pc + 3) ls (.ref (Z.1 7) :: rest))) : W p l e R s m args below meth c H locs cells slots Q (F0 m pc ls (.ref (Z.1 o) :: rest)) := x_get C hW (wk1 hk) rfl wsX1_in 6 (by decide) (ml_X1_35) rfl (v := .ref (Z.1 7)) rfl hd kk
theorem ml_X1_38 : Cond.fieldLink RX1 38 RX1 (TX1 7).2.1 (TX1 7).2.2.1 ∈ TW := TW_of 230 (by decide +kernel) (by decide +kernel)
theorem xg_X1_38 (C : CX p s m args meth c cc RX1 nL ret Z g) (hW : XW Z h g s.heap H locs) {o : Nat} (hk : knd o = 1) (hd : decode cc pc = .ok (.getfield 38, 3)) (kk : W p l e R s m args below meth c H locs cells slots Q (F0 m (pc + 3) ls (.ref (Z.1 8) :: rest))) : W p l e R s m args below meth c H locs cells slots Q (F0 m pc ls (.ref (Z.1 o) :: rest)) := x_get C hW (wk1 hk) rfl wsX1_in 7 (by decide) (ml_X1_38) rfl (v := .ref (Z.1 8)) rfl hd kk
theorem ml_X10_195 : Cond.fieldLink RX10 195 RX1 (TX1 7).2.1 (TX1 7).2.2.1 ∈ TW := TW_of 231 (by decide +kernel) (by decide +kernel)
theorem xg_X10_195 (C : CX p s m args meth c cc RX10 nL ret Z g) (hW : XW Z h g s.heap H locs) {o : Nat} (hk : knd o = 1) (hd : decode cc pc = .ok (.getfield 195, 3)) (kk : W p l e R s m args below meth c H locs cells slots Q (F0 m (pc + 3) ls (.ref (Z.1 8) :: rest))) : W p l e R s m args below meth c H locs cells slots Q (F0 m pc ls (.ref (Z.1 o) :: rest)) := x_get C hW (wk1 hk) rfl wsX1_in 7 (by decide) (ml_X10_195) rfl (v := .ref (Z.1 8)) rfl hd kk
theorem ml_X1_67 : Cond.fieldLink RX1 67 RX1 (TX1 8).2.1 (TX1 8).2.2.1 ∈ TW := TW_of 232 (by decide +kernel) (by decide +kernel)
theorem xg_X1_67 (C : CX p s m args meth c cc RX1 nL ret Z g) (hW : XW Z h g s.heap H locs) {o : Nat} (hk : knd o = 1) (hd : decode cc pc = .ok (.getfield 67, 3)) (kk : W p l e R s m args below meth c H locs cells slots Q (F0 m (pc + 3) ls (.int (h o 8) :: rest))) : W p l e R s m args below meth c H locs cells slots Q (F0 m pc ls (.ref (Z.1 o) :: rest)) := x_get C hW (wk1 hk) rfl wsX1_in 8 (by decide) (ml_X1_67) rfl (v := .int (h o 8)) rfl hd kk
theorem xp_X1_67 (C : CX p s m args meth c cc RX1 nL ret Z g) (hW : XW Z h g s.heap H locs) {o : Nat} (hk : knd o = 1) {v : Int32} {α : Type} {K : Hp → Option α} {out : α} (hf : stp (up h o 8 v) K = some out) (hd : decode cc pc = .ok (.putfield 67, 3)) (kk : ∀ (h1 : Hp) (H1 : Heap) (locs1 : List Loc), K h1 = some out → XW Z h1 g s.heap H1 locs1 → W p l e R s m args below meth c H1 locs1 cells slots Q (F0 m (pc + 3) ls rest)) : W p l e R s m args below meth c H locs cells slots Q (F0 m pc ls (.int v :: .ref (Z.1 o) :: rest)) := by
  have hs : (wl Z h g).set o (Z.1 o, .inr (1, ([.ref (Z.1 (ix (h o 0))), .ref (Z.1 18), .int (h o 2), .ref (Z.1 4), .ref (Z.1 5), .ref (Z.1 6), .ref (Z.1 7), .ref (Z.1 8), .int (h o 8), .ref (Z.1 9), .ref (Z.1 10), .int (h o 11), .ref (Z.1 11), .int (h o 13), .int (h o 14), .ref (Z.1 12)]).set 8 (.int v))) = wl Z (up h o 8 v) g := by
    have h1 := k_lt hk (by decide)
    refine wl_set h1 ?_ mx_upl
    rw [up_eq]
    rw [cel_k hk]
    rfl
  exact x_put C hW (wk1 hk) rfl wsX1_in tyX1 tyX1_ok nmX1 8 (by decide) (ml_X1_67) rfl rfl (ty := .int) (by decide +kernel) (rfl) (rfl) (Nat.le_of_ble_eq_true rfl) hs hd (fun H1 locs1 q => kk _ H1 locs1 hf q)
theorem ml_X10_257 : Cond.fieldLink RX10 257 RX1 (TX1 8).2.1 (TX1 8).2.2.1 ∈ TW := TW_of 233 (by decide +kernel) (by decide +kernel)
theorem xg_X10_257 (C : CX p s m args meth c cc RX10 nL ret Z g) (hW : XW Z h g s.heap H locs) {o : Nat} (hk : knd o = 1) (hd : decode cc pc = .ok (.getfield 257, 3)) (kk : W p l e R s m args below meth c H locs cells slots Q (F0 m (pc + 3) ls (.int (h o 8) :: rest))) : W p l e R s m args below meth c H locs cells slots Q (F0 m pc ls (.ref (Z.1 o) :: rest)) := x_get C hW (wk1 hk) rfl wsX1_in 8 (by decide) (ml_X10_257) rfl (v := .int (h o 8)) rfl hd kk
theorem xp_X10_257 (C : CX p s m args meth c cc RX10 nL ret Z g) (hW : XW Z h g s.heap H locs) {o : Nat} (hk : knd o = 1) {v : Int32} {α : Type} {K : Hp → Option α} {out : α} (hf : stp (up h o 8 v) K = some out) (hd : decode cc pc = .ok (.putfield 257, 3)) (kk : ∀ (h1 : Hp) (H1 : Heap) (locs1 : List Loc), K h1 = some out → XW Z h1 g s.heap H1 locs1 → W p l e R s m args below meth c H1 locs1 cells slots Q (F0 m (pc + 3) ls rest)) : W p l e R s m args below meth c H locs cells slots Q (F0 m pc ls (.int v :: .ref (Z.1 o) :: rest)) := by
  have hs : (wl Z h g).set o (Z.1 o, .inr (1, ([.ref (Z.1 (ix (h o 0))), .ref (Z.1 18), .int (h o 2), .ref (Z.1 4), .ref (Z.1 5), .ref (Z.1 6), .ref (Z.1 7), .ref (Z.1 8), .int (h o 8), .ref (Z.1 9), .ref (Z.1 10), .int (h o 11), .ref (Z.1 11), .int (h o 13), .int (h o 14), .ref (Z.1 12)]).set 8 (.int v))) = wl Z (up h o 8 v) g := by
    have h1 := k_lt hk (by decide)
    refine wl_set h1 ?_ mx_upl
    rw [up_eq]
    rw [cel_k hk]
    rfl
  exact x_put C hW (wk1 hk) rfl wsX1_in tyX1 tyX1_ok nmX1 8 (by decide) (ml_X10_257) rfl rfl (ty := .int) (by decide +kernel) (rfl) (rfl) (Nat.le_of_ble_eq_true rfl) hs hd (fun H1 locs1 q => kk _ H1 locs1 hf q)
theorem ml_X1_41 : Cond.fieldLink RX1 41 RX1 (TX1 9).2.1 (TX1 9).2.2.1 ∈ TW := TW_of 234 (by decide +kernel) (by decide +kernel)
theorem xg_X1_41 (C : CX p s m args meth c cc RX1 nL ret Z g) (hW : XW Z h g s.heap H locs) {o : Nat} (hk : knd o = 1) (hd : decode cc pc = .ok (.getfield 41, 3)) (kk : W p l e R s m args below meth c H locs cells slots Q (F0 m (pc + 3) ls (.ref (Z.1 9) :: rest))) : W p l e R s m args below meth c H locs cells slots Q (F0 m pc ls (.ref (Z.1 o) :: rest)) := x_get C hW (wk1 hk) rfl wsX1_in 9 (by decide) (ml_X1_41) rfl (v := .ref (Z.1 9)) rfl hd kk
theorem ml_X10_260 : Cond.fieldLink RX10 260 RX1 (TX1 9).2.1 (TX1 9).2.2.1 ∈ TW := TW_of 235 (by decide +kernel) (by decide +kernel)
theorem xg_X10_260 (C : CX p s m args meth c cc RX10 nL ret Z g) (hW : XW Z h g s.heap H locs) {o : Nat} (hk : knd o = 1) (hd : decode cc pc = .ok (.getfield 260, 3)) (kk : W p l e R s m args below meth c H locs cells slots Q (F0 m (pc + 3) ls (.ref (Z.1 9) :: rest))) : W p l e R s m args below meth c H locs cells slots Q (F0 m pc ls (.ref (Z.1 o) :: rest)) := x_get C hW (wk1 hk) rfl wsX1_in 9 (by decide) (ml_X10_260) rfl (v := .ref (Z.1 9)) rfl hd kk
theorem ml_X1_44 : Cond.fieldLink RX1 44 RX1 (TX1 10).2.1 (TX1 10).2.2.1 ∈ TW := TW_of 236 (by decide +kernel) (by decide +kernel)
theorem xg_X1_44 (C : CX p s m args meth c cc RX1 nL ret Z g) (hW : XW Z h g s.heap H locs) {o : Nat} (hk : knd o = 1) (hd : decode cc pc = .ok (.getfield 44, 3)) (kk : W p l e R s m args below meth c H locs cells slots Q (F0 m (pc + 3) ls (.ref (Z.1 10) :: rest))) : W p l e R s m args below meth c H locs cells slots Q (F0 m pc ls (.ref (Z.1 o) :: rest)) := x_get C hW (wk1 hk) rfl wsX1_in 10 (by decide) (ml_X1_44) rfl (v := .ref (Z.1 10)) rfl hd kk
theorem ml_X10_263 : Cond.fieldLink RX10 263 RX1 (TX1 10).2.1 (TX1 10).2.2.1 ∈ TW := TW_of 237 (by decide +kernel) (by decide +kernel)
theorem xg_X10_263 (C : CX p s m args meth c cc RX10 nL ret Z g) (hW : XW Z h g s.heap H locs) {o : Nat} (hk : knd o = 1) (hd : decode cc pc = .ok (.getfield 263, 3)) (kk : W p l e R s m args below meth c H locs cells slots Q (F0 m (pc + 3) ls (.ref (Z.1 10) :: rest))) : W p l e R s m args below meth c H locs cells slots Q (F0 m pc ls (.ref (Z.1 o) :: rest)) := x_get C hW (wk1 hk) rfl wsX1_in 10 (by decide) (ml_X10_263) rfl (v := .ref (Z.1 10)) rfl hd kk
theorem ml_X1_106 : Cond.fieldLink RX1 106 RX1 (TX1 11).2.1 (TX1 11).2.2.1 ∈ TW := TW_of 238 (by decide +kernel) (by decide +kernel)
theorem xg_X1_106 (C : CX p s m args meth c cc RX1 nL ret Z g) (hW : XW Z h g s.heap H locs) {o : Nat} (hk : knd o = 1) (hd : decode cc pc = .ok (.getfield 106, 3)) (kk : W p l e R s m args below meth c H locs cells slots Q (F0 m (pc + 3) ls (.int (h o 11) :: rest))) : W p l e R s m args below meth c H locs cells slots Q (F0 m pc ls (.ref (Z.1 o) :: rest)) := x_get C hW (wk1 hk) rfl wsX1_in 11 (by decide) (ml_X1_106) rfl (v := .int (h o 11)) rfl hd kk
theorem xp_X1_106 (C : CX p s m args meth c cc RX1 nL ret Z g) (hW : XW Z h g s.heap H locs) {o : Nat} (hk : knd o = 1) {v : Int32} {α : Type} {K : Hp → Option α} {out : α} (hf : stp (up h o 11 v) K = some out) (hd : decode cc pc = .ok (.putfield 106, 3)) (kk : ∀ (h1 : Hp) (H1 : Heap) (locs1 : List Loc), K h1 = some out → XW Z h1 g s.heap H1 locs1 → W p l e R s m args below meth c H1 locs1 cells slots Q (F0 m (pc + 3) ls rest)) : W p l e R s m args below meth c H locs cells slots Q (F0 m pc ls (.int v :: .ref (Z.1 o) :: rest)) := by
  have hs : (wl Z h g).set o (Z.1 o, .inr (1, ([.ref (Z.1 (ix (h o 0))), .ref (Z.1 18), .int (h o 2), .ref (Z.1 4), .ref (Z.1 5), .ref (Z.1 6), .ref (Z.1 7), .ref (Z.1 8), .int (h o 8), .ref (Z.1 9), .ref (Z.1 10), .int (h o 11), .ref (Z.1 11), .int (h o 13), .int (h o 14), .ref (Z.1 12)]).set 11 (.int v))) = wl Z (up h o 11 v) g := by
    have h1 := k_lt hk (by decide)
    refine wl_set h1 ?_ mx_upl
    rw [up_eq]
    rw [cel_k hk]
    rfl
  exact x_put C hW (wk1 hk) rfl wsX1_in tyX1 tyX1_ok nmX1 11 (by decide) (ml_X1_106) rfl rfl (ty := .int) (by decide +kernel) (rfl) (rfl) (Nat.le_of_ble_eq_true rfl) hs hd (fun H1 locs1 q => kk _ H1 locs1 hf q)
theorem ml_X1_47 : Cond.fieldLink RX1 47 RX1 (TX1 12).2.1 (TX1 12).2.2.1 ∈ TW := TW_of 239 (by decide +kernel) (by decide +kernel)
theorem xg_X1_47 (C : CX p s m args meth c cc RX1 nL ret Z g) (hW : XW Z h g s.heap H locs) {o : Nat} (hk : knd o = 1) (hd : decode cc pc = .ok (.getfield 47, 3)) (kk : W p l e R s m args below meth c H locs cells slots Q (F0 m (pc + 3) ls (.ref (Z.1 11) :: rest))) : W p l e R s m args below meth c H locs cells slots Q (F0 m pc ls (.ref (Z.1 o) :: rest)) := x_get C hW (wk1 hk) rfl wsX1_in 12 (by decide) (ml_X1_47) rfl (v := .ref (Z.1 11)) rfl hd kk
theorem ml_X1_109 : Cond.fieldLink RX1 109 RX1 (TX1 13).2.1 (TX1 13).2.2.1 ∈ TW := TW_of 240 (by decide +kernel) (by decide +kernel)
theorem xg_X1_109 (C : CX p s m args meth c cc RX1 nL ret Z g) (hW : XW Z h g s.heap H locs) {o : Nat} (hk : knd o = 1) (hd : decode cc pc = .ok (.getfield 109, 3)) (kk : W p l e R s m args below meth c H locs cells slots Q (F0 m (pc + 3) ls (.int (h o 13) :: rest))) : W p l e R s m args below meth c H locs cells slots Q (F0 m pc ls (.ref (Z.1 o) :: rest)) := x_get C hW (wk1 hk) rfl wsX1_in 13 (by decide) (ml_X1_109) rfl (v := .int (h o 13)) rfl hd kk
theorem xp_X1_109 (C : CX p s m args meth c cc RX1 nL ret Z g) (hW : XW Z h g s.heap H locs) {o : Nat} (hk : knd o = 1) {v : Int32} {α : Type} {K : Hp → Option α} {out : α} (hf : stp (up h o 13 v) K = some out) (hd : decode cc pc = .ok (.putfield 109, 3)) (kk : ∀ (h1 : Hp) (H1 : Heap) (locs1 : List Loc), K h1 = some out → XW Z h1 g s.heap H1 locs1 → W p l e R s m args below meth c H1 locs1 cells slots Q (F0 m (pc + 3) ls rest)) : W p l e R s m args below meth c H locs cells slots Q (F0 m pc ls (.int v :: .ref (Z.1 o) :: rest)) := by
  have hs : (wl Z h g).set o (Z.1 o, .inr (1, ([.ref (Z.1 (ix (h o 0))), .ref (Z.1 18), .int (h o 2), .ref (Z.1 4), .ref (Z.1 5), .ref (Z.1 6), .ref (Z.1 7), .ref (Z.1 8), .int (h o 8), .ref (Z.1 9), .ref (Z.1 10), .int (h o 11), .ref (Z.1 11), .int (h o 13), .int (h o 14), .ref (Z.1 12)]).set 13 (.int v))) = wl Z (up h o 13 v) g := by
    have h1 := k_lt hk (by decide)
    refine wl_set h1 ?_ mx_upl
    rw [up_eq]
    rw [cel_k hk]
    rfl
  exact x_put C hW (wk1 hk) rfl wsX1_in tyX1 tyX1_ok nmX1 13 (by decide) (ml_X1_109) rfl rfl (ty := .int) (by decide +kernel) (rfl) (rfl) (Nat.le_of_ble_eq_true rfl) hs hd (fun H1 locs1 q => kk _ H1 locs1 hf q)
theorem ml_X1_112 : Cond.fieldLink RX1 112 RX1 (TX1 14).2.1 (TX1 14).2.2.1 ∈ TW := TW_of 241 (by decide +kernel) (by decide +kernel)
theorem xg_X1_112 (C : CX p s m args meth c cc RX1 nL ret Z g) (hW : XW Z h g s.heap H locs) {o : Nat} (hk : knd o = 1) (hd : decode cc pc = .ok (.getfield 112, 3)) (kk : W p l e R s m args below meth c H locs cells slots Q (F0 m (pc + 3) ls (.int (h o 14) :: rest))) : W p l e R s m args below meth c H locs cells slots Q (F0 m pc ls (.ref (Z.1 o) :: rest)) := x_get C hW (wk1 hk) rfl wsX1_in 14 (by decide) (ml_X1_112) rfl (v := .int (h o 14)) rfl hd kk
theorem xp_X1_112 (C : CX p s m args meth c cc RX1 nL ret Z g) (hW : XW Z h g s.heap H locs) {o : Nat} (hk : knd o = 1) {v : Int32} {α : Type} {K : Hp → Option α} {out : α} (hf : stp (up h o 14 v) K = some out) (hd : decode cc pc = .ok (.putfield 112, 3)) (kk : ∀ (h1 : Hp) (H1 : Heap) (locs1 : List Loc), K h1 = some out → XW Z h1 g s.heap H1 locs1 → W p l e R s m args below meth c H1 locs1 cells slots Q (F0 m (pc + 3) ls rest)) : W p l e R s m args below meth c H locs cells slots Q (F0 m pc ls (.int v :: .ref (Z.1 o) :: rest)) := by
  have hs : (wl Z h g).set o (Z.1 o, .inr (1, ([.ref (Z.1 (ix (h o 0))), .ref (Z.1 18), .int (h o 2), .ref (Z.1 4), .ref (Z.1 5), .ref (Z.1 6), .ref (Z.1 7), .ref (Z.1 8), .int (h o 8), .ref (Z.1 9), .ref (Z.1 10), .int (h o 11), .ref (Z.1 11), .int (h o 13), .int (h o 14), .ref (Z.1 12)]).set 14 (.int v))) = wl Z (up h o 14 v) g := by
    have h1 := k_lt hk (by decide)
    refine wl_set h1 ?_ mx_upl
    rw [up_eq]
    rw [cel_k hk]
    rfl
  exact x_put C hW (wk1 hk) rfl wsX1_in tyX1 tyX1_ok nmX1 14 (by decide) (ml_X1_112) rfl rfl (ty := .int) (by decide +kernel) (rfl) (rfl) (Nat.le_of_ble_eq_true rfl) hs hd (fun H1 locs1 q => kk _ H1 locs1 hf q)
theorem ml_X1_50 : Cond.fieldLink RX1 50 RX1 (TX1 15).2.1 (TX1 15).2.2.1 ∈ TW := TW_of 242 (by decide +kernel) (by decide +kernel)
theorem xg_X1_50 (C : CX p s m args meth c cc RX1 nL ret Z g) (hW : XW Z h g s.heap H locs) {o : Nat} (hk : knd o = 1) (hd : decode cc pc = .ok (.getfield 50, 3)) (kk : W p l e R s m args below meth c H locs cells slots Q (F0 m (pc + 3) ls (.ref (Z.1 12) :: rest))) : W p l e R s m args below meth c H locs cells slots Q (F0 m pc ls (.ref (Z.1 o) :: rest)) := x_get C hW (wk1 hk) rfl wsX1_in 15 (by decide) (ml_X1_50) rfl (v := .ref (Z.1 12)) rfl hd kk
theorem ml_X3_11 : Cond.fieldLink RX3 11 RX3 (TX3 0).2.1 (TX3 0).2.2.1 ∈ TW := TW_of 285 (by decide +kernel) (by decide +kernel)
theorem xg_X3_11 (C : CX p s m args meth c cc RX3 nL ret Z g) (hW : XW Z h g s.heap H locs) {o : Nat} (hk : knd o = 3) (hd : decode cc pc = .ok (.getfield 11, 3)) (kk : W p l e R s m args below meth c H locs cells slots Q (F0 m (pc + 3) ls (.ref (Z.1 14) :: rest))) : W p l e R s m args below meth c H locs cells slots Q (F0 m pc ls (.ref (Z.1 o) :: rest)) := x_get C hW (wk3 hk) rfl wsX3_in 0 (by decide) (ml_X3_11) rfl (v := .ref (Z.1 14)) rfl hd kk
theorem ml_X3_18 : Cond.fieldLink RX3 18 RX3 (TX3 1).2.1 (TX3 1).2.2.1 ∈ TW := TW_of 286 (by decide +kernel) (by decide +kernel)
theorem xg_X3_18 (C : CX p s m args meth c cc RX3 nL ret Z g) (hW : XW Z h g s.heap H locs) {o : Nat} (hk : knd o = 3) (hd : decode cc pc = .ok (.getfield 18, 3)) (kk : W p l e R s m args below meth c H locs cells slots Q (F0 m (pc + 3) ls (.int (h o 1) :: rest))) : W p l e R s m args below meth c H locs cells slots Q (F0 m pc ls (.ref (Z.1 o) :: rest)) := x_get C hW (wk3 hk) rfl wsX3_in 1 (by decide) (ml_X3_18) rfl (v := .int (h o 1)) rfl hd kk
theorem xp_X3_18 (C : CX p s m args meth c cc RX3 nL ret Z g) (hW : XW Z h g s.heap H locs) {o : Nat} (hk : knd o = 3) {v : Int32} {α : Type} {K : Hp → Option α} {out : α} (hf : stp (up h o 1 v) K = some out) (hd : decode cc pc = .ok (.putfield 18, 3)) (kk : ∀ (h1 : Hp) (H1 : Heap) (locs1 : List Loc), K h1 = some out → XW Z h1 g s.heap H1 locs1 → W p l e R s m args below meth c H1 locs1 cells slots Q (F0 m (pc + 3) ls rest)) : W p l e R s m args below meth c H locs cells slots Q (F0 m pc ls (.int v :: .ref (Z.1 o) :: rest)) := by
  have hs : (wl Z h g).set o (Z.1 o, .inr (3, ([.ref (Z.1 14), .int (h o 1), .int (h o 2)]).set 1 (.int v))) = wl Z (up h o 1 v) g := by
    have h1 := k_lt hk (by decide)
    refine wl_set h1 ?_ mx_upl
    rw [up_eq]
    rw [cel_k hk]
    rfl
  exact x_put C hW (wk3 hk) rfl wsX3_in tyX3 tyX3_ok nmX3 1 (by decide) (ml_X3_18) rfl rfl (ty := .int) (by decide +kernel) (rfl) (rfl) (Nat.le_of_ble_eq_true rfl) hs hd (fun H1 locs1 q => kk _ H1 locs1 hf q)
theorem ml_X3_26 : Cond.fieldLink RX3 26 RX3 (TX3 2).2.1 (TX3 2).2.2.1 ∈ TW := TW_of 287 (by decide +kernel) (by decide +kernel)
theorem xg_X3_26 (C : CX p s m args meth c cc RX3 nL ret Z g) (hW : XW Z h g s.heap H locs) {o : Nat} (hk : knd o = 3) (hd : decode cc pc = .ok (.getfield 26, 3)) (kk : W p l e R s m args below meth c H locs cells slots Q (F0 m (pc + 3) ls (.int (h o 2) :: rest))) : W p l e R s m args below meth c H locs cells slots Q (F0 m pc ls (.ref (Z.1 o) :: rest)) := x_get C hW (wk3 hk) rfl wsX3_in 2 (by decide) (ml_X3_26) rfl (v := .int (h o 2)) rfl hd kk
theorem xp_X3_26 (C : CX p s m args meth c cc RX3 nL ret Z g) (hW : XW Z h g s.heap H locs) {o : Nat} (hk : knd o = 3) {v : Int32} {α : Type} {K : Hp → Option α} {out : α} (hf : stp (up h o 2 v) K = some out) (hd : decode cc pc = .ok (.putfield 26, 3)) (kk : ∀ (h1 : Hp) (H1 : Heap) (locs1 : List Loc), K h1 = some out → XW Z h1 g s.heap H1 locs1 → W p l e R s m args below meth c H1 locs1 cells slots Q (F0 m (pc + 3) ls rest)) : W p l e R s m args below meth c H locs cells slots Q (F0 m pc ls (.int v :: .ref (Z.1 o) :: rest)) := by
  have hs : (wl Z h g).set o (Z.1 o, .inr (3, ([.ref (Z.1 14), .int (h o 1), .int (h o 2)]).set 2 (.int v))) = wl Z (up h o 2 v) g := by
    have h1 := k_lt hk (by decide)
    refine wl_set h1 ?_ mx_upl
    rw [up_eq]
    rw [cel_k hk]
    rfl
  exact x_put C hW (wk3 hk) rfl wsX3_in tyX3 tyX3_ok nmX3 2 (by decide) (ml_X3_26) rfl rfl (ty := .int) (by decide +kernel) (rfl) (rfl) (Nat.le_of_ble_eq_true rfl) hs hd (fun H1 locs1 q => kk _ H1 locs1 hf q)
theorem ml_X10_83 : Cond.fieldLink RX10 83 RX3 (TX3 2).2.1 (TX3 2).2.2.1 ∈ TW := TW_of 288 (by decide +kernel) (by decide +kernel)
theorem xg_X10_83 (C : CX p s m args meth c cc RX10 nL ret Z g) (hW : XW Z h g s.heap H locs) {o : Nat} (hk : knd o = 3) (hd : decode cc pc = .ok (.getfield 83, 3)) (kk : W p l e R s m args below meth c H locs cells slots Q (F0 m (pc + 3) ls (.int (h o 2) :: rest))) : W p l e R s m args below meth c H locs cells slots Q (F0 m pc ls (.ref (Z.1 o) :: rest)) := x_get C hW (wk3 hk) rfl wsX3_in 2 (by decide) (ml_X10_83) rfl (v := .int (h o 2)) rfl hd kk
theorem xp_X10_83 (C : CX p s m args meth c cc RX10 nL ret Z g) (hW : XW Z h g s.heap H locs) {o : Nat} (hk : knd o = 3) {v : Int32} {α : Type} {K : Hp → Option α} {out : α} (hf : stp (up h o 2 v) K = some out) (hd : decode cc pc = .ok (.putfield 83, 3)) (kk : ∀ (h1 : Hp) (H1 : Heap) (locs1 : List Loc), K h1 = some out → XW Z h1 g s.heap H1 locs1 → W p l e R s m args below meth c H1 locs1 cells slots Q (F0 m (pc + 3) ls rest)) : W p l e R s m args below meth c H locs cells slots Q (F0 m pc ls (.int v :: .ref (Z.1 o) :: rest)) := by
  have hs : (wl Z h g).set o (Z.1 o, .inr (3, ([.ref (Z.1 14), .int (h o 1), .int (h o 2)]).set 2 (.int v))) = wl Z (up h o 2 v) g := by
    have h1 := k_lt hk (by decide)
    refine wl_set h1 ?_ mx_upl
    rw [up_eq]
    rw [cel_k hk]
    rfl
  exact x_put C hW (wk3 hk) rfl wsX3_in tyX3 tyX3_ok nmX3 2 (by decide) (ml_X10_83) rfl rfl (ty := .int) (by decide +kernel) (rfl) (rfl) (Nat.le_of_ble_eq_true rfl) hs hd (fun H1 locs1 q => kk _ H1 locs1 hf q)
theorem ml_X7_9 : Cond.fieldLink RX7 9 RX6 (TX6 0).2.1 (TX6 0).2.2.1 ∈ TW := TW_of 308 (by decide +kernel) (by decide +kernel)
theorem xg_X7_9 (C : CX p s m args meth c cc RX7 nL ret Z g) (hW : XW Z h g s.heap H locs) {o : Nat} (hk : knd o = 6) (hd : decode cc pc = .ok (.getfield 9, 3)) (kk : W p l e R s m args below meth c H locs cells slots Q (F0 m (pc + 3) ls (.int (h o 0) :: rest))) : W p l e R s m args below meth c H locs cells slots Q (F0 m pc ls (.ref (Z.1 o) :: rest)) := x_get C hW (wk6 hk) rfl wsX6_in 0 (by decide) (ml_X7_9) rfl (v := .int (h o 0)) rfl hd kk
theorem xp_X7_9 (C : CX p s m args meth c cc RX7 nL ret Z g) (hW : XW Z h g s.heap H locs) {o : Nat} (hk : knd o = 6) {v : Int32} {α : Type} {K : Hp → Option α} {out : α} (hf : stp (up h o 0 v) K = some out) (hd : decode cc pc = .ok (.putfield 9, 3)) (kk : ∀ (h1 : Hp) (H1 : Heap) (locs1 : List Loc), K h1 = some out → XW Z h1 g s.heap H1 locs1 → W p l e R s m args below meth c H1 locs1 cells slots Q (F0 m (pc + 3) ls rest)) : W p l e R s m args below meth c H locs cells slots Q (F0 m pc ls (.int v :: .ref (Z.1 o) :: rest)) := by
  have hs : (wl Z h g).set o (Z.1 o, .inr (6, ([.int (h o 0), .ref (Z.1 (o + 1)), .ref (Z.1 (o + 2)), .ref (Z.1 (o + 3)), .ref (Z.1 (o + 4)), .ref (Z.1 (o + 5)), .ref (Z.1 (o + 6))]).set 0 (.int v))) = wl Z (up h o 0 v) g := by
    have h1 := k_lt hk (by decide)
    refine wl_set h1 ?_ mx_upl
    rw [up_eq]
    rw [cel_k hk]
    rfl
  exact x_put C hW (wk6 hk) rfl wsX6_in tyX6 tyX6_ok nmX6 0 (by decide) (ml_X7_9) rfl rfl (ty := .int) (by decide +kernel) (rfl) (rfl) (Nat.le_of_ble_eq_true rfl) hs hd (fun H1 locs1 q => kk _ H1 locs1 hf q)
theorem ml_X10_106 : Cond.fieldLink RX10 106 RX6 (TX6 0).2.1 (TX6 0).2.2.1 ∈ TW := TW_of 309 (by decide +kernel) (by decide +kernel)
theorem xg_X10_106 (C : CX p s m args meth c cc RX10 nL ret Z g) (hW : XW Z h g s.heap H locs) {o : Nat} (hk : knd o = 6) (hd : decode cc pc = .ok (.getfield 106, 3)) (kk : W p l e R s m args below meth c H locs cells slots Q (F0 m (pc + 3) ls (.int (h o 0) :: rest))) : W p l e R s m args below meth c H locs cells slots Q (F0 m pc ls (.ref (Z.1 o) :: rest)) := x_get C hW (wk6 hk) rfl wsX6_in 0 (by decide) (ml_X10_106) rfl (v := .int (h o 0)) rfl hd kk
theorem xp_X10_106 (C : CX p s m args meth c cc RX10 nL ret Z g) (hW : XW Z h g s.heap H locs) {o : Nat} (hk : knd o = 6) {v : Int32} {α : Type} {K : Hp → Option α} {out : α} (hf : stp (up h o 0 v) K = some out) (hd : decode cc pc = .ok (.putfield 106, 3)) (kk : ∀ (h1 : Hp) (H1 : Heap) (locs1 : List Loc), K h1 = some out → XW Z h1 g s.heap H1 locs1 → W p l e R s m args below meth c H1 locs1 cells slots Q (F0 m (pc + 3) ls rest)) : W p l e R s m args below meth c H locs cells slots Q (F0 m pc ls (.int v :: .ref (Z.1 o) :: rest)) := by
  have hs : (wl Z h g).set o (Z.1 o, .inr (6, ([.int (h o 0), .ref (Z.1 (o + 1)), .ref (Z.1 (o + 2)), .ref (Z.1 (o + 3)), .ref (Z.1 (o + 4)), .ref (Z.1 (o + 5)), .ref (Z.1 (o + 6))]).set 0 (.int v))) = wl Z (up h o 0 v) g := by
    have h1 := k_lt hk (by decide)
    refine wl_set h1 ?_ mx_upl
    rw [up_eq]
    rw [cel_k hk]
    rfl
  exact x_put C hW (wk6 hk) rfl wsX6_in tyX6 tyX6_ok nmX6 0 (by decide) (ml_X10_106) rfl rfl (ty := .int) (by decide +kernel) (rfl) (rfl) (Nat.le_of_ble_eq_true rfl) hs hd (fun H1 locs1 q => kk _ H1 locs1 hf q)
theorem ml_X6_9 : Cond.fieldLink RX6 9 RX6 (TX6 1).2.1 (TX6 1).2.2.1 ∈ TW := TW_of 310 (by decide +kernel) (by decide +kernel)
theorem xg_X6_9 (C : CX p s m args meth c cc RX6 nL ret Z g) (hW : XW Z h g s.heap H locs) {o : Nat} (hk : knd o = 6) (hd : decode cc pc = .ok (.getfield 9, 3)) (kk : W p l e R s m args below meth c H locs cells slots Q (F0 m (pc + 3) ls (.ref (Z.1 (o + 1)) :: rest))) : W p l e R s m args below meth c H locs cells slots Q (F0 m pc ls (.ref (Z.1 o) :: rest)) := x_get C hW (wk6 hk) rfl wsX6_in 1 (by decide) (ml_X6_9) rfl (v := .ref (Z.1 (o + 1))) rfl hd kk
theorem ml_X7_48 : Cond.fieldLink RX7 48 RX6 (TX6 1).2.1 (TX6 1).2.2.1 ∈ TW := TW_of 311 (by decide +kernel) (by decide +kernel)
theorem xg_X7_48 (C : CX p s m args meth c cc RX7 nL ret Z g) (hW : XW Z h g s.heap H locs) {o : Nat} (hk : knd o = 6) (hd : decode cc pc = .ok (.getfield 48, 3)) (kk : W p l e R s m args below meth c H locs cells slots Q (F0 m (pc + 3) ls (.ref (Z.1 (o + 1)) :: rest))) : W p l e R s m args below meth c H locs cells slots Q (F0 m pc ls (.ref (Z.1 o) :: rest)) := x_get C hW (wk6 hk) rfl wsX6_in 1 (by decide) (ml_X7_48) rfl (v := .ref (Z.1 (o + 1))) rfl hd kk
theorem ml_X6_15 : Cond.fieldLink RX6 15 RX6 (TX6 2).2.1 (TX6 2).2.2.1 ∈ TW := TW_of 312 (by decide +kernel) (by decide +kernel)
theorem xg_X6_15 (C : CX p s m args meth c cc RX6 nL ret Z g) (hW : XW Z h g s.heap H locs) {o : Nat} (hk : knd o = 6) (hd : decode cc pc = .ok (.getfield 15, 3)) (kk : W p l e R s m args below meth c H locs cells slots Q (F0 m (pc + 3) ls (.ref (Z.1 (o + 2)) :: rest))) : W p l e R s m args below meth c H locs cells slots Q (F0 m pc ls (.ref (Z.1 o) :: rest)) := x_get C hW (wk6 hk) rfl wsX6_in 2 (by decide) (ml_X6_15) rfl (v := .ref (Z.1 (o + 2))) rfl hd kk
theorem ml_X7_93 : Cond.fieldLink RX7 93 RX6 (TX6 2).2.1 (TX6 2).2.2.1 ∈ TW := TW_of 313 (by decide +kernel) (by decide +kernel)
theorem xg_X7_93 (C : CX p s m args meth c cc RX7 nL ret Z g) (hW : XW Z h g s.heap H locs) {o : Nat} (hk : knd o = 6) (hd : decode cc pc = .ok (.getfield 93, 3)) (kk : W p l e R s m args below meth c H locs cells slots Q (F0 m (pc + 3) ls (.ref (Z.1 (o + 2)) :: rest))) : W p l e R s m args below meth c H locs cells slots Q (F0 m pc ls (.ref (Z.1 o) :: rest)) := x_get C hW (wk6 hk) rfl wsX6_in 2 (by decide) (ml_X7_93) rfl (v := .ref (Z.1 (o + 2))) rfl hd kk
theorem ml_X6_18 : Cond.fieldLink RX6 18 RX6 (TX6 3).2.1 (TX6 3).2.2.1 ∈ TW := TW_of 314 (by decide +kernel) (by decide +kernel)
theorem xg_X6_18 (C : CX p s m args meth c cc RX6 nL ret Z g) (hW : XW Z h g s.heap H locs) {o : Nat} (hk : knd o = 6) (hd : decode cc pc = .ok (.getfield 18, 3)) (kk : W p l e R s m args below meth c H locs cells slots Q (F0 m (pc + 3) ls (.ref (Z.1 (o + 3)) :: rest))) : W p l e R s m args below meth c H locs cells slots Q (F0 m pc ls (.ref (Z.1 o) :: rest)) := x_get C hW (wk6 hk) rfl wsX6_in 3 (by decide) (ml_X6_18) rfl (v := .ref (Z.1 (o + 3))) rfl hd kk
theorem ml_X7_99 : Cond.fieldLink RX7 99 RX6 (TX6 3).2.1 (TX6 3).2.2.1 ∈ TW := TW_of 315 (by decide +kernel) (by decide +kernel)
theorem xg_X7_99 (C : CX p s m args meth c cc RX7 nL ret Z g) (hW : XW Z h g s.heap H locs) {o : Nat} (hk : knd o = 6) (hd : decode cc pc = .ok (.getfield 99, 3)) (kk : W p l e R s m args below meth c H locs cells slots Q (F0 m (pc + 3) ls (.ref (Z.1 (o + 3)) :: rest))) : W p l e R s m args below meth c H locs cells slots Q (F0 m pc ls (.ref (Z.1 o) :: rest)) := x_get C hW (wk6 hk) rfl wsX6_in 3 (by decide) (ml_X7_99) rfl (v := .ref (Z.1 (o + 3))) rfl hd kk
theorem ml_X6_21 : Cond.fieldLink RX6 21 RX6 (TX6 4).2.1 (TX6 4).2.2.1 ∈ TW := TW_of 316 (by decide +kernel) (by decide +kernel)
theorem xg_X6_21 (C : CX p s m args meth c cc RX6 nL ret Z g) (hW : XW Z h g s.heap H locs) {o : Nat} (hk : knd o = 6) (hd : decode cc pc = .ok (.getfield 21, 3)) (kk : W p l e R s m args below meth c H locs cells slots Q (F0 m (pc + 3) ls (.ref (Z.1 (o + 4)) :: rest))) : W p l e R s m args below meth c H locs cells slots Q (F0 m pc ls (.ref (Z.1 o) :: rest)) := x_get C hW (wk6 hk) rfl wsX6_in 4 (by decide) (ml_X6_21) rfl (v := .ref (Z.1 (o + 4))) rfl hd kk
theorem ml_X7_62 : Cond.fieldLink RX7 62 RX6 (TX6 4).2.1 (TX6 4).2.2.1 ∈ TW := TW_of 317 (by decide +kernel) (by decide +kernel)
theorem xg_X7_62 (C : CX p s m args meth c cc RX7 nL ret Z g) (hW : XW Z h g s.heap H locs) {o : Nat} (hk : knd o = 6) (hd : decode cc pc = .ok (.getfield 62, 3)) (kk : W p l e R s m args below meth c H locs cells slots Q (F0 m (pc + 3) ls (.ref (Z.1 (o + 4)) :: rest))) : W p l e R s m args below meth c H locs cells slots Q (F0 m pc ls (.ref (Z.1 o) :: rest)) := x_get C hW (wk6 hk) rfl wsX6_in 4 (by decide) (ml_X7_62) rfl (v := .ref (Z.1 (o + 4))) rfl hd kk
theorem ml_X6_24 : Cond.fieldLink RX6 24 RX6 (TX6 5).2.1 (TX6 5).2.2.1 ∈ TW := TW_of 318 (by decide +kernel) (by decide +kernel)
theorem xg_X6_24 (C : CX p s m args meth c cc RX6 nL ret Z g) (hW : XW Z h g s.heap H locs) {o : Nat} (hk : knd o = 6) (hd : decode cc pc = .ok (.getfield 24, 3)) (kk : W p l e R s m args below meth c H locs cells slots Q (F0 m (pc + 3) ls (.ref (Z.1 (o + 5)) :: rest))) : W p l e R s m args below meth c H locs cells slots Q (F0 m pc ls (.ref (Z.1 o) :: rest)) := x_get C hW (wk6 hk) rfl wsX6_in 5 (by decide) (ml_X6_24) rfl (v := .ref (Z.1 (o + 5))) rfl hd kk
theorem ml_X7_111 : Cond.fieldLink RX7 111 RX6 (TX6 5).2.1 (TX6 5).2.2.1 ∈ TW := TW_of 319 (by decide +kernel) (by decide +kernel)
theorem xg_X7_111 (C : CX p s m args meth c cc RX7 nL ret Z g) (hW : XW Z h g s.heap H locs) {o : Nat} (hk : knd o = 6) (hd : decode cc pc = .ok (.getfield 111, 3)) (kk : W p l e R s m args below meth c H locs cells slots Q (F0 m (pc + 3) ls (.ref (Z.1 (o + 5)) :: rest))) : W p l e R s m args below meth c H locs cells slots Q (F0 m pc ls (.ref (Z.1 o) :: rest)) := x_get C hW (wk6 hk) rfl wsX6_in 5 (by decide) (ml_X7_111) rfl (v := .ref (Z.1 (o + 5))) rfl hd kk
theorem ml_X6_27 : Cond.fieldLink RX6 27 RX6 (TX6 6).2.1 (TX6 6).2.2.1 ∈ TW := TW_of 320 (by decide +kernel) (by decide +kernel)
theorem xg_X6_27 (C : CX p s m args meth c cc RX6 nL ret Z g) (hW : XW Z h g s.heap H locs) {o : Nat} (hk : knd o = 6) (hd : decode cc pc = .ok (.getfield 27, 3)) (kk : W p l e R s m args below meth c H locs cells slots Q (F0 m (pc + 3) ls (.ref (Z.1 (o + 6)) :: rest))) : W p l e R s m args below meth c H locs cells slots Q (F0 m pc ls (.ref (Z.1 o) :: rest)) := x_get C hW (wk6 hk) rfl wsX6_in 6 (by decide) (ml_X6_27) rfl (v := .ref (Z.1 (o + 6))) rfl hd kk
theorem ml_X7_108 : Cond.fieldLink RX7 108 RX6 (TX6 6).2.1 (TX6 6).2.2.1 ∈ TW := TW_of 321 (by decide +kernel) (by decide +kernel)
theorem xg_X7_108 (C : CX p s m args meth c cc RX7 nL ret Z g) (hW : XW Z h g s.heap H locs) {o : Nat} (hk : knd o = 6) (hd : decode cc pc = .ok (.getfield 108, 3)) (kk : W p l e R s m args below meth c H locs cells slots Q (F0 m (pc + 3) ls (.ref (Z.1 (o + 6)) :: rest))) : W p l e R s m args below meth c H locs cells slots Q (F0 m pc ls (.ref (Z.1 o) :: rest)) := x_get C hW (wk6 hk) rfl wsX6_in 6 (by decide) (ml_X7_108) rfl (v := .ref (Z.1 (o + 6))) rfl hd kk
theorem ml_X5_12 : Cond.fieldLink RX5 12 RX5 (TX5 0).2.1 (TX5 0).2.2.1 ∈ TW := TW_of 337 (by decide +kernel) (by decide +kernel)
theorem xg_X5_12 (C : CX p s m args meth c cc RX5 nL ret Z g) (hW : XW Z h g s.heap H locs) {o : Nat} (hk : knd o = 5) {α : Type} {K : Nat → Option α} {out : α} (hf : ckp (h o 0) 6 K = some out) (hd : decode cc pc = .ok (.getfield 12, 3)) (kk : ∀ r : Nat, knd r = 6 → K r = some out → W p l e R s m args below meth c H locs cells slots Q (F0 m (pc + 3) ls (.ref (Z.1 r) :: rest))) : W p l e R s m args below meth c H locs cells slots Q (F0 m pc ls (.ref (Z.1 o) :: rest)) := by
  obtain ⟨h1, h2⟩ := ckp_t hf
  exact x_get C hW (wk5 hk) rfl wsX5_in 0 (by decide) (ml_X5_12) rfl (v := .ref (Z.1 (ix (h o 0)))) rfl hd (kk _ h1 h2)
theorem xp_X5_12 (C : CX p s m args meth c cc RX5 nL ret Z g) (hW : XW Z h g s.heap H locs) {o : Nat} (hk : knd o = 5) {r : Nat} (hr : knd r = 6) {α : Type} {K : Hp → Option α} {out : α} (hf : stp (up h o 0 (nI r)) K = some out) (hd : decode cc pc = .ok (.putfield 12, 3)) (kk : ∀ (h1 : Hp) (H1 : Heap) (locs1 : List Loc), K h1 = some out → XW Z h1 g s.heap H1 locs1 → W p l e R s m args below meth c H1 locs1 cells slots Q (F0 m (pc + 3) ls rest)) : W p l e R s m args below meth c H locs cells slots Q (F0 m pc ls (.ref (Z.1 r) :: .ref (Z.1 o) :: rest)) := by
  have hs : (wl Z h g).set o (Z.1 o, .inr (5, ([.ref (Z.1 (ix (h o 0))), .int (h o 1), .int (h o 2), .int (h o 3)]).set 0 (.ref (Z.1 r)))) = wl Z (up h o 0 (nI r)) g := by
    have h1 := k_lt hk (by decide)
    refine wl_set h1 ?_ mx_upl
    rw [up_eq]
    rw [cel_k hk]
    have e1 : ix (nI r) = r := nI_clamp (Nat.lt_of_lt_of_le (k_lt hr (by decide)) (by decide))
    show (Sum.inr (5, ([.ref (Z.1 (ix (nI r))), .int (h o 1), .int (h o 2), .int (h o 3)] : List Value)) : va_E) = _
    rw [e1]
    rfl
  exact x_put C hW (wk5 hk) rfl wsX5_in tyX5 tyX5_ok nmX5 0 (by decide) (ml_X5_12) rfl rfl (ty := .object "TranscriptCutter$Script") (by decide +kernel) (rfl) (rfl) (Nat.le_of_ble_eq_true rfl) hs hd (fun H1 locs1 q => kk _ H1 locs1 hf q)
theorem ml_X10_103 : Cond.fieldLink RX10 103 RX5 (TX5 0).2.1 (TX5 0).2.2.1 ∈ TW := TW_of 338 (by decide +kernel) (by decide +kernel)
theorem xg_X10_103 (C : CX p s m args meth c cc RX10 nL ret Z g) (hW : XW Z h g s.heap H locs) {o : Nat} (hk : knd o = 5) {α : Type} {K : Nat → Option α} {out : α} (hf : ckp (h o 0) 6 K = some out) (hd : decode cc pc = .ok (.getfield 103, 3)) (kk : ∀ r : Nat, knd r = 6 → K r = some out → W p l e R s m args below meth c H locs cells slots Q (F0 m (pc + 3) ls (.ref (Z.1 r) :: rest))) : W p l e R s m args below meth c H locs cells slots Q (F0 m pc ls (.ref (Z.1 o) :: rest)) := by
  obtain ⟨h1, h2⟩ := ckp_t hf
  exact x_get C hW (wk5 hk) rfl wsX5_in 0 (by decide) (ml_X10_103) rfl (v := .ref (Z.1 (ix (h o 0)))) rfl hd (kk _ h1 h2)
theorem xp_X10_103 (C : CX p s m args meth c cc RX10 nL ret Z g) (hW : XW Z h g s.heap H locs) {o : Nat} (hk : knd o = 5) {r : Nat} (hr : knd r = 6) {α : Type} {K : Hp → Option α} {out : α} (hf : stp (up h o 0 (nI r)) K = some out) (hd : decode cc pc = .ok (.putfield 103, 3)) (kk : ∀ (h1 : Hp) (H1 : Heap) (locs1 : List Loc), K h1 = some out → XW Z h1 g s.heap H1 locs1 → W p l e R s m args below meth c H1 locs1 cells slots Q (F0 m (pc + 3) ls rest)) : W p l e R s m args below meth c H locs cells slots Q (F0 m pc ls (.ref (Z.1 r) :: .ref (Z.1 o) :: rest)) := by
  have hs : (wl Z h g).set o (Z.1 o, .inr (5, ([.ref (Z.1 (ix (h o 0))), .int (h o 1), .int (h o 2), .int (h o 3)]).set 0 (.ref (Z.1 r)))) = wl Z (up h o 0 (nI r)) g := by
    have h1 := k_lt hk (by decide)
    refine wl_set h1 ?_ mx_upl
    rw [up_eq]
    rw [cel_k hk]
    have e1 : ix (nI r) = r := nI_clamp (Nat.lt_of_lt_of_le (k_lt hr (by decide)) (by decide))
    show (Sum.inr (5, ([.ref (Z.1 (ix (nI r))), .int (h o 1), .int (h o 2), .int (h o 3)] : List Value)) : va_E) = _
    rw [e1]
    rfl
  exact x_put C hW (wk5 hk) rfl wsX5_in tyX5 tyX5_ok nmX5 0 (by decide) (ml_X10_103) rfl rfl (ty := .object "TranscriptCutter$Script") (by decide +kernel) (rfl) (rfl) (Nat.le_of_ble_eq_true rfl) hs hd (fun H1 locs1 q => kk _ H1 locs1 hf q)
theorem ml_X2_11 : Cond.fieldLink RX2 11 RX2 (TX2 0).2.1 (TX2 0).2.2.1 ∈ TW := TW_of 354 (by decide +kernel) (by decide +kernel)
theorem xg_X2_11 (C : CX p s m args meth c cc RX2 nL ret Z g) (hW : XW Z h g s.heap H locs) {o : Nat} (hk : knd o = 2) (hd : decode cc pc = .ok (.getfield 11, 3)) (kk : W p l e R s m args below meth c H locs cells slots Q (F0 m (pc + 3) ls (.ref (Z.1 17) :: rest))) : W p l e R s m args below meth c H locs cells slots Q (F0 m pc ls (.ref (Z.1 o) :: rest)) := x_get C hW (wk2 hk) rfl wsX2_in 0 (by decide) (ml_X2_11) rfl (v := .ref (Z.1 17)) rfl hd kk
theorem ml_X10_10 : Cond.fieldLink RX10 10 RX10 (TX10 0).2.1 (TX10 0).2.2.1 ∈ TW := TW_of 364 (by decide +kernel) (by decide +kernel)
theorem xg_X10_10 (C : CX p s m args meth c cc RX10 nL ret Z g) (hW : XW Z h g s.heap H locs) {o : Nat} (hk : knd o = 8) (hd : decode cc pc = .ok (.getfield 10, 3)) (kk : W p l e R s m args below meth c H locs cells slots Q (F0 m (pc + 3) ls (.ref (Z.1 1) :: rest))) : W p l e R s m args below meth c H locs cells slots Q (F0 m pc ls (.ref (Z.1 o) :: rest)) := x_get C hW (wk8 hk) rfl wsX10_in 0 (by decide) (ml_X10_10) rfl (v := .ref (Z.1 1)) rfl hd kk
theorem ml_X10_19 : Cond.fieldLink RX10 19 RX10 (TX10 1).2.1 (TX10 1).2.2.1 ∈ TW := TW_of 365 (by decide +kernel) (by decide +kernel)
theorem xg_X10_19 (C : CX p s m args meth c cc RX10 nL ret Z g) (hW : XW Z h g s.heap H locs) {o : Nat} (hk : knd o = 8) (hd : decode cc pc = .ok (.getfield 19, 3)) (kk : W p l e R s m args below meth c H locs cells slots Q (F0 m (pc + 3) ls (.ref (Z.1 3) :: rest))) : W p l e R s m args below meth c H locs cells slots Q (F0 m pc ls (.ref (Z.1 o) :: rest)) := x_get C hW (wk8 hk) rfl wsX10_in 1 (by decide) (ml_X10_19) rfl (v := .ref (Z.1 3)) rfl hd kk
theorem ml_X10_26 : Cond.fieldLink RX10 26 RX10 (TX10 2).2.1 (TX10 2).2.2.1 ∈ TW := TW_of 366 (by decide +kernel) (by decide +kernel)
theorem xg_X10_26 (C : CX p s m args meth c cc RX10 nL ret Z g) (hW : XW Z h g s.heap H locs) {o : Nat} (hk : knd o = 8) (hd : decode cc pc = .ok (.getfield 26, 3)) (kk : W p l e R s m args below meth c H locs cells slots Q (F0 m (pc + 3) ls (.ref (Z.1 13) :: rest))) : W p l e R s m args below meth c H locs cells slots Q (F0 m pc ls (.ref (Z.1 o) :: rest)) := x_get C hW (wk8 hk) rfl wsX10_in 2 (by decide) (ml_X10_26) rfl (v := .ref (Z.1 13)) rfl hd kk
theorem ml_X10_33 : Cond.fieldLink RX10 33 RX10 (TX10 3).2.1 (TX10 3).2.2.1 ∈ TW := TW_of 367 (by decide +kernel) (by decide +kernel)
theorem xg_X10_33 (C : CX p s m args meth c cc RX10 nL ret Z g) (hW : XW Z h g s.heap H locs) {o : Nat} (hk : knd o = 8) (hd : decode cc pc = .ok (.getfield 33, 3)) (kk : W p l e R s m args below meth c H locs cells slots Q (F0 m (pc + 3) ls (.ref (Z.1 15) :: rest))) : W p l e R s m args below meth c H locs cells slots Q (F0 m pc ls (.ref (Z.1 o) :: rest)) := x_get C hW (wk8 hk) rfl wsX10_in 3 (by decide) (ml_X10_33) rfl (v := .ref (Z.1 15)) rfl hd kk
theorem ml_X10_40 : Cond.fieldLink RX10 40 RX10 (TX10 4).2.1 (TX10 4).2.2.1 ∈ TW := TW_of 368 (by decide +kernel) (by decide +kernel)
theorem xg_X10_40 (C : CX p s m args meth c cc RX10 nL ret Z g) (hW : XW Z h g s.heap H locs) {o : Nat} (hk : knd o = 8) (hd : decode cc pc = .ok (.getfield 40, 3)) (kk : W p l e R s m args below meth c H locs cells slots Q (F0 m (pc + 3) ls (.ref (Z.1 16) :: rest))) : W p l e R s m args below meth c H locs cells slots Q (F0 m pc ls (.ref (Z.1 o) :: rest)) := x_get C hW (wk8 hk) rfl wsX10_in 4 (by decide) (ml_X10_40) rfl (v := .ref (Z.1 16)) rfl hd kk
theorem ml_X10_47 : Cond.fieldLink RX10 47 RX10 (TX10 5).2.1 (TX10 5).2.2.1 ∈ TW := TW_of 369 (by decide +kernel) (by decide +kernel)
theorem xg_X10_47 (C : CX p s m args meth c cc RX10 nL ret Z g) (hW : XW Z h g s.heap H locs) {o : Nat} (hk : knd o = 8) {α : Type} {K : Nat → Option α} {out : α} (hf : ckp (h o 5) 4 K = some out) (hd : decode cc pc = .ok (.getfield 47, 3)) (kk : ∀ r : Nat, knd r = 4 → K r = some out → W p l e R s m args below meth c H locs cells slots Q (F0 m (pc + 3) ls (.ref (Z.1 r) :: rest))) : W p l e R s m args below meth c H locs cells slots Q (F0 m pc ls (.ref (Z.1 o) :: rest)) := by
  obtain ⟨h1, h2⟩ := ckp_t hf
  exact x_get C hW (wk8 hk) rfl wsX10_in 5 (by decide) (ml_X10_47) rfl (v := .ref (Z.1 (ix (h o 5)))) rfl hd (kk _ h1 h2)
theorem xp_X10_47 (C : CX p s m args meth c cc RX10 nL ret Z g) (hW : XW Z h g s.heap H locs) {o : Nat} (hk : knd o = 8) {r : Nat} (hr : knd r = 4) {α : Type} {K : Hp → Option α} {out : α} (hf : stp (up h o 5 (nI r)) K = some out) (hd : decode cc pc = .ok (.putfield 47, 3)) (kk : ∀ (h1 : Hp) (H1 : Heap) (locs1 : List Loc), K h1 = some out → XW Z h1 g s.heap H1 locs1 → W p l e R s m args below meth c H1 locs1 cells slots Q (F0 m (pc + 3) ls rest)) : W p l e R s m args below meth c H locs cells slots Q (F0 m pc ls (.ref (Z.1 r) :: .ref (Z.1 o) :: rest)) := by
  have hs : (wl Z h g).set o (Z.1 o, .inr (8, ([.ref (Z.1 1), .ref (Z.1 3), .ref (Z.1 13), .ref (Z.1 15), .ref (Z.1 16), .ref (Z.1 (ix (h o 5))), .ref (Z.1 (ix (h o 6)))]).set 5 (.ref (Z.1 r)))) = wl Z (up h o 5 (nI r)) g := by
    have h1 := k_lt hk (by decide)
    refine wl_set h1 ?_ mx_upl
    rw [up_eq]
    rw [cel_k hk]
    have e1 : ix (nI r) = r := nI_clamp (Nat.lt_of_lt_of_le (k_lt hr (by decide)) (by decide))
    show (Sum.inr (8, ([.ref (Z.1 1), .ref (Z.1 3), .ref (Z.1 13), .ref (Z.1 15), .ref (Z.1 16), .ref (Z.1 (ix (nI r))), .ref (Z.1 (ix (h o 6)))] : List Value)) : va_E) = _
    rw [e1]
    rfl
  exact x_put C hW (wk8 hk) rfl wsX10_in tyX10 tyX10_ok nmX10 5 (by decide) (ml_X10_47) rfl rfl (ty := .object "TranscriptCutter$Recording") (by decide +kernel) (rfl) (rfl) (Nat.le_of_ble_eq_true rfl) hs hd (fun H1 locs1 q => kk _ H1 locs1 hf q)
theorem ml_X10_54 : Cond.fieldLink RX10 54 RX10 (TX10 6).2.1 (TX10 6).2.2.1 ∈ TW := TW_of 370 (by decide +kernel) (by decide +kernel)
theorem xg_X10_54 (C : CX p s m args meth c cc RX10 nL ret Z g) (hW : XW Z h g s.heap H locs) {o : Nat} (hk : knd o = 8) {α : Type} {K : Nat → Option α} {out : α} (hf : ckp (h o 6) 6 K = some out) (hd : decode cc pc = .ok (.getfield 54, 3)) (kk : ∀ r : Nat, knd r = 6 → K r = some out → W p l e R s m args below meth c H locs cells slots Q (F0 m (pc + 3) ls (.ref (Z.1 r) :: rest))) : W p l e R s m args below meth c H locs cells slots Q (F0 m pc ls (.ref (Z.1 o) :: rest)) := by
  obtain ⟨h1, h2⟩ := ckp_t hf
  exact x_get C hW (wk8 hk) rfl wsX10_in 6 (by decide) (ml_X10_54) rfl (v := .ref (Z.1 (ix (h o 6)))) rfl hd (kk _ h1 h2)
theorem xp_X10_54 (C : CX p s m args meth c cc RX10 nL ret Z g) (hW : XW Z h g s.heap H locs) {o : Nat} (hk : knd o = 8) {r : Nat} (hr : knd r = 6) {α : Type} {K : Hp → Option α} {out : α} (hf : stp (up h o 6 (nI r)) K = some out) (hd : decode cc pc = .ok (.putfield 54, 3)) (kk : ∀ (h1 : Hp) (H1 : Heap) (locs1 : List Loc), K h1 = some out → XW Z h1 g s.heap H1 locs1 → W p l e R s m args below meth c H1 locs1 cells slots Q (F0 m (pc + 3) ls rest)) : W p l e R s m args below meth c H locs cells slots Q (F0 m pc ls (.ref (Z.1 r) :: .ref (Z.1 o) :: rest)) := by
  have hs : (wl Z h g).set o (Z.1 o, .inr (8, ([.ref (Z.1 1), .ref (Z.1 3), .ref (Z.1 13), .ref (Z.1 15), .ref (Z.1 16), .ref (Z.1 (ix (h o 5))), .ref (Z.1 (ix (h o 6)))]).set 6 (.ref (Z.1 r)))) = wl Z (up h o 6 (nI r)) g := by
    have h1 := k_lt hk (by decide)
    refine wl_set h1 ?_ mx_upl
    rw [up_eq]
    rw [cel_k hk]
    have e1 : ix (nI r) = r := nI_clamp (Nat.lt_of_lt_of_le (k_lt hr (by decide)) (by decide))
    show (Sum.inr (8, ([.ref (Z.1 1), .ref (Z.1 3), .ref (Z.1 13), .ref (Z.1 15), .ref (Z.1 16), .ref (Z.1 (ix (h o 5))), .ref (Z.1 (ix (nI r)))] : List Value)) : va_E) = _
    rw [e1]
    rfl
  exact x_put C hW (wk8 hk) rfl wsX10_in tyX10 tyX10_ok nmX10 6 (by decide) (ml_X10_54) rfl rfl (ty := .object "TranscriptCutter$Script") (by decide +kernel) (rfl) (rfl) (Nat.le_of_ble_eq_true rfl) hs hd (fun H1 locs1 q => kk _ H1 locs1 hf q)
end GP
