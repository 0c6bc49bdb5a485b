theorem inb_in {i : Int32} {n : Nat} (h : inb i n = true) : vp_in i n := by
  unfold inb at h
  rw [Bool.and_eq_true, decide_eq_true_eq, decide_eq_true_eq] at h
  intro q
  rcases q with q | q
  · exact absurd h.1 (Int32.not_le.mpr q)
  · exact absurd h.2 (Nat.not_lt.mpr q)
def RX0 : String := "TranscriptCutter$Edit"
def TX0 : u_T := fun k => match k with
  | 0 => ("TranscriptCutter$Edit", "kept", "[Z", true)
  | 1 => ("TranscriptCutter$Edit", "shotCount", "I", false)
  | 2 => ("TranscriptCutter$Edit", "order", "[I", true)
  | 3 => ("TranscriptCutter$Edit", "head", "[I", true)
  | _ => ("TranscriptCutter$Edit", "tail", "[I", true)
def tyX0 : Nat → FieldType := fun k => match k with
  | 0 => .array .boolean
  | 1 => .int
  | 2 => .array .int
  | 3 => .array .int
  | _ => .array .int
theorem nmX0 : ∀ a, a < 5 → ∀ b, b < 5 → a ≠ b → (TX0 a).2.1 ≠ (TX0 b).2.1 := by decide +kernel
theorem tyX0_ok : ∀ k, k < 5 → parseFieldDescriptor (TX0 k).2.2.1 = some (tyX0 k) := by decide +kernel
set_option maxRecDepth 20000 in
theorem wsX0_in : ∀ w ∈ u_ws RX0 TX0 5, w ∈ TW := fun w hw => by
  have h : u_ws RX0 TX0 5 = [296, 298, 300, 302, 304].filterMap (fun i => lw_tbl[i]?) := by decide +kernel
  have hg : (u_ws RX0 TX0 5).all goodWord = true := by decide +kernel
  have g := List.all_eq_true.mp hg w hw
  rw [h] at hw
  obtain ⟨i, -, hi⟩ := List.mem_filterMap.mp hw
  exact TW_of i hi g
def RX1 : String := "TranscriptCutter$Film"
def TX1 : u_T := fun k => match k with
  | 0 => ("TranscriptCutter$Film", "recording", "LTranscriptCutter$Recording;", false)
  | 1 => ("TranscriptCutter$Film", "edit", "LTranscriptCutter$Edit;", true)
  | 2 => ("TranscriptCutter$Film", "frames", "I", false)
  | 3 => ("TranscriptCutter$Film", "shotFirst", "[I", true)
  | 4 => ("TranscriptCutter$Film", "shotBehind", "[I", true)
  | 5 => ("TranscriptCutter$Film", "shotStart", "[I", true)
  | 6 => ("TranscriptCutter$Film", "shotPlace", "[I", true)
  | 7 => ("TranscriptCutter$Film", "blockShot", "[I", true)
  | 8 => ("TranscriptCutter$Film", "places", "I", false)
  | 9 => ("TranscriptCutter$Film", "transcript", "[I", true)
  | 10 => ("TranscriptCutter$Film", "wordPlace", "[I", true)
  | 11 => ("TranscriptCutter$Film", "clipCount", "I", false)
  | 12 => ("TranscriptCutter$Film", "clipShot", "[I", true)
  | 13 => ("TranscriptCutter$Film", "silentFrames", "I", false)
  | 14 => ("TranscriptCutter$Film", "longestSilent", "I", false)
  | _ => ("TranscriptCutter$Film", "scratch", "[I", true)
def tyX1 : Nat → FieldType := fun k => match k with
  | 0 => .object "TranscriptCutter$Recording"
  | 1 => .object "TranscriptCutter$Edit"
  | 2 => .int
  | 3 => .array .int
  | 4 => .array .int
  | 5 => .array .int
  | 6 => .array .int
  | 7 => .array .int
  | 8 => .int
  | 9 => .array .int
  | 10 => .array .int
  | 11 => .int
  | 12 => .array .int
  | 13 => .int
  | 14 => .int
  | _ => .array .int
theorem nmX1 : ∀ a, a < 16 → ∀ b, b < 16 → a ≠ b → (TX1 a).2.1 ≠ (TX1 b).2.1 := by decide +kernel
theorem tyX1_ok : ∀ k, k < 16 → parseFieldDescriptor (TX1 k).2.2.1 = some (tyX1 k) := by decide +kernel
set_option maxRecDepth 20000 in
theorem wsX1_in : ∀ w ∈ u_ws RX1 TX1 16, w ∈ TW := fun w hw => by
  have h : u_ws RX1 TX1 16 = [343, 345, 347, 349, 351, 353, 355, 357, 359, 361, 363, 365, 367, 369, 371, 373].filterMap (fun i => lw_tbl[i]?) := by decide +kernel
  have hg : (u_ws RX1 TX1 16).all goodWord = true := by decide +kernel
  have g := List.all_eq_true.mp hg w hw
  rw [h] at hw
  obtain ⟨i, -, hi⟩ := List.mem_filterMap.mp hw
  exact TW_of i hi g
def RX2 : String := "TranscriptCutter$FormattedText"
def TX2 : u_T := fun k => match k with
  | 0 => ("TranscriptCutter$FormattedText", "bytes", "[B", true)
  | _ => ("TranscriptCutter$FormattedText", "length", "I", false)
def tyX2 : Nat → FieldType := fun k => match k with
  | 0 => .array .byte
  | _ => .int
theorem nmX2 : ∀ a, a < 2 → ∀ b, b < 2 → a ≠ b → (TX2 a).2.1 ≠ (TX2 b).2.1 := by decide +kernel
theorem tyX2_ok : ∀ k, k < 2 → parseFieldDescriptor (TX2 k).2.2.1 = some (tyX2 k) := by decide +kernel
set_option maxRecDepth 20000 in
theorem wsX2_in : ∀ w ∈ u_ws RX2 TX2 2, w ∈ TW := fun w hw => by
  have h : u_ws RX2 TX2 2 = [470, 472].filterMap (fun i => lw_tbl[i]?) := by decide +kernel
  have hg : (u_ws RX2 TX2 2).all goodWord = true := by decide +kernel
  have g := List.all_eq_true.mp hg w hw
  rw [h] at hw
  obtain ⟨i, -, hi⟩ := List.mem_filterMap.mp hw
  exact TW_of i hi g
def RX3 : String := "TranscriptCutter$History"
def TX3 : u_T := fun k => match k with
  | 0 => ("TranscriptCutter$History", "before", "[LTranscriptCutter$Edit;", true)
  | 1 => ("TranscriptCutter$History", "next", "I", false)
  | _ => ("TranscriptCutter$History", "depth", "I", false)
def tyX3 : Nat → FieldType := fun k => match k with
  | 0 => .array (.object "TranscriptCutter$Edit")
  | 1 => .int
  | _ => .int
theorem nmX3 : ∀ a, a < 3 → ∀ b, b < 3 → a ≠ b → (TX3 a).2.1 ≠ (TX3 b).2.1 := by decide +kernel
theorem tyX3_ok : ∀ k, k < 3 → parseFieldDescriptor (TX3 k).2.2.1 = some (tyX3 k) := by decide +kernel
set_option maxRecDepth 20000 in
theorem wsX3_in : ∀ w ∈ u_ws RX3 TX3 3, w ∈ TW := fun w hw => by
  have h : u_ws RX3 TX3 3 = [389, 391, 393].filterMap (fun i => lw_tbl[i]?) := by decide +kernel
  have hg : (u_ws RX3 TX3 3).all goodWord = true := by decide +kernel
  have g := List.all_eq_true.mp hg w hw
  rw [h] at hw
  obtain ⟨i, -, hi⟩ := List.mem_filterMap.mp hw
  exact TW_of i hi g
def RX4 : String := "TranscriptCutter$Recording"
def TX4 : u_T := fun k => match k with
  | 0 => ("TranscriptCutter$Recording", "length", "I", false)
  | 1 => ("TranscriptCutter$Recording", "handle", "I", false)
  | 2 => ("TranscriptCutter$Recording", "speakerCount", "I", false)
  | 3 => ("TranscriptCutter$Recording", "speakerName", "[I", true)
  | 4 => ("TranscriptCutter$Recording", "wordCount", "I", false)
  | 5 => ("TranscriptCutter$Recording", "wordText", "[I", true)
  | 6 => ("TranscriptCutter$Recording", "wordSpeaker", "[I", true)
  | 7 => ("TranscriptCutter$Recording", "wordStart", "[I", true)
  | 8 => ("TranscriptCutter$Recording", "wordEnd", "[I", true)
  | 9 => ("TranscriptCutter$Recording", "wordBlock", "[I", true)
  | 10 => ("TranscriptCutter$Recording", "breathCount", "I", false)
  | 11 => ("TranscriptCutter$Recording", "breathStart", "[I", true)
  | 12 => ("TranscriptCutter$Recording", "breathEnd", "[I", true)
  | 13 => ("TranscriptCutter$Recording", "blockCount", "I", false)
  | 14 => ("TranscriptCutter$Recording", "blockWord", "[I", true)
  | 15 => ("TranscriptCutter$Recording", "blockStart", "[I", true)
  | 16 => ("TranscriptCutter$Recording", "blockEnd", "[I", true)
  | 17 => ("TranscriptCutter$Recording", "blockCut", "[I", true)
  | _ => ("TranscriptCutter$Recording", "blockSnapped", "[Z", true)
def tyX4 : Nat → FieldType := fun k => match k with
  | 0 => .int
  | 1 => .int
  | 2 => .int
  | 3 => .array .int
  | 4 => .int
  | 5 => .array .int
  | 6 => .array .int
  | 7 => .array .int
  | 8 => .array .int
  | 9 => .array .int
  | 10 => .int
  | 11 => .array .int
  | 12 => .array .int
  | 13 => .int
  | 14 => .array .int
  | 15 => .array .int
  | 16 => .array .int
  | 17 => .array .int
  | _ => .array .boolean
theorem nmX4 : ∀ a, a < 19 → ∀ b, b < 19 → a ≠ b → (TX4 a).2.1 ≠ (TX4 b).2.1 := by decide +kernel
theorem tyX4_ok : ∀ k, k < 19 → parseFieldDescriptor (TX4 k).2.2.1 = some (tyX4 k) := by decide +kernel
set_option maxRecDepth 20000 in
theorem wsX4_in : ∀ w ∈ u_ws RX4 TX4 19, w ∈ TW := fun w hw => by
  have h : u_ws RX4 TX4 19 = [232, 234, 236, 238, 240, 242, 244, 246, 248, 250, 252, 254, 256, 258, 260, 262, 264, 266, 268].filterMap (fun i => lw_tbl[i]?) := by decide +kernel
  have hg : (u_ws RX4 TX4 19).all goodWord = true := by decide +kernel
  have g := List.all_eq_true.mp hg w hw
  rw [h] at hw
  obtain ⟨i, -, hi⟩ := List.mem_filterMap.mp hw
  exact TW_of i hi g
def RX5 : String := "TranscriptCutter$Runner"
def TX5 : u_T := fun k => match k with
  | 0 => ("TranscriptCutter$Runner", "script", "LTranscriptCutter$Script;", false)
  | 1 => ("TranscriptCutter$Runner", "begun", "I", false)
  | 2 => ("TranscriptCutter$Runner", "failures", "I", false)
  | _ => ("TranscriptCutter$Runner", "stopped", "Z", false)
def tyX5 : Nat → FieldType := fun k => match k with
  | 0 => .object "TranscriptCutter$Script"
  | 1 => .int
  | 2 => .int
  | _ => .boolean
theorem nmX5 : ∀ a, a < 4 → ∀ b, b < 4 → a ≠ b → (TX5 a).2.1 ≠ (TX5 b).2.1 := by decide +kernel
theorem tyX5_ok : ∀ k, k < 4 → parseFieldDescriptor (TX5 k).2.2.1 = some (tyX5 k) := by decide +kernel
set_option maxRecDepth 20000 in
theorem wsX5_in : ∀ w ∈ u_ws RX5 TX5 4, w ∈ TW := fun w hw => by
  have h : u_ws RX5 TX5 4 = [451, 453, 455, 457].filterMap (fun i => lw_tbl[i]?) := by decide +kernel
  have hg : (u_ws RX5 TX5 4).all goodWord = true := by decide +kernel
  have g := List.all_eq_true.mp hg w hw
  rw [h] at hw
  obtain ⟨i, -, hi⟩ := List.mem_filterMap.mp hw
  exact TW_of i hi g
def RX6 : String := "TranscriptCutter$Script"
def TX6 : u_T := fun k => match k with
  | 0 => ("TranscriptCutter$Script", "size", "I", false)
  | 1 => ("TranscriptCutter$Script", "kind", "[I", true)
  | 2 => ("TranscriptCutter$Script", "times", "[I", true)
  | 3 => ("TranscriptCutter$Script", "elseStart", "[I", true)
  | 4 => ("TranscriptCutter$Script", "next", "[I", true)
  | 5 => ("TranscriptCutter$Script", "phraseSize", "[I", true)
  | _ => ("TranscriptCutter$Script", "names", "[I", true)
def tyX6 : Nat → FieldType := fun k => match k with
  | 0 => .int
  | 1 => .array .int
  | 2 => .array .int
  | 3 => .array .int
  | 4 => .array .int
  | 5 => .array .int
  | _ => .array .int
theorem nmX6 : ∀ a, a < 7 → ∀ b, b < 7 → a ≠ b → (TX6 a).2.1 ≠ (TX6 b).2.1 := by decide +kernel
theorem tyX6_ok : ∀ k, k < 7 → parseFieldDescriptor (TX6 k).2.2.1 = some (tyX6 k) := by decide +kernel
set_option maxRecDepth 20000 in
theorem wsX6_in : ∀ w ∈ u_ws RX6 TX6 7, w ∈ TW := fun w hw => by
  have h : u_ws RX6 TX6 7 = [428, 430, 432, 434, 436, 438, 440].filterMap (fun i => lw_tbl[i]?) := by decide +kernel
  have hg : (u_ws RX6 TX6 7).all goodWord = true := by decide +kernel
  have g := List.all_eq_true.mp hg w hw
  rw [h] at hw
  obtain ⟨i, -, hi⟩ := List.mem_filterMap.mp hw
  exact TW_of i hi g
def RX9 : String := "TranscriptCutter$Tokens"
def TX9 : u_T := fun k => match k with
  | 0 => ("TranscriptCutter$Tokens", "bytes", "[B", true)
  | 1 => ("TranscriptCutter$Tokens", "length", "I", false)
  | 2 => ("TranscriptCutter$Tokens", "wrongOffset", "I", false)
  | 3 => ("TranscriptCutter$Tokens", "wrongKind", "I", false)
  | 4 => ("TranscriptCutter$Tokens", "tokenKind", "I", false)
  | 5 => ("TranscriptCutter$Tokens", "tokenStart", "I", false)
  | _ => ("TranscriptCutter$Tokens", "tokenSize", "I", false)
def tyX9 : Nat → FieldType := fun k => match k with
  | 0 => .array .byte
  | 1 => .int
  | 2 => .int
  | 3 => .int
  | 4 => .int
  | 5 => .int
  | _ => .int
theorem nmX9 : ∀ a, a < 7 → ∀ b, b < 7 → a ≠ b → (TX9 a).2.1 ≠ (TX9 b).2.1 := by decide +kernel
theorem tyX9_ok : ∀ k, k < 7 → parseFieldDescriptor (TX9 k).2.2.1 = some (tyX9 k) := by decide +kernel
set_option maxRecDepth 20000 in
theorem wsX9_in : ∀ w ∈ u_ws RX9 TX9 7, w ∈ TW := fun w hw => by
  have h : u_ws RX9 TX9 7 = [151, 153, 155, 157, 159, 161, 163].filterMap (fun i => lw_tbl[i]?) := by decide +kernel
  have hg : (u_ws RX9 TX9 7).all goodWord = true := by decide +kernel
  have g := List.all_eq_true.mp hg w hw
  rw [h] at hw
  obtain ⟨i, -, hi⟩ := List.mem_filterMap.mp hw
  exact TW_of i hi g
def RX10 : String := "TranscriptCutter"
def TX10 : u_T := fun k => match k with
  | 0 => ("TranscriptCutter", "tokens", "LTranscriptCutter$Tokens;", true)
  | 1 => ("TranscriptCutter", "film", "LTranscriptCutter$Film;", true)
  | 2 => ("TranscriptCutter", "history", "LTranscriptCutter$History;", true)
  | 3 => ("TranscriptCutter", "runner", "LTranscriptCutter$Runner;", true)
  | 4 => ("TranscriptCutter", "formatted", "LTranscriptCutter$FormattedText;", true)
  | 5 => ("TranscriptCutter", "draftRecording", "LTranscriptCutter$Recording;", false)
  | _ => ("TranscriptCutter", "draftScript", "LTranscriptCutter$Script;", false)
def tyX10 : Nat → FieldType := fun k => match k with
  | 0 => .object "TranscriptCutter$Tokens"
  | 1 => .object "TranscriptCutter$Film"
  | 2 => .object "TranscriptCutter$History"
  | 3 => .object "TranscriptCutter$Runner"
  | 4 => .object "TranscriptCutter$FormattedText"
  | 5 => .object "TranscriptCutter$Recording"
  | _ => .object "TranscriptCutter$Script"
theorem nmX10 : ∀ a, a < 7 → ∀ b, b < 7 → a ≠ b → (TX10 a).2.1 ≠ (TX10 b).2.1 := by decide +kernel
theorem tyX10_ok : ∀ k, k < 7 → parseFieldDescriptor (TX10 k).2.2.1 = some (tyX10 k) := by decide +kernel
set_option maxRecDepth 20000 in
theorem wsX10_in : ∀ w ∈ u_ws RX10 TX10 7, w ∈ TW := fun w hw => by
  have h : u_ws RX10 TX10 7 = [486, 488, 490, 492, 494, 496, 498].filterMap (fun i => lw_tbl[i]?) := by decide +kernel
  have hg : (u_ws RX10 TX10 7).all goodWord = true := by decide +kernel
  have g := List.all_eq_true.mp hg w hw
  rw [h] at hw
  obtain ⟨i, -, hi⟩ := List.mem_filterMap.mp hw
  exact TW_of i hi g
def RX11 : String := "TranscriptCutterModel"
def TX11 : u_T := fun k => match k with
  | 0 => ("TranscriptCutterModel", "thrown", "I", false)
  | 1 => ("TranscriptCutterModel", "fixed", "[I", true)
  | 2 => ("TranscriptCutterModel", "read", "[I", true)
  | 3 => ("TranscriptCutterModel", "blocks", "I", false)
  | 4 => ("TranscriptCutterModel", "blockOfWord", "[I", true)
  | 5 => ("TranscriptCutterModel", "speechStart", "[I", true)
  | 6 => ("TranscriptCutterModel", "speechEnd", "[I", true)
  | 7 => ("TranscriptCutterModel", "firstWord", "[I", true)
  | 8 => ("TranscriptCutterModel", "cutPoint", "[I", true)
  | 9 => ("TranscriptCutterModel", "snapped", "[I", true)
  | 10 => ("TranscriptCutterModel", "now", "[I", true)
  | 11 => ("TranscriptCutterModel", "past", "[I", true)
  | 12 => ("TranscriptCutterModel", "aside", "[I", true)
  | 13 => ("TranscriptCutterModel", "depth", "I", false)
  | 14 => ("TranscriptCutterModel", "tape", "[B", true)
  | 15 => ("TranscriptCutterModel", "five", "[I", true)
  | 16 => ("TranscriptCutterModel", "taped", "I", false)
  | 17 => ("TranscriptCutterModel", "point", "I", false)
  | 18 => ("TranscriptCutterModel", "begin", "I", false)
  | 19 => ("TranscriptCutterModel", "size", "I", false)
  | 20 => ("TranscriptCutterModel", "faultAt", "I", false)
  | 21 => ("TranscriptCutterModel", "faultKind", "I", false)
  | 22 => ("TranscriptCutterModel", "errorAt", "I", false)
  | 23 => ("TranscriptCutterModel", "kindOfError", "I", false)
  | 24 => ("TranscriptCutterModel", "script", "[I", true)
  | 25 => ("TranscriptCutterModel", "draft", "[I", true)
  | 26 => ("TranscriptCutterModel", "scriptMany", "I", false)
  | 27 => ("TranscriptCutterModel", "draftMany", "I", false)
  | 28 => ("TranscriptCutterModel", "commands", "I", false)
  | 29 => ("TranscriptCutterModel", "nested", "I", false)
  | 30 => ("TranscriptCutterModel", "foundShot", "I", false)
  | 31 => ("TranscriptCutterModel", "foundFrame", "I", false)
  | 32 => ("TranscriptCutterModel", "silent", "I", false)
  | 33 => ("TranscriptCutterModel", "longestSilent", "I", false)
  | 34 => ("TranscriptCutterModel", "row", "[I", true)
  | 35 => ("TranscriptCutterModel", "shotOfPlace", "[I", true)
  | 36 => ("TranscriptCutterModel", "rowMany", "I", false)
  | 37 => ("TranscriptCutterModel", "moved", "[I", true)
  | 38 => ("TranscriptCutterModel", "begun", "I", false)
  | 39 => ("TranscriptCutterModel", "failed", "I", false)
  | 40 => ("TranscriptCutterModel", "wasStopped", "Z", false)
  | 41 => ("TranscriptCutterModel", "text", "[B", true)
  | _ => ("TranscriptCutterModel", "written", "I", false)
def tyX11 : Nat → FieldType := fun k => match k with
  | 0 => .int
  | 1 => .array .int
  | 2 => .array .int
  | 3 => .int
  | 4 => .array .int
  | 5 => .array .int
  | 6 => .array .int
  | 7 => .array .int
  | 8 => .array .int
  | 9 => .array .int
  | 10 => .array .int
  | 11 => .array .int
  | 12 => .array .int
  | 13 => .int
  | 14 => .array .byte
  | 15 => .array .int
  | 16 => .int
  | 17 => .int
  | 18 => .int
  | 19 => .int
  | 20 => .int
  | 21 => .int
  | 22 => .int
  | 23 => .int
  | 24 => .array .int
  | 25 => .array .int
  | 26 => .int
  | 27 => .int
  | 28 => .int
  | 29 => .int
  | 30 => .int
  | 31 => .int
  | 32 => .int
  | 33 => .int
  | 34 => .array .int
  | 35 => .array .int
  | 36 => .int
  | 37 => .array .int
  | 38 => .int
  | 39 => .int
  | 40 => .boolean
  | 41 => .array .byte
  | _ => .int
theorem nmX11 : ∀ a, a < 43 → ∀ b, b < 43 → a ≠ b → (TX11 a).2.1 ≠ (TX11 b).2.1 := by decide +kernel
theorem tyX11_ok : ∀ k, k < 43 → parseFieldDescriptor (TX11 k).2.2.1 = some (tyX11 k) := by decide +kernel
set_option maxRecDepth 20000 in
theorem wsX11_in : ∀ w ∈ u_ws RX11 TX11 43, w ∈ TW := fun w hw => by
  have h : u_ws RX11 TX11 43 = [1438, 1440, 1442, 1444, 1446, 1448, 1450, 1452, 1454, 1456, 1458, 1460, 1462, 1464, 1466, 1468, 1470, 1472, 1474, 1476, 1478, 1480, 1482, 1484, 1486, 1488, 1490, 1492, 1494, 1496, 1498, 1500, 1502, 1504, 1506, 1508, 1510, 1512, 1514, 1516, 1518, 1520, 1522].filterMap (fun i => lw_tbl[i]?) := by decide +kernel
  have hg : (u_ws RX11 TX11 43).all goodWord = true := by decide +kernel
  have g := List.all_eq_true.mp hg w hw
  rw [h] at hw
  obtain ⟨i, -, hi⟩ := List.mem_filterMap.mp hw
  exact TW_of i hi g
def RX7 : String := "TranscriptCutter$ScriptGrammar"
def RX8 : String := "TranscriptCutter$TextGrammar"
def RL : String := "TranscriptCutterLaw"
abbrev vwCl : List vw_C := [(RX0, TX0, 5), (RX1, TX1, 16), (RX2, TX2, 2), (RX3, TX3, 3), (RX4, TX4, 19), (RX5, TX5, 4), (RX6, TX6, 7), (RX9, TX9, 7), (RX10, TX10, 7), (RX11, TX11, 43)]
def NC : Nat := 125
def mx (h g : Hp) : Hp := fun k => if k < 125 then h k else g k
/-- addresses of the objects; the tables' numbers; classes of arrays; where the new cells begin; addresses of the texts -/
abbrev ZT : Type := (Nat → Nat) × va_G × (Nat → ClassId) × Nat × (Nat → Nat)
def FR (Z : ZT) : Nat → Prop := fun q => Z.2.2.2.1 ≤ q
def tyZ (Z : ZT) : List (ClassId × FieldType) := [(Z.2.2.1 0, .byte), (Z.2.2.1 1, .int), (Z.2.2.1 2, .boolean), (Z.2.2.1 3, .object RX0), (Z.2.2.1 4, .long)]
def celK (Z : ZT) (r : Nat → Int32) (k kd : Nat) : va_E := match kd with
  | 0 => .inr (0, [.ref (Z.1 (k + 1)), .int (r 1), .ref (Z.1 (k + 2)), .ref (Z.1 (k + 3)), .ref (Z.1 (k + 4))])
  | 1 => .inr (1, [.ref (Z.1 (ix (r 0))), .ref (Z.1 18), .int (r 2), .ref (Z.1 4), .ref (Z.1 5), .ref (Z.1 6), .ref (Z.1 7), .ref (Z.1 8), .int (r 8), .ref (Z.1 9), .ref (Z.1 10), .int (r 11), .ref (Z.1 11), .int (r 13), .int (r 14), .ref (Z.1 12)])
  | 2 => .inr (2, [.ref (Z.1 17), .int (r 1)])
  | 3 => .inr (3, [.ref (Z.1 14), .int (r 1), .int (r 2)])
  | 4 => .inr (4, [.int (r 0), .int (r 1), .int (r 2), .ref (Z.1 (k + 1)), .int (r 4), .ref (Z.1 (k + 2)), .ref (Z.1 (k + 3)), .ref (Z.1 (k + 4)), .ref (Z.1 (k + 5)), .ref (Z.1 (k + 6)), .int (r 10), .ref (Z.1 (k + 7)), .ref (Z.1 (k + 8)), .int (r 13), .ref (Z.1 (k + 9)), .ref (Z.1 (k + 10)), .ref (Z.1 (k + 11)), .ref (Z.1 (k + 12)), .ref (Z.1 (k + 13))])
  | 5 => .inr (5, [.ref (Z.1 (ix (r 0))), .int (r 1), .int (r 2), .int (r 3)])
  | 6 => .inr (6, [.int (r 0), .ref (Z.1 (k + 1)), .ref (Z.1 (k + 2)), .ref (Z.1 (k + 3)), .ref (Z.1 (k + 4)), .ref (Z.1 (k + 5)), .ref (Z.1 (k + 6))])
  | 7 => .inr (7, [.ref (Z.1 2), .int (r 1), .int (r 2), .int (r 3), .int (r 4), .int (r 5), .int (r 6)])
  | 8 => .inr (8, [.ref (Z.1 1), .ref (Z.1 3), .ref (Z.1 13), .ref (Z.1 15), .ref (Z.1 16), .ref (Z.1 (ix (r 5))), .ref (Z.1 (ix (r 6)))])
  | 9 => .inr (9, [.int (r 0), .ref (Z.1 126), .ref (Z.1 127), .int (r 3), .ref (Z.1 128), .ref (Z.1 129), .ref (Z.1 130), .ref (Z.1 131), .ref (Z.1 132), .ref (Z.1 133), .ref (Z.1 134), .ref (Z.1 135), .ref (Z.1 136), .int (r 13), .ref (Z.1 137), .ref (Z.1 138), .int (r 16), .int (r 17), .int (r 18), .int (r 19), .int (r 20), .int (r 21), .int (r 22), .int (r 23), .ref (Z.1 139), .ref (Z.1 140), .int (r 26), .int (r 27), .int (r 28), .int (r 29), .int (r 30), .int (r 31), .int (r 32), .int (r 33), .ref (Z.1 141), .ref (Z.1 142), .int (r 36), .ref (Z.1 143), .int (r 38), .int (r 39), .int (r 40), .ref (Z.1 144), .int (r 42)])
  | 10 => .inl (Z.2.2.1 0, len k, .inl r)
  | 11 => .inl (Z.2.2.1 1, len k, .inl r)
  | 12 => .inl (Z.2.2.1 2, len k, .inl r)
  | 13 => .inl (Z.2.2.1 3, 12, .inr (.inr (.inr (.inr (fun j => some (Z.1 (23 + 5 * j)))))))
  | _ => .inl (Z.2.2.1 4, 1, .inr (.inl (fun j => (r j).toInt64)))
def cel (Z : ZT) (r : Nat → Int32) (k : Nat) : va_E := celK Z r k (knd k)
theorem cel_k {Z : ZT} {r : Nat → Int32} {k c : Nat} (h : knd k = c) : cel Z r k = celK Z r k c := congrArg (celK Z r k) h
/-- how many objects there are: 145 before the law makes its row, 146 after -/
def NM (Z : ZT) : Nat := 145 + Z.2.2.2.2 1000
def wl (Z : ZT) (h g : Hp) : va_W := (List.range (NM Z)).map (fun k => (Z.1 k, cel Z (mx h g k) k))
theorem wl_atm {Z : ZT} {h g : Hp} {k : Nat} (hk : k < NM Z) : (wl Z h g)[k]? = some (Z.1 k, cel Z (mx h g k) k) := by
  unfold wl
  rw [List.getElem?_map, List.getElem?_range hk]
  rfl
theorem wl_at {Z : ZT} {h g : Hp} {k : Nat} (hk : k < 145) : (wl Z h g)[k]? = some (Z.1 k, cel Z (mx h g k) k) := wl_atm (Nat.lt_of_lt_of_le hk (Nat.le_add_right _ _))
theorem wl_len {Z : ZT} {h g : Hp} : (wl Z h g).length = NM Z := by unfold wl; rw [List.length_map, List.length_range]
theorem wl_setm {Z : ZT} {h g h' g' : Hp} {k : Nat} (hk : k < NM Z) {e : va_E} (he : cel Z (mx h' g' k) k = e) (ho : ∀ j, j ≠ k → mx h' g' j = mx h g j) : (wl Z h g).set k (Z.1 k, e) = wl Z h' g' := by
  apply List.ext_getElem?
  intro i
  by_cases hi : i < NM Z
  · by_cases hik : i = k
    · subst hik
      rw [List.getElem?_set_self (by rw [wl_len]; exact hi), wl_atm hi, he]
    · rw [List.getElem?_set_ne (Ne.symm hik), wl_atm hi, wl_atm hi, ho i hik]
  · rw [List.getElem?_eq_none (by rw [List.length_set, wl_len]; omega), List.getElem?_eq_none (by rw [wl_len]; omega)]
theorem wl_set {Z : ZT} {h g h' g' : Hp} {k : Nat} (hk : k < 145) {e : va_E} (he : cel Z (mx h' g' k) k = e) (ho : ∀ j, j ≠ k → mx h' g' j = mx h g j) : (wl Z h g).set k (Z.1 k, e) = wl Z h' g' := wl_setm (Nat.lt_of_lt_of_le hk (Nat.le_add_right _ _)) he ho
theorem mx_l {h g : Hp} {k : Nat} (hk : k < 125) : mx h g k = h k := if_pos hk
theorem mx_r {h g : Hp} {k : Nat} (hk : ¬ k < 125) : mx h g k = g k := if_neg hk
theorem mx_upl {h g : Hp} {k : Nat} {a : Nat} {v : Int32} : ∀ j, j ≠ k → mx (up h k a v) g j = mx h g j := fun j hj => by
  by_cases hl : j < 125
  · rw [mx_l hl, mx_l hl, up_ne _ _ hj]
  · rw [mx_r hl, mx_r hl]
theorem mx_upr {h g : Hp} {k : Nat} {a : Nat} {v : Int32} : ∀ j, j ≠ k → mx h (up g k a v) j = mx h g j := fun j hj => by
  by_cases hl : j < 125
  · rw [mx_l hl, mx_l hl]
  · rw [mx_r hl, mx_r hl, up_ne _ _ hj]
theorem kl_C : ∀ k, k < 145 → knd k ≤ 8 → k < 125 := by decide +kernel
theorem kl_M : ∀ k, k < 145 → knd k = 9 → ¬ k < 125 := by decide +kernel
theorem k_lt {k c : Nat} (h : knd k = c) (hc : c ≤ 9) : k < 145 := by
  apply Classical.byContradiction
  intro q
  by_cases z : k = 145
  · subst z
    have : knd 145 = 14 := by decide
    omega
  have h1 : knd k = 99 := by
    unfold knd
    rw [List.getD_eq_getElem?_getD, List.getElem?_eq_none (by show 146 ≤ k; omega)]
    rfl
  omega
def arC (k kd n : Nat) : Bool := (knd k == kd) && (len k == n) && decide (k < 125)
def arM (k kd n : Nat) : Bool := (knd k == kd) && (len k == n) && (decide (125 ≤ k) && decide (k < 145))
theorem arC_k {k kd n : Nat} (h : arC k kd n = true) : knd k = kd ∧ len k = n ∧ k < 125 := by
  unfold arC at h
  rw [Bool.and_eq_true, Bool.and_eq_true, beq_iff_eq, beq_iff_eq, decide_eq_true_eq] at h
  exact ⟨h.1.1, h.1.2, h.2⟩
theorem arM_k {k kd n : Nat} (h : arM k kd n = true) : knd k = kd ∧ len k = n ∧ ¬ k < 125 ∧ k < 145 := by
  unfold arM at h
  rw [Bool.and_eq_true, Bool.and_eq_true, Bool.and_eq_true, beq_iff_eq, beq_iff_eq, decide_eq_true_eq, decide_eq_true_eq] at h
  exact ⟨h.1.1, h.1.2, Nat.not_lt.mpr h.2.1, h.2.2⟩

theorem wk0 {Z : ZT} {h g : Hp} {k : Nat} (hk : knd k = 0) : (wl Z h g)[k]? = some (Z.1 k, .inr (0, [.ref (Z.1 (k + 1)), .int (h k 1), .ref (Z.1 (k + 2)), .ref (Z.1 (k + 3)), .ref (Z.1 (k + 4))])) := by
  have h1 := k_lt hk (by decide)
  rw [wl_at h1, mx_l (kl_C k h1 (by omega))]
  rw [cel_k hk]
  rfl
theorem wk1 {Z : ZT} {h g : Hp} {k : Nat} (hk : knd k = 1) : (wl Z h g)[k]? = some (Z.1 k, .inr (1, [.ref (Z.1 (ix (h k 0))), .ref (Z.1 18), .int (h k 2), .ref (Z.1 4), .ref (Z.1 5), .ref (Z.1 6), .ref (Z.1 7), .ref (Z.1 8), .int (h k 8), .ref (Z.1 9), .ref (Z.1 10), .int (h k 11), .ref (Z.1 11), .int (h k 13), .int (h k 14), .ref (Z.1 12)])) := by
  have h1 := k_lt hk (by decide)
  rw [wl_at h1, mx_l (kl_C k h1 (by omega))]
  rw [cel_k hk]
  rfl
theorem wk2 {Z : ZT} {h g : Hp} {k : Nat} (hk : knd k = 2) : (wl Z h g)[k]? = some (Z.1 k, .inr (2, [.ref (Z.1 17), .int (h k 1)])) := by
  have h1 := k_lt hk (by decide)
  rw [wl_at h1, mx_l (kl_C k h1 (by omega))]
  rw [cel_k hk]
  rfl
theorem wk3 {Z : ZT} {h g : Hp} {k : Nat} (hk : knd k = 3) : (wl Z h g)[k]? = some (Z.1 k, .inr (3, [.ref (Z.1 14), .int (h k 1), .int (h k 2)])) := by
  have h1 := k_lt hk (by decide)
  rw [wl_at h1, mx_l (kl_C k h1 (by omega))]
  rw [cel_k hk]
  rfl
theorem wk4 {Z : ZT} {h g : Hp} {k : Nat} (hk : knd k = 4) : (wl Z h g)[k]? = some (Z.1 k, .inr (4, [.int (h k 0), .int (h k 1), .int (h k 2), .ref (Z.1 (k + 1)), .int (h k 4), .ref (Z.1 (k + 2)), .ref (Z.1 (k + 3)), .ref (Z.1 (k + 4)), .ref (Z.1 (k + 5)), .ref (Z.1 (k + 6)), .int (h k 10), .ref (Z.1 (k + 7)), .ref (Z.1 (k + 8)), .int (h k 13), .ref (Z.1 (k + 9)), .ref (Z.1 (k + 10)), .ref (Z.1 (k + 11)), .ref (Z.1 (k + 12)), .ref (Z.1 (k + 13))])) := by
  have h1 := k_lt hk (by decide)
  rw [wl_at h1, mx_l (kl_C k h1 (by omega))]
  rw [cel_k hk]
  rfl
theorem wk5 {Z : ZT} {h g : Hp} {k : Nat} (hk : knd k = 5) : (wl Z h g)[k]? = some (Z.1 k, .inr (5, [.ref (Z.1 (ix (h k 0))), .int (h k 1), .int (h k 2), .int (h k 3)])) := by
  have h1 := k_lt hk (by decide)
  rw [wl_at h1, mx_l (kl_C k h1 (by omega))]
  rw [cel_k hk]
  rfl
theorem wk6 {Z : ZT} {h g : Hp} {k : Nat} (hk : knd k = 6) : (wl Z h g)[k]? = some (Z.1 k, .inr (6, [.int (h k 0), .ref (Z.1 (k + 1)), .ref (Z.1 (k + 2)), .ref (Z.1 (k + 3)), .ref (Z.1 (k + 4)), .ref (Z.1 (k + 5)), .ref (Z.1 (k + 6))])) := by
  have h1 := k_lt hk (by decide)
  rw [wl_at h1, mx_l (kl_C k h1 (by omega))]
  rw [cel_k hk]
  rfl
theorem wk7 {Z : ZT} {h g : Hp} {k : Nat} (hk : knd k = 7) : (wl Z h g)[k]? = some (Z.1 k, .inr (7, [.ref (Z.1 2), .int (h k 1), .int (h k 2), .int (h k 3), .int (h k 4), .int (h k 5), .int (h k 6)])) := by
  have h1 := k_lt hk (by decide)
  rw [wl_at h1, mx_l (kl_C k h1 (by omega))]
  rw [cel_k hk]
  rfl
theorem wk8 {Z : ZT} {h g : Hp} {k : Nat} (hk : knd k = 8) : (wl Z h g)[k]? = some (Z.1 k, .inr (8, [.ref (Z.1 1), .ref (Z.1 3), .ref (Z.1 13), .ref (Z.1 15), .ref (Z.1 16), .ref (Z.1 (ix (h k 5))), .ref (Z.1 (ix (h k 6)))])) := by
  have h1 := k_lt hk (by decide)
  rw [wl_at h1, mx_l (kl_C k h1 (by omega))]
  rw [cel_k hk]
  rfl
theorem wk9 {Z : ZT} {h g : Hp} {k : Nat} (hk : knd k = 9) : (wl Z h g)[k]? = some (Z.1 k, .inr (9, [.int (g k 0), .ref (Z.1 126), .ref (Z.1 127), .int (g k 3), .ref (Z.1 128), .ref (Z.1 129), .ref (Z.1 130), .ref (Z.1 131), .ref (Z.1 132), .ref (Z.1 133), .ref (Z.1 134), .ref (Z.1 135), .ref (Z.1 136), .int (g k 13), .ref (Z.1 137), .ref (Z.1 138), .int (g k 16), .int (g k 17), .int (g k 18), .int (g k 19), .int (g k 20), .int (g k 21), .int (g k 22), .int (g k 23), .ref (Z.1 139), .ref (Z.1 140), .int (g k 26), .int (g k 27), .int (g k 28), .int (g k 29), .int (g k 30), .int (g k 31), .int (g k 32), .int (g k 33), .ref (Z.1 141), .ref (Z.1 142), .int (g k 36), .ref (Z.1 143), .int (g k 38), .int (g k 39), .int (g k 40), .ref (Z.1 144), .int (g k 42)])) := by
  have h1 := k_lt hk (by decide)
  rw [wl_at h1, mx_r (kl_M k h1 hk)]
  rw [cel_k hk]
  rfl
theorem wr10C {Z : ZT} {h g : Hp} {k n : Nat} (hk : arC k 10 n = true) : (wl Z h g)[k]? = some (Z.1 k, .inl (Z.2.2.1 0, n, .inl (h k))) := by
  obtain ⟨h1, h2, h3⟩ := arC_k hk
  rw [wl_at (by omega), mx_l h3, cel_k h1, ← h2]
  rfl
theorem wr10M {Z : ZT} {h g : Hp} {k n : Nat} (hk : arM k 10 n = true) : (wl Z h g)[k]? = some (Z.1 k, .inl (Z.2.2.1 0, n, .inl (g k))) := by
  obtain ⟨h1, h2, h3, h4⟩ := arM_k hk
  rw [wl_at h4, mx_r h3, cel_k h1, ← h2]
  rfl
theorem ws10C {Z : ZT} {h g : Hp} {k n j : Nat} {v : Int32} (hk : arC k 10 n = true) : (wl Z h g).set k (Z.1 k, .inl (Z.2.2.1 0, n, .inl (upd (h k) j v))) = wl Z (up h k j v) g := by
  obtain ⟨h1, h2, h3⟩ := arC_k hk
  refine wl_set (by omega) ?_ mx_upl
  rw [mx_l h3, up_eq, cel_k h1, ← h2]
  rfl
theorem ws10M {Z : ZT} {h g : Hp} {k n j : Nat} {v : Int32} (hk : arM k 10 n = true) : (wl Z h g).set k (Z.1 k, .inl (Z.2.2.1 0, n, .inl (upd (g k) j v))) = wl Z h (up g k j v) := by
  obtain ⟨h1, h2, h3, h4⟩ := arM_k hk
  refine wl_set h4 ?_ mx_upr
  rw [mx_r h3, up_eq, cel_k h1, ← h2]
  rfl
theorem wr11C {Z : ZT} {h g : Hp} {k n : Nat} (hk : arC k 11 n = true) : (wl Z h g)[k]? = some (Z.1 k, .inl (Z.2.2.1 1, n, .inl (h k))) := by
  obtain ⟨h1, h2, h3⟩ := arC_k hk
  rw [wl_at (by omega), mx_l h3, cel_k h1, ← h2]
  rfl
theorem wr11M {Z : ZT} {h g : Hp} {k n : Nat} (hk : arM k 11 n = true) : (wl Z h g)[k]? = some (Z.1 k, .inl (Z.2.2.1 1, n, .inl (g k))) := by
  obtain ⟨h1, h2, h3, h4⟩ := arM_k hk
  rw [wl_at h4, mx_r h3, cel_k h1, ← h2]
  rfl
theorem ws11C {Z : ZT} {h g : Hp} {k n j : Nat} {v : Int32} (hk : arC k 11 n = true) : (wl Z h g).set k (Z.1 k, .inl (Z.2.2.1 1, n, .inl (upd (h k) j v))) = wl Z (up h k j v) g := by
  obtain ⟨h1, h2, h3⟩ := arC_k hk
  refine wl_set (by omega) ?_ mx_upl
  rw [mx_l h3, up_eq, cel_k h1, ← h2]
  rfl
theorem ws11M {Z : ZT} {h g : Hp} {k n j : Nat} {v : Int32} (hk : arM k 11 n = true) : (wl Z h g).set k (Z.1 k, .inl (Z.2.2.1 1, n, .inl (upd (g k) j v))) = wl Z h (up g k j v) := by
  obtain ⟨h1, h2, h3, h4⟩ := arM_k hk
  refine wl_set h4 ?_ mx_upr
  rw [mx_r h3, up_eq, cel_k h1, ← h2]
  rfl
theorem wr12C {Z : ZT} {h g : Hp} {k n : Nat} (hk : arC k 12 n = true) : (wl Z h g)[k]? = some (Z.1 k, .inl (Z.2.2.1 2, n, .inl (h k))) := by
  obtain ⟨h1, h2, h3⟩ := arC_k hk
  rw [wl_at (by omega), mx_l h3, cel_k h1, ← h2]
  rfl
theorem wr12M {Z : ZT} {h g : Hp} {k n : Nat} (hk : arM k 12 n = true) : (wl Z h g)[k]? = some (Z.1 k, .inl (Z.2.2.1 2, n, .inl (g k))) := by
  obtain ⟨h1, h2, h3, h4⟩ := arM_k hk
  rw [wl_at h4, mx_r h3, cel_k h1, ← h2]
  rfl
theorem ws12C {Z : ZT} {h g : Hp} {k n j : Nat} {v : Int32} (hk : arC k 12 n = true) : (wl Z h g).set k (Z.1 k, .inl (Z.2.2.1 2, n, .inl (upd (h k) j v))) = wl Z (up h k j v) g := by
  obtain ⟨h1, h2, h3⟩ := arC_k hk
  refine wl_set (by omega) ?_ mx_upl
  rw [mx_l h3, up_eq, cel_k h1, ← h2]
  rfl
theorem ws12M {Z : ZT} {h g : Hp} {k n j : Nat} {v : Int32} (hk : arM k 12 n = true) : (wl Z h g).set k (Z.1 k, .inl (Z.2.2.1 2, n, .inl (upd (g k) j v))) = wl Z h (up g k j v) := by
  obtain ⟨h1, h2, h3, h4⟩ := arM_k hk
  refine wl_set h4 ?_ mx_upr
  rw [mx_r h3, up_eq, cel_k h1, ← h2]
  rfl
def strs : List (String × Nat × String × Nat) := [("TranscriptCutter$FormattedText", 34, " / ", 0), ("TranscriptCutter$FormattedText", 36, " ", 1), ("TranscriptCutter$TextGrammar", 43, "length", 2), ("TranscriptCutter$TextGrammar", 52, "speaker", 3), ("TranscriptCutter$TextGrammar", 57, "word", 4), ("TranscriptCutter$TextGrammar", 62, "breath", 5), ("TranscriptCutter$TextGrammar", 67, "handle", 6), ("TranscriptCutter", 74, "the text does not match", 7), ("TranscriptCutter$ScriptGrammar", 65, "cut", 8), ("TranscriptCutter$ScriptGrammar", 71, "clean", 9), ("TranscriptCutter$ScriptGrammar", 73, "restore", 10), ("TranscriptCutter$ScriptGrammar", 75, "move", 11), ("TranscriptCutter$ScriptGrammar", 77, "if", 12), ("TranscriptCutter$ScriptGrammar", 79, "repeat", 13), ("TranscriptCutter$ScriptGrammar", 102, "else", 14), ("TranscriptCutter$ScriptGrammar", 84, "behind", 15), ("TranscriptCutter", 97, "the script does not match", 16), ("TranscriptCutter", 354, "no such word", 17), ("TranscriptCutter", 357, "no such block", 18), ("TranscriptCutter", 361, "no such shot", 19), ("TranscriptCutter", 359, "no such speaker", 20), ("TranscriptCutter", 363, "no such places", 21), ("TranscriptCutter", 297, "the word is not kept", 22), ("TranscriptCutter", 300, "the last word is before the first one", 23), ("TranscriptCutter", 305, "the last shot is before the first one", 24), ("TranscriptCutter", 307, "there is no such shot to move behind", 25), ("TranscriptCutter", 309, "the shot to move behind is moved itself", 26), ("TranscriptCutter", 315, "a head or tail is 0 to 999", 27), ("TranscriptCutter$FormattedText", 58, "s", 28), ("TranscriptCutter$FormattedText", 66, "-", 29), ("TranscriptCutter$FormattedText", 87, ":", 30), ("TranscriptCutter$FormattedText", 89, ":[", 31), ("TranscriptCutter$FormattedText", 91, "", 32), ("TranscriptCutter$FormattedText", 93, "]", 33), ("TranscriptCutterModel", 195, "length", 34), ("TranscriptCutterModel", 199, "speaker", 35), ("TranscriptCutterModel", 204, "word", 36), ("TranscriptCutterModel", 209, "breath", 37), ("TranscriptCutterModel", 214, "handle", 38), ("TranscriptCutterModel", 238, "cut", 39), ("TranscriptCutterModel", 240, "clean", 40), ("TranscriptCutterModel", 242, "restore", 41), ("TranscriptCutterModel", 244, "move", 42), ("TranscriptCutterModel", 246, "if", 43), ("TranscriptCutterModel", 248, "repeat", 44), ("TranscriptCutterModel", 262, "else", 45), ("TranscriptCutterModel", 264, "behind", 46)]
def casts : List (String × String) := [("java/lang/IllegalArgumentException", "java/lang/IllegalArgumentException"), ("java/lang/IndexOutOfBoundsException", "java/lang/IndexOutOfBoundsException"), ("java/lang/IllegalStateException", "java/lang/IllegalStateException")]
theorem tyX_p {d : String} {t : FieldType} (h : parseFieldDescriptor d = some t) : parseFieldDescriptor d = some t := h
theorem zb_or {v : Int32} (h : zb v = true) : v = 0 ∨ v = 1 := by
  unfold zb at h
  rw [Bool.or_eq_true, decide_eq_true_eq, decide_eq_true_eq] at h
  exact h
theorem zb_n {v : Int32} (h : zb v = true) : narrow .boolean (.int v) = .int v := by
  rcases zb_or h with rfl | rfl <;> decide
theorem zb_f {v : Int32} (h : zb v = true) : fits .boolean (.int v) = true := by
  rcases zb_or h with rfl | rfl <;> decide
/-- the world of both sides, in a heap -/
def XW (Z : ZT) (h g : Hp) (H0 H : Heap) (locs : List Loc) : Prop := va_P Z.2.1 vwCl (wl Z h g) H ∧ va_S (FR Z) H0 H locs
theorem wl_D {Z : ZT} {h g h' g' : Hp} {A : Nat → Prop} (hD : va_D A (wl Z h g)) : va_D A (wl Z h' g') := by
  have key : ∀ (k : Nat) (q : Nat × va_E), (wl Z h' g')[k]? = some q → ∃ q0, (wl Z h g)[k]? = some q0 ∧ q0.1 = q.1 := by
    intro k q hk
    have hl : k < NM Z := by have := (List.getElem?_eq_some_iff.mp hk).1; rwa [wl_len] at this
    rw [wl_atm hl] at hk
    cases hk
    exact ⟨_, wl_atm hl, rfl⟩
  refine ⟨fun i j x y hi hj hxy => ?_, fun k q hk => ?_⟩
  · obtain ⟨x0, h1, h2⟩ := key i x hi
    obtain ⟨y0, h3, h4⟩ := key j y hj
    exact hD.1 i j x0 y0 h1 h3 (h2.trans (hxy.trans h4.symm))
  · obtain ⟨q0, h1, h2⟩ := key k q hk
    rw [← h2]
    exact hD.2 k q0 h1
def SS (Z : ZT) (U : State) (H : Heap) : Prop := ∀ i : Nat, i < NS → va_O "java/lang/String" (Z.2.2.2.2 (2 * i)) (FR Z) U H ∧ va_OF "java/lang/String" "coder" "B" (.int 0) (Z.2.2.2.2 (2 * i)) (FR Z) U H ∧ va_OF "java/lang/String" "value" "[B" (.ref (Z.2.2.2.2 (2 * i + 1))) (Z.2.2.2.2 (2 * i)) (FR Z) U H ∧ va_T .byte (Z.2.2.2.2 (2 * i + 1)) (tl i) (fun j => .int (tb i j)) (FR Z) U H
def SR (Z : ZT) (U : State) : Prop := ∀ q ∈ strs, vk_R q.1 q.2.1 q.2.2.1 (Z.2.2.2.2 (2 * q.2.2.2)) U
def ncasts : List (String × String) := [("java/lang/IllegalArgumentException", "java/lang/IndexOutOfBoundsException"), ("java/lang/IllegalStateException", "java/lang/IndexOutOfBoundsException")]
def SN (U : State) : Prop := (∀ q ∈ casts, va_Nw (.castable q.1 q.2) U) ∧ ∀ q ∈ ncasts, va_Nc q.1 q.2 U
def SX (Z : ZT) (U : State) (H : Heap) : Prop := SS Z U H ∧ SR Z U ∧ va_Z "java/lang/String" "COMPACT_STRINGS" "Z" (.int 1) (FR Z) U H ∧ va_Zq "jdk/internal/util/Preconditions" "SIOOBE_FORMATTER" "Ljava/util/function/BiFunction;" (FR Z) U H ∧ vx_Zq Bundle.tN "UNASSIGNED_STACK" Bundle.steD (FR Z) U H ∧ vx_Zq Bundle.tN "SUPPRESSED_SENTINEL" Bundle.listD (FR Z) U H ∧ SN U
theorem SX.to {Z : ZT} {s U : State} {H : Heap} {locs : List Loc} (h : SX Z s s.heap) (hS : va_S (FR Z) s.heap H locs) (hw : s.WarmedH U.vm) : SX Z U H := by
  obtain ⟨h1, h2, h3, h4, h5, h6, h7⟩ := h
  refine ⟨fun i hi => ?_, fun q hq => vk_R.warm hw (h2 q hq), va_Z.moved hw.alike (h3.kept hS.2.1), va_Zq.moved hw.alike (h4.kept hS.2.1), vx_Zq.moved hw.alike (h5.kept hS.2.1), vx_Zq.moved hw.alike (h6.kept hS.2.1), ⟨fun q hq => va_Nw.warmC hw (h7.1 q hq), fun q hq => va_Nc.moved hw.alike (h7.2 q hq)⟩⟩
  obtain ⟨a, b, c, d⟩ := h1 i hi
  exact ⟨va_O.moved hw.alike (a.kept hS.2.1), va_OF.moved hw.alike (b.kept hS.2.1), va_OF.moved hw.alike (c.kept hS.2.1), va_T.moved hw.alike (d.kept hS.2.1)⟩
/-- a method's surroundings: the machine, the code, the tables, the object of the code's class -/
def CX (p : Program) (s : State) (m : MethodId) (args : Array Value) (meth : Method) (c : Code) (cc : ByteArray) (own : String) (nL : Nat) (ret : Option FieldType) (Z : ZT) : Prop :=
  p.tables.exec = Jvm.exec ∧ c.code = cc ∧ (∀ w ∈ TW, w.before args s = true) ∧ s.vm.findClass own = some m.cls ∧ c.maxLocals = nL ∧ meth.sig.returnType = ret ∧ meth.locks = false ∧ va_K Z.2.1 vwCl (tyZ Z) s ∧ va_D (FR Z) (wl Z (fun _ _ => 0) (fun _ _ => 0)) ∧ Z.2.2.2.1 ≤ s.heap.size ∧ SX Z s s.heap
/-- the world as a contract says it -/
def Wd (Z : ZT) (h g : Hp) (U : State) : Prop := va_P Z.2.1 vwCl (wl Z h g) U.heap ∧ va_K Z.2.1 vwCl (tyZ Z) U ∧ va_D (FR Z) (wl Z (fun _ _ => 0) (fun _ _ => 0)) ∧ Z.2.2.2.1 ≤ U.heap.size ∧ SX Z U U.heap
def rmD (k : Nat) : Room := { frames := 2 + k, cells := 0, slots := 0, locals := 50 + 50 * k }
section XB
variable {p : Program} {l : Launch} {e : Env} {R : Room} {s : State} {m : MethodId} {args : Array Value} {below : List Frame} {meth : Method} {c : Code} {H : Heap} {locs : List Loc} {cells slots : Nat} {Q : State → Prop} {cc : ByteArray} {pc nL : Nat} {ret : Option FieldType} {ls : Array Slot} {rest : List Value} {Z : ZT} {h g h1 g1 : Hp} {own : String}
theorem x_get (C : CX p s m args meth c cc own nL ret Z) (hW : XW Z h g s.heap H locs) {o ci N idx : Nat} {fs : List Value} {Cn ref : String} {T : u_T} {v : Value} (ho : (wl Z h g)[o]? = some (Z.1 o, .inr (ci, fs))) (hc : vwCl[ci]? = some (Cn, T, N)) (hin : ∀ w ∈ u_ws Cn T N, w ∈ TW) (j : Nat) (hj : j < N) (hl : Cond.fieldLink own idx ref (T j).2.1 (T j).2.2.1 ∈ TW) (hr : (T j).1 = ref := by rfl) (hv : fs[j]? = some v) (hd : decode cc pc = .ok (.getfield idx, 3))
    (k : W p l e R s m args below meth c H locs cells slots Q (F0 m (pc + 3) ls (v :: rest))) : W p l e R s m args below meth c H locs cells slots Q (F0 m pc ls (.ref (Z.1 o) :: rest)) :=
  va_get C.1 C.2.1 (own := own) C.2.2.1 hin C.2.2.2.1 C.2.2.2.2.2.2.2.1 hW.1 o ho hc j hj (C.2.2.1 _ hl) (fun x q => by rw [hr] at q; exact q) hv hd k
theorem x_put (C : CX p s m args meth c cc own nL ret Z) (hW : XW Z h g s.heap H locs) {o ci N idx : Nat} {fs : List Value} {Cn ref : String} {T : u_T} {v : Value} (ho : (wl Z h g)[o]? = some (Z.1 o, .inr (ci, fs))) (hc : vwCl[ci]? = some (Cn, T, N)) (hin : ∀ w ∈ u_ws Cn T N, w ∈ TW) (ty0 : Nat → FieldType) (hty : ∀ k, k < N → parseFieldDescriptor (T k).2.2.1 = some (ty0 k)) (hnm : ∀ a, a < N → ∀ b, b < N → a ≠ b → (T a).2.1 ≠ (T b).2.1) (j : Nat) (hj : j < N) (hl : Cond.fieldLink own idx ref (T j).2.1 (T j).2.2.1 ∈ TW) (hr : (T j).1 = ref := by rfl) (hfin : (T j).2.2.2 = false := by rfl) {ty : FieldType} (hty2 : parseFieldDescriptor (T j).2.2.1 = some ty) (hn : narrow ty v = v) (hfit : fits ty v = true) (hlen : j < fs.length) (hs : (wl Z h g).set o (Z.1 o, .inr (ci, fs.set j v)) = wl Z h1 g1) (hd : decode cc pc = .ok (.putfield idx, 3))
    (kk : ∀ (H1 : Heap) (locs1 : List Loc), XW Z h1 g1 s.heap H1 locs1 → W p l e R s m args below meth c H1 locs1 cells slots Q (F0 m (pc + 3) ls rest)) : W p l e R s m args below meth c H locs cells slots Q (F0 m pc ls (v :: .ref (Z.1 o) :: rest)) :=
  va_put C.1 C.2.1 (own := own) C.2.2.1 hin ty0 hty hnm C.2.2.2.1 C.2.2.2.2.2.2.2.1 hW.1 (wl_D C.2.2.2.2.2.2.2.2.1) hW.2 o ho hc j hj (C.2.2.1 _ hl) (fun x q => by rw [hr] at q; exact q) hfin hty2 hn hfit hlen hd (fun H1 locs1 a _ b => kk H1 locs1 ⟨by rw [hs] at a; exact a, b⟩)
theorem x_ialdC (C : CX p s m args meth c cc own nL ret Z) (hW : XW Z h g s.heap H locs) {o n : Nat} (ho : arC o 11 n = true) {i : Int32} {α : Type} {K : Option α} {out : α} (hf : ck (inb i n) K = some out) (hd : decode cc pc = .ok (.iaload, 1)) (k : K = some out → W p l e R s m args below meth c H locs cells slots Q (F0 m (pc + 1) ls (.int (h o (ix i)) :: rest))) : W p l e R s m args below meth c H locs cells slots Q (F0 m pc ls (.int i :: .ref (Z.1 o) :: rest)) :=
  va_iald C.1 C.2.1 C.2.2.2.2.2.2.2.1 hW.1 o 1 (wr11C ho) rfl (inb_in (ck_t hf).1) hd (k (ck_t hf).2)
theorem x_ialdM (C : CX p s m args meth c cc own nL ret Z) (hW : XW Z h g s.heap H locs) {o n : Nat} (ho : arM o 11 n = true) {i : Int32} {α : Type} {K : Option α} {out : α} (hf : ck (inb i n) K = some out) (hd : decode cc pc = .ok (.iaload, 1)) (k : K = some out → W p l e R s m args below meth c H locs cells slots Q (F0 m (pc + 1) ls (.int (g o (ix i)) :: rest))) : W p l e R s m args below meth c H locs cells slots Q (F0 m pc ls (.int i :: .ref (Z.1 o) :: rest)) :=
  va_iald C.1 C.2.1 C.2.2.2.2.2.2.2.1 hW.1 o 1 (wr11M ho) rfl (inb_in (ck_t hf).1) hd (k (ck_t hf).2)
theorem x_baldC (C : CX p s m args meth c cc own nL ret Z) (hW : XW Z h g s.heap H locs) {o n : Nat} (ho : arC o 10 n = true) {i : Int32} {α : Type} {K : Option α} {out : α} (hf : ck (inb i n) K = some out) (hd : decode cc pc = .ok (.baload, 1)) (k : K = some out → W p l e R s m args below meth c H locs cells slots Q (F0 m (pc + 1) ls (.int (h o (ix i)) :: rest))) : W p l e R s m args below meth c H locs cells slots Q (F0 m pc ls (.int i :: .ref (Z.1 o) :: rest)) :=
  va_bald C.1 C.2.1 C.2.2.2.2.2.2.2.1 hW.1 o 0 (wr10C ho) rfl (inb_in (ck_t hf).1) hd (k (ck_t hf).2)
theorem x_baldM (C : CX p s m args meth c cc own nL ret Z) (hW : XW Z h g s.heap H locs) {o n : Nat} (ho : arM o 10 n = true) {i : Int32} {α : Type} {K : Option α} {out : α} (hf : ck (inb i n) K = some out) (hd : decode cc pc = .ok (.baload, 1)) (k : K = some out → W p l e R s m args below meth c H locs cells slots Q (F0 m (pc + 1) ls (.int (g o (ix i)) :: rest))) : W p l e R s m args below meth c H locs cells slots Q (F0 m pc ls (.int i :: .ref (Z.1 o) :: rest)) :=
  va_bald C.1 C.2.1 C.2.2.2.2.2.2.2.1 hW.1 o 0 (wr10M ho) rfl (inb_in (ck_t hf).1) hd (k (ck_t hf).2)
theorem x_zaldC (C : CX p s m args meth c cc own nL ret Z) (hW : XW Z h g s.heap H locs) {o n : Nat} (ho : arC o 12 n = true) {i : Int32} {α : Type} {K : Option α} {out : α} (hf : ck (inb i n) K = some out) (hd : decode cc pc = .ok (.baload, 1)) (k : K = some out → W p l e R s m args below meth c H locs cells slots Q (F0 m (pc + 1) ls (.int (h o (ix i)) :: rest))) : W p l e R s m args below meth c H locs cells slots Q (F0 m pc ls (.int i :: .ref (Z.1 o) :: rest)) :=
  va_zald C.1 C.2.1 C.2.2.2.2.2.2.2.1 hW.1 o 2 (wr12C ho) rfl (inb_in (ck_t hf).1) hd (k (ck_t hf).2)
theorem x_iastC (C : CX p s m args meth c cc own nL ret Z) (hW : XW Z h g s.heap H locs) {o n : Nat} (ho : arC o 11 n = true) {i v : Int32} {α : Type} {K : Hp → Option α} {out : α} (hf : ck (inb i n) (stp (up h o (ix i) v) K) = some out) (hd : decode cc pc = .ok (.iastore, 1)) (k : ∀ (h1 : Hp) (H1 : Heap) (locs1 : List Loc), K h1 = some out → XW Z h1 g s.heap H1 locs1 → W p l e R s m args below meth c H1 locs1 cells slots Q (F0 m (pc + 1) ls rest)) : W p l e R s m args below meth c H locs cells slots Q (F0 m pc ls (.int v :: .int i :: .ref (Z.1 o) :: rest)) :=
  va_iast C.1 C.2.1 C.2.2.2.2.2.2.2.1 hW.1 (wl_D C.2.2.2.2.2.2.2.2.1) hW.2 o 1 (wr11C ho) rfl (inb_in (ck_t hf).1) hd (fun H1 locs1 a _ b => k _ H1 locs1 (ck_t hf).2 ⟨by rw [← ws11C ho]; exact a, b⟩)
theorem x_iastM (C : CX p s m args meth c cc own nL ret Z) (hW : XW Z h g s.heap H locs) {o n : Nat} (ho : arM o 11 n = true) {i v : Int32} {α : Type} {K : Hp → Option α} {out : α} (hf : ck (inb i n) (stp (up g o (ix i) v) K) = some out) (hd : decode cc pc = .ok (.iastore, 1)) (k : ∀ (h1 : Hp) (H1 : Heap) (locs1 : List Loc), K h1 = some out → XW Z h h1 s.heap H1 locs1 → W p l e R s m args below meth c H1 locs1 cells slots Q (F0 m (pc + 1) ls rest)) : W p l e R s m args below meth c H locs cells slots Q (F0 m pc ls (.int v :: .int i :: .ref (Z.1 o) :: rest)) :=
  va_iast C.1 C.2.1 C.2.2.2.2.2.2.2.1 hW.1 (wl_D C.2.2.2.2.2.2.2.2.1) hW.2 o 1 (wr11M ho) rfl (inb_in (ck_t hf).1) hd (fun H1 locs1 a _ b => k _ H1 locs1 (ck_t hf).2 ⟨by rw [← ws11M ho]; exact a, b⟩)
theorem x_bastC (C : CX p s m args meth c cc own nL ret Z) (hW : XW Z h g s.heap H locs) {o n : Nat} (ho : arC o 10 n = true) {i v : Int32} {α : Type} {K : Hp → Option α} {out : α} (hf : ck (inb i n) (stp (up h o (ix i) (i2b v)) K) = some out) (hd : decode cc pc = .ok (.bastore, 1)) (k : ∀ (h1 : Hp) (H1 : Heap) (locs1 : List Loc), K h1 = some out → XW Z h1 g s.heap H1 locs1 → W p l e R s m args below meth c H1 locs1 cells slots Q (F0 m (pc + 1) ls rest)) : W p l e R s m args below meth c H locs cells slots Q (F0 m pc ls (.int v :: .int i :: .ref (Z.1 o) :: rest)) :=
  va_bast C.1 C.2.1 C.2.2.2.2.2.2.2.1 hW.1 (wl_D C.2.2.2.2.2.2.2.2.1) hW.2 o 0 (wr10C ho) rfl (inb_in (ck_t hf).1) hd (fun H1 locs1 a _ b => k _ H1 locs1 (ck_t hf).2 ⟨by rw [← ws10C ho]; rw [vp_nar_byte] at a; exact a, b⟩)
theorem x_bastM (C : CX p s m args meth c cc own nL ret Z) (hW : XW Z h g s.heap H locs) {o n : Nat} (ho : arM o 10 n = true) {i v : Int32} {α : Type} {K : Hp → Option α} {out : α} (hf : ck (inb i n) (stp (up g o (ix i) (i2b v)) K) = some out) (hd : decode cc pc = .ok (.bastore, 1)) (k : ∀ (h1 : Hp) (H1 : Heap) (locs1 : List Loc), K h1 = some out → XW Z h h1 s.heap H1 locs1 → W p l e R s m args below meth c H1 locs1 cells slots Q (F0 m (pc + 1) ls rest)) : W p l e R s m args below meth c H locs cells slots Q (F0 m pc ls (.int v :: .int i :: .ref (Z.1 o) :: rest)) :=
  va_bast C.1 C.2.1 C.2.2.2.2.2.2.2.1 hW.1 (wl_D C.2.2.2.2.2.2.2.2.1) hW.2 o 0 (wr10M ho) rfl (inb_in (ck_t hf).1) hd (fun H1 locs1 a _ b => k _ H1 locs1 (ck_t hf).2 ⟨by rw [← ws10M ho]; rw [vp_nar_byte] at a; exact a, b⟩)
theorem zb_nar {v : Int32} (h : zb v = true) : vp_nar .boolean v = v := by rcases zb_or h with rfl | rfl <;> decide
theorem x_zastC (C : CX p s m args meth c cc own nL ret Z) (hW : XW Z h g s.heap H locs) {o n : Nat} (ho : arC o 12 n = true) {i v : Int32} (hz : zb v = true) {α : Type} {K : Hp → Option α} {out : α} (hf : ck (inb i n) (stp (up h o (ix i) v) K) = some out) (hd : decode cc pc = .ok (.bastore, 1)) (k : ∀ (h1 : Hp) (H1 : Heap) (locs1 : List Loc), K h1 = some out → XW Z h1 g s.heap H1 locs1 → W p l e R s m args below meth c H1 locs1 cells slots Q (F0 m (pc + 1) ls rest)) : W p l e R s m args below meth c H locs cells slots Q (F0 m pc ls (.int v :: .int i :: .ref (Z.1 o) :: rest)) :=
  va_zast C.1 C.2.1 C.2.2.2.2.2.2.2.1 hW.1 (wl_D C.2.2.2.2.2.2.2.2.1) hW.2 o 2 (wr12C ho) rfl (inb_in (ck_t hf).1) hd (fun H1 locs1 a _ b => k _ H1 locs1 (ck_t hf).2 ⟨by rw [← ws12C ho]; rw [zb_nar hz] at a; exact a, b⟩)
end XB

theorem ms_X2_34 : ("TranscriptCutter$FormattedText", 34, " / ", 0) ∈ strs := List.mem_of_getElem? (i := 0) rfl
theorem ms_X2_36 : ("TranscriptCutter$FormattedText", 36, " ", 1) ∈ strs := List.mem_of_getElem? (i := 1) rfl
theorem ms_X8_43 : ("TranscriptCutter$TextGrammar", 43, "length", 2) ∈ strs := List.mem_of_getElem? (i := 2) rfl
theorem ms_X8_52 : ("TranscriptCutter$TextGrammar", 52, "speaker", 3) ∈ strs := List.mem_of_getElem? (i := 3) rfl
theorem ms_X8_57 : ("TranscriptCutter$TextGrammar", 57, "word", 4) ∈ strs := List.mem_of_getElem? (i := 4) rfl
theorem ms_X8_62 : ("TranscriptCutter$TextGrammar", 62, "breath", 5) ∈ strs := List.mem_of_getElem? (i := 5) rfl
theorem ms_X8_67 : ("TranscriptCutter$TextGrammar", 67, "handle", 6) ∈ strs := List.mem_of_getElem? (i := 6) rfl
theorem ms_X10_74 : ("TranscriptCutter", 74, "the text does not match", 7) ∈ strs := List.mem_of_getElem? (i := 7) rfl
theorem ms_X7_65 : ("TranscriptCutter$ScriptGrammar", 65, "cut", 8) ∈ strs := List.mem_of_getElem? (i := 8) rfl
theorem ms_X7_71 : ("TranscriptCutter$ScriptGrammar", 71, "clean", 9) ∈ strs := List.mem_of_getElem? (i := 9) rfl
theorem ms_X7_73 : ("TranscriptCutter$ScriptGrammar", 73, "restore", 10) ∈ strs := List.mem_of_getElem? (i := 10) rfl
theorem ms_X7_75 : ("TranscriptCutter$ScriptGrammar", 75, "move", 11) ∈ strs := List.mem_of_getElem? (i := 11) rfl
theorem ms_X7_77 : ("TranscriptCutter$ScriptGrammar", 77, "if", 12) ∈ strs := List.mem_of_getElem? (i := 12) rfl
theorem ms_X7_79 : ("TranscriptCutter$ScriptGrammar", 79, "repeat", 13) ∈ strs := List.mem_of_getElem? (i := 13) rfl
theorem ms_X7_102 : ("TranscriptCutter$ScriptGrammar", 102, "else", 14) ∈ strs := List.mem_of_getElem? (i := 14) rfl
theorem ms_X7_84 : ("TranscriptCutter$ScriptGrammar", 84, "behind", 15) ∈ strs := List.mem_of_getElem? (i := 15) rfl
theorem ms_X10_97 : ("TranscriptCutter", 97, "the script does not match", 16) ∈ strs := List.mem_of_getElem? (i := 16) rfl
theorem ms_X10_354 : ("TranscriptCutter", 354, "no such word", 17) ∈ strs := List.mem_of_getElem? (i := 17) rfl
theorem ms_X10_357 : ("TranscriptCutter", 357, "no such block", 18) ∈ strs := List.mem_of_getElem? (i := 18) rfl
theorem ms_X10_361 : ("TranscriptCutter", 361, "no such shot", 19) ∈ strs := List.mem_of_getElem? (i := 19) rfl
theorem ms_X10_359 : ("TranscriptCutter", 359, "no such speaker", 20) ∈ strs := List.mem_of_getElem? (i := 20) rfl
theorem ms_X10_363 : ("TranscriptCutter", 363, "no such places", 21) ∈ strs := List.mem_of_getElem? (i := 21) rfl
theorem ms_X10_297 : ("TranscriptCutter", 297, "the word is not kept", 22) ∈ strs := List.mem_of_getElem? (i := 22) rfl
theorem ms_X10_300 : ("TranscriptCutter", 300, "the last word is before the first one", 23) ∈ strs := List.mem_of_getElem? (i := 23) rfl
theorem ms_X10_305 : ("TranscriptCutter", 305, "the last shot is before the first one", 24) ∈ strs := List.mem_of_getElem? (i := 24) rfl
theorem ms_X10_307 : ("TranscriptCutter", 307, "there is no such shot to move behind", 25) ∈ strs := List.mem_of_getElem? (i := 25) rfl
theorem ms_X10_309 : ("TranscriptCutter", 309, "the shot to move behind is moved itself", 26) ∈ strs := List.mem_of_getElem? (i := 26) rfl
theorem ms_X10_315 : ("TranscriptCutter", 315, "a head or tail is 0 to 999", 27) ∈ strs := List.mem_of_getElem? (i := 27) rfl
theorem ms_X2_58 : ("TranscriptCutter$FormattedText", 58, "s", 28) ∈ strs := List.mem_of_getElem? (i := 28) rfl
theorem ms_X2_66 : ("TranscriptCutter$FormattedText", 66, "-", 29) ∈ strs := List.mem_of_getElem? (i := 29) rfl
theorem ms_X2_87 : ("TranscriptCutter$FormattedText", 87, ":", 30) ∈ strs := List.mem_of_getElem? (i := 30) rfl
theorem ms_X2_89 : ("TranscriptCutter$FormattedText", 89, ":[", 31) ∈ strs := List.mem_of_getElem? (i := 31) rfl
theorem ms_X2_91 : ("TranscriptCutter$FormattedText", 91, "", 32) ∈ strs := List.mem_of_getElem? (i := 32) rfl
theorem ms_X2_93 : ("TranscriptCutter$FormattedText", 93, "]", 33) ∈ strs := List.mem_of_getElem? (i := 33) rfl
theorem ms_X11_195 : ("TranscriptCutterModel", 195, "length", 34) ∈ strs := List.mem_of_getElem? (i := 34) rfl
theorem ms_X11_199 : ("TranscriptCutterModel", 199, "speaker", 35) ∈ strs := List.mem_of_getElem? (i := 35) rfl
theorem ms_X11_204 : ("TranscriptCutterModel", 204, "word", 36) ∈ strs := List.mem_of_getElem? (i := 36) rfl
theorem ms_X11_209 : ("TranscriptCutterModel", 209, "breath", 37) ∈ strs := List.mem_of_getElem? (i := 37) rfl
theorem ms_X11_214 : ("TranscriptCutterModel", 214, "handle", 38) ∈ strs := List.mem_of_getElem? (i := 38) rfl
theorem ms_X11_238 : ("TranscriptCutterModel", 238, "cut", 39) ∈ strs := List.mem_of_getElem? (i := 39) rfl
theorem ms_X11_240 : ("TranscriptCutterModel", 240, "clean", 40) ∈ strs := List.mem_of_getElem? (i := 40) rfl
theorem ms_X11_242 : ("TranscriptCutterModel", 242, "restore", 41) ∈ strs := List.mem_of_getElem? (i := 41) rfl
theorem ms_X11_244 : ("TranscriptCutterModel", 244, "move", 42) ∈ strs := List.mem_of_getElem? (i := 42) rfl
theorem ms_X11_246 : ("TranscriptCutterModel", 246, "if", 43) ∈ strs := List.mem_of_getElem? (i := 43) rfl
theorem ms_X11_248 : ("TranscriptCutterModel", 248, "repeat", 44) ∈ strs := List.mem_of_getElem? (i := 44) rfl
theorem ms_X11_262 : ("TranscriptCutterModel", 262, "else", 45) ∈ strs := List.mem_of_getElem? (i := 45) rfl
theorem ms_X11_264 : ("TranscriptCutterModel", 264, "behind", 46) ∈ strs := List.mem_of_getElem? (i := 46) rfl
section GP
variable {p : Program} {l : Launch} {e : Env} {R : Room} {s : State} {m : MethodId} {args : Array Value} {below : List Frame} {meth : Method} {c : Code} {H : Heap} {locs : List Loc} {cells slots : Nat} {Q : State → Prop} {cc : ByteArray} {pc nL : Nat} {ret : Option FieldType} {ls : Array Slot} {rest : List Value} {Z : ZT} {h g : Hp}
theorem ml_X9_9 : Cond.fieldLink RX9 9 RX9 (TX9 0).2.1 (TX9 0).2.2.1 ∈ TW := TW_of 141 (by decide +kernel) (by decide +kernel)
theorem xg_X9_9 (C : CX p s m args meth c cc RX9 nL ret Z) (hW : XW Z h g s.heap H locs) {o : Nat} (hk : knd o = 7) (hd : decode cc pc = .ok (.getfield 9, 3)) (kk : W p l e R s m args below meth c H locs cells slots Q (F0 m (pc + 3) ls (.ref (Z.1 2) :: rest))) : W p l e R s m args below meth c H locs cells slots Q (F0 m pc ls (.ref (Z.1 o) :: rest)) := x_get C hW (wk7 hk) rfl wsX9_in 0 (by decide) (ml_X9_9) rfl (v := .ref (Z.1 2)) rfl hd kk
theorem ml_X10_58 : Cond.fieldLink RX10 58 RX9 (TX9 1).2.1 (TX9 1).2.2.1 ∈ TW := TW_of 142 (by decide +kernel) (by decide +kernel)
theorem xg_X10_58 (C : CX p s m args meth c cc RX10 nL ret Z) (hW : XW Z h g s.heap H locs) {o : Nat} (hk : knd o = 7) (hd : decode cc pc = .ok (.getfield 58, 3)) (kk : W p l e R s m args below meth c H locs cells slots Q (F0 m (pc + 3) ls (.int (h o 1) :: rest))) : W p l e R s m args below meth c H locs cells slots Q (F0 m pc ls (.ref (Z.1 o) :: rest)) := x_get C hW (wk7 hk) rfl wsX9_in 1 (by decide) (ml_X10_58) rfl (v := .int (h o 1)) rfl hd kk
theorem xp_X10_58 (C : CX p s m args meth c cc RX10 nL ret Z) (hW : XW Z h g s.heap H locs) {o : Nat} (hk : knd o = 7) {v : Int32} {α : Type} {K : Hp → Option α} {out : α} (hf : stp (up h o 1 v) K = some out) (hd : decode cc pc = .ok (.putfield 58, 3)) (kk : ∀ (h1 : Hp) (H1 : Heap) (locs1 : List Loc), K h1 = some out → XW Z h1 g s.heap H1 locs1 → W p l e R s m args below meth c H1 locs1 cells slots Q (F0 m (pc + 3) ls rest)) : W p l e R s m args below meth c H locs cells slots Q (F0 m pc ls (.int v :: .ref (Z.1 o) :: rest)) := by
  have hs : (wl Z h g).set o (Z.1 o, .inr (7, ([.ref (Z.1 2), .int (h o 1), .int (h o 2), .int (h o 3), .int (h o 4), .int (h o 5), .int (h o 6)]).set 1 (.int v))) = wl Z (up h o 1 v) g := by
    have h1 := k_lt hk (by decide)
    refine wl_set h1 ?_ mx_upl
    rw [mx_l (kl_C o h1 (by omega)), up_eq]
    rw [cel_k hk]
    rfl
  exact x_put C hW (wk7 hk) rfl wsX9_in tyX9 tyX9_ok nmX9 1 (by decide) (ml_X10_58) rfl rfl (ty := .int) (by decide +kernel) (rfl) (rfl) (Nat.le_of_ble_eq_true rfl) hs hd (fun H1 locs1 q => kk _ H1 locs1 hf q)
theorem ml_X9_19 : Cond.fieldLink RX9 19 RX9 (TX9 1).2.1 (TX9 1).2.2.1 ∈ TW := TW_of 143 (by decide +kernel) (by decide +kernel)
theorem xg_X9_19 (C : CX p s m args meth c cc RX9 nL ret Z) (hW : XW Z h g s.heap H locs) {o : Nat} (hk : knd o = 7) (hd : decode cc pc = .ok (.getfield 19, 3)) (kk : W p l e R s m args below meth c H locs cells slots Q (F0 m (pc + 3) ls (.int (h o 1) :: rest))) : W p l e R s m args below meth c H locs cells slots Q (F0 m pc ls (.ref (Z.1 o) :: rest)) := x_get C hW (wk7 hk) rfl wsX9_in 1 (by decide) (ml_X9_19) rfl (v := .int (h o 1)) rfl hd kk
theorem xp_X9_19 (C : CX p s m args meth c cc RX9 nL ret Z) (hW : XW Z h g s.heap H locs) {o : Nat} (hk : knd o = 7) {v : Int32} {α : Type} {K : Hp → Option α} {out : α} (hf : stp (up h o 1 v) K = some out) (hd : decode cc pc = .ok (.putfield 19, 3)) (kk : ∀ (h1 : Hp) (H1 : Heap) (locs1 : List Loc), K h1 = some out → XW Z h1 g s.heap H1 locs1 → W p l e R s m args below meth c H1 locs1 cells slots Q (F0 m (pc + 3) ls rest)) : W p l e R s m args below meth c H locs cells slots Q (F0 m pc ls (.int v :: .ref (Z.1 o) :: rest)) := by
  have hs : (wl Z h g).set o (Z.1 o, .inr (7, ([.ref (Z.1 2), .int (h o 1), .int (h o 2), .int (h o 3), .int (h o 4), .int (h o 5), .int (h o 6)]).set 1 (.int v))) = wl Z (up h o 1 v) g := by
    have h1 := k_lt hk (by decide)
    refine wl_set h1 ?_ mx_upl
    rw [mx_l (kl_C o h1 (by omega)), up_eq]
    rw [cel_k hk]
    rfl
  exact x_put C hW (wk7 hk) rfl wsX9_in tyX9 tyX9_ok nmX9 1 (by decide) (ml_X9_19) rfl rfl (ty := .int) (by decide +kernel) (rfl) (rfl) (Nat.le_of_ble_eq_true rfl) hs hd (fun H1 locs1 q => kk _ H1 locs1 hf q)
theorem ml_X9_15 : Cond.fieldLink RX9 15 RX9 (TX9 2).2.1 (TX9 2).2.2.1 ∈ TW := TW_of 144 (by decide +kernel) (by decide +kernel)
theorem xg_X9_15 (C : CX p s m args meth c cc RX9 nL ret Z) (hW : XW Z h g s.heap H locs) {o : Nat} (hk : knd o = 7) (hd : decode cc pc = .ok (.getfield 15, 3)) (kk : W p l e R s m args below meth c H locs cells slots Q (F0 m (pc + 3) ls (.int (h o 2) :: rest))) : W p l e R s m args below meth c H locs cells slots Q (F0 m pc ls (.ref (Z.1 o) :: rest)) := x_get C hW (wk7 hk) rfl wsX9_in 2 (by decide) (ml_X9_15) rfl (v := .int (h o 2)) rfl hd kk
theorem xp_X9_15 (C : CX p s m args meth c cc RX9 nL ret Z) (hW : XW Z h g s.heap H locs) {o : Nat} (hk : knd o = 7) {v : Int32} {α : Type} {K : Hp → Option α} {out : α} (hf : stp (up h o 2 v) K = some out) (hd : decode cc pc = .ok (.putfield 15, 3)) (kk : ∀ (h1 : Hp) (H1 : Heap) (locs1 : List Loc), K h1 = some out → XW Z h1 g s.heap H1 locs1 → W p l e R s m args below meth c H1 locs1 cells slots Q (F0 m (pc + 3) ls rest)) : W p l e R s m args below meth c H locs cells slots Q (F0 m pc ls (.int v :: .ref (Z.1 o) :: rest)) := by
  have hs : (wl Z h g).set o (Z.1 o, .inr (7, ([.ref (Z.1 2), .int (h o 1), .int (h o 2), .int (h o 3), .int (h o 4), .int (h o 5), .int (h o 6)]).set 2 (.int v))) = wl Z (up h o 2 v) g := by
    have h1 := k_lt hk (by decide)
    refine wl_set h1 ?_ mx_upl
    rw [mx_l (kl_C o h1 (by omega)), up_eq]
    rw [cel_k hk]
    rfl
  exact x_put C hW (wk7 hk) rfl wsX9_in tyX9 tyX9_ok nmX9 2 (by decide) (ml_X9_15) rfl rfl (ty := .int) (by decide +kernel) (rfl) (rfl) (Nat.le_of_ble_eq_true rfl) hs hd (fun H1 locs1 q => kk _ H1 locs1 hf q)
theorem ml_X10_109 : Cond.fieldLink RX10 109 RX9 (TX9 2).2.1 (TX9 2).2.2.1 ∈ TW := TW_of 145 (by decide +kernel) (by decide +kernel)
theorem xg_X10_109 (C : CX p s m args meth c cc RX10 nL ret Z) (hW : XW Z h g s.heap H locs) {o : Nat} (hk : knd o = 7) (hd : decode cc pc = .ok (.getfield 109, 3)) (kk : W p l e R s m args below meth c H locs cells slots Q (F0 m (pc + 3) ls (.int (h o 2) :: rest))) : W p l e R s m args below meth c H locs cells slots Q (F0 m pc ls (.ref (Z.1 o) :: rest)) := x_get C hW (wk7 hk) rfl wsX9_in 2 (by decide) (ml_X10_109) rfl (v := .int (h o 2)) rfl hd kk
theorem xp_X10_109 (C : CX p s m args meth c cc RX10 nL ret Z) (hW : XW Z h g s.heap H locs) {o : Nat} (hk : knd o = 7) {v : Int32} {α : Type} {K : Hp → Option α} {out : α} (hf : stp (up h o 2 v) K = some out) (hd : decode cc pc = .ok (.putfield 109, 3)) (kk : ∀ (h1 : Hp) (H1 : Heap) (locs1 : List Loc), K h1 = some out → XW Z h1 g s.heap H1 locs1 → W p l e R s m args below meth c H1 locs1 cells slots Q (F0 m (pc + 3) ls rest)) : W p l e R s m args below meth c H locs cells slots Q (F0 m pc ls (.int v :: .ref (Z.1 o) :: rest)) := by
  have hs : (wl Z h g).set o (Z.1 o, .inr (7, ([.ref (Z.1 2), .int (h o 1), .int (h o 2), .int (h o 3), .int (h o 4), .int (h o 5), .int (h o 6)]).set 2 (.int v))) = wl Z (up h o 2 v) g := by
    have h1 := k_lt hk (by decide)
    refine wl_set h1 ?_ mx_upl
    rw [mx_l (kl_C o h1 (by omega)), up_eq]
    rw [cel_k hk]
    rfl
  exact x_put C hW (wk7 hk) rfl wsX9_in tyX9 tyX9_ok nmX9 2 (by decide) (ml_X10_109) rfl rfl (ty := .int) (by decide +kernel) (rfl) (rfl) (Nat.le_of_ble_eq_true rfl) hs hd (fun H1 locs1 q => kk _ H1 locs1 hf q)
theorem ml_X9_22 : Cond.fieldLink RX9 22 RX9 (TX9 3).2.1 (TX9 3).2.2.1 ∈ TW := TW_of 146 (by decide +kernel) (by decide +kernel)
theorem xg_X9_22 (C : CX p s m args meth c cc RX9 nL ret Z) (hW : XW Z h g s.heap H locs) {o : Nat} (hk : knd o = 7) (hd : decode cc pc = .ok (.getfield 22, 3)) (kk : W p l e R s m args below meth c H locs cells slots Q (F0 m (pc + 3) ls (.int (h o 3) :: rest))) : W p l e R s m args below meth c H locs cells slots Q (F0 m pc ls (.ref (Z.1 o) :: rest)) := x_get C hW (wk7 hk) rfl wsX9_in 3 (by decide) (ml_X9_22) rfl (v := .int (h o 3)) rfl hd kk
theorem xp_X9_22 (C : CX p s m args meth c cc RX9 nL ret Z) (hW : XW Z h g s.heap H locs) {o : Nat} (hk : knd o = 7) {v : Int32} {α : Type} {K : Hp → Option α} {out : α} (hf : stp (up h o 3 v) K = some out) (hd : decode cc pc = .ok (.putfield 22, 3)) (kk : ∀ (h1 : Hp) (H1 : Heap) (locs1 : List Loc), K h1 = some out → XW Z h1 g s.heap H1 locs1 → W p l e R s m args below meth c H1 locs1 cells slots Q (F0 m (pc + 3) ls rest)) : W p l e R s m args below meth c H locs cells slots Q (F0 m pc ls (.int v :: .ref (Z.1 o) :: rest)) := by
  have hs : (wl Z h g).set o (Z.1 o, .inr (7, ([.ref (Z.1 2), .int (h o 1), .int (h o 2), .int (h o 3), .int (h o 4), .int (h o 5), .int (h o 6)]).set 3 (.int v))) = wl Z (up h o 3 v) g := by
    have h1 := k_lt hk (by decide)
    refine wl_set h1 ?_ mx_upl
    rw [mx_l (kl_C o h1 (by omega)), up_eq]
    rw [cel_k hk]
    rfl
  exact x_put C hW (wk7 hk) rfl wsX9_in tyX9 tyX9_ok nmX9 3 (by decide) (ml_X9_22) rfl rfl (ty := .int) (by decide +kernel) (rfl) (rfl) (Nat.le_of_ble_eq_true rfl) hs hd (fun H1 locs1 q => kk _ H1 locs1 hf q)
theorem ml_X10_112 : Cond.fieldLink RX10 112 RX9 (TX9 3).2.1 (TX9 3).2.2.1 ∈ TW := TW_of 147 (by decide +kernel) (by decide +kernel)
theorem xg_X10_112 (C : CX p s m args meth c cc RX10 nL ret Z) (hW : XW Z h g s.heap H locs) {o : Nat} (hk : knd o = 7) (hd : decode cc pc = .ok (.getfield 112, 3)) (kk : W p l e R s m args below meth c H locs cells slots Q (F0 m (pc + 3) ls (.int (h o 3) :: rest))) : W p l e R s m args below meth c H locs cells slots Q (F0 m pc ls (.ref (Z.1 o) :: rest)) := x_get C hW (wk7 hk) rfl wsX9_in 3 (by decide) (ml_X10_112) rfl (v := .int (h o 3)) rfl hd kk
theorem xp_X10_112 (C : CX p s m args meth c cc RX10 nL ret Z) (hW : XW Z h g s.heap H locs) {o : Nat} (hk : knd o = 7) {v : Int32} {α : Type} {K : Hp → Option α} {out : α} (hf : stp (up h o 3 v) K = some out) (hd : decode cc pc = .ok (.putfield 112, 3)) (kk : ∀ (h1 : Hp) (H1 : Heap) (locs1 : List Loc), K h1 = some out → XW Z h1 g s.heap H1 locs1 → W p l e R s m args below meth c H1 locs1 cells slots Q (F0 m (pc + 3) ls rest)) : W p l e R s m args below meth c H locs cells slots Q (F0 m pc ls (.int v :: .ref (Z.1 o) :: rest)) := by
  have hs : (wl Z h g).set o (Z.1 o, .inr (7, ([.ref (Z.1 2), .int (h o 1), .int (h o 2), .int (h o 3), .int (h o 4), .int (h o 5), .int (h o 6)]).set 3 (.int v))) = wl Z (up h o 3 v) g := by
    have h1 := k_lt hk (by decide)
    refine wl_set h1 ?_ mx_upl
    rw [mx_l (kl_C o h1 (by omega)), up_eq]
    rw [cel_k hk]
    rfl
  exact x_put C hW (wk7 hk) rfl wsX9_in tyX9 tyX9_ok nmX9 3 (by decide) (ml_X10_112) rfl rfl (ty := .int) (by decide +kernel) (rfl) (rfl) (Nat.le_of_ble_eq_true rfl) hs hd (fun H1 locs1 q => kk _ H1 locs1 hf q)
theorem ml_X9_34 : Cond.fieldLink RX9 34 RX9 (TX9 4).2.1 (TX9 4).2.2.1 ∈ TW := TW_of 148 (by decide +kernel) (by decide +kernel)
theorem xg_X9_34 (C : CX p s m args meth c cc RX9 nL ret Z) (hW : XW Z h g s.heap H locs) {o : Nat} (hk : knd o = 7) (hd : decode cc pc = .ok (.getfield 34, 3)) (kk : W p l e R s m args below meth c H locs cells slots Q (F0 m (pc + 3) ls (.int (h o 4) :: rest))) : W p l e R s m args below meth c H locs cells slots Q (F0 m pc ls (.ref (Z.1 o) :: rest)) := x_get C hW (wk7 hk) rfl wsX9_in 4 (by decide) (ml_X9_34) rfl (v := .int (h o 4)) rfl hd kk
theorem xp_X9_34 (C : CX p s m args meth c cc RX9 nL ret Z) (hW : XW Z h g s.heap H locs) {o : Nat} (hk : knd o = 7) {v : Int32} {α : Type} {K : Hp → Option α} {out : α} (hf : stp (up h o 4 v) K = some out) (hd : decode cc pc = .ok (.putfield 34, 3)) (kk : ∀ (h1 : Hp) (H1 : Heap) (locs1 : List Loc), K h1 = some out → XW Z h1 g s.heap H1 locs1 → W p l e R s m args below meth c H1 locs1 cells slots Q (F0 m (pc + 3) ls rest)) : W p l e R s m args below meth c H locs cells slots Q (F0 m pc ls (.int v :: .ref (Z.1 o) :: rest)) := by
  have hs : (wl Z h g).set o (Z.1 o, .inr (7, ([.ref (Z.1 2), .int (h o 1), .int (h o 2), .int (h o 3), .int (h o 4), .int (h o 5), .int (h o 6)]).set 4 (.int v))) = wl Z (up h o 4 v) g := by
    have h1 := k_lt hk (by decide)
    refine wl_set h1 ?_ mx_upl
    rw [mx_l (kl_C o h1 (by omega)), up_eq]
    rw [cel_k hk]
    rfl
  exact x_put C hW (wk7 hk) rfl wsX9_in tyX9 tyX9_ok nmX9 4 (by decide) (ml_X9_34) rfl rfl (ty := .int) (by decide +kernel) (rfl) (rfl) (Nat.le_of_ble_eq_true rfl) hs hd (fun H1 locs1 q => kk _ H1 locs1 hf q)
theorem ml_X9_25 : Cond.fieldLink RX9 25 RX9 (TX9 5).2.1 (TX9 5).2.2.1 ∈ TW := TW_of 149 (by decide +kernel) (by decide +kernel)
theorem xg_X9_25 (C : CX p s m args meth c cc RX9 nL ret Z) (hW : XW Z h g s.heap H locs) {o : Nat} (hk : knd o = 7) (hd : decode cc pc = .ok (.getfield 25, 3)) (kk : W p l e R s m args below meth c H locs cells slots Q (F0 m (pc + 3) ls (.int (h o 5) :: rest))) : W p l e R s m args below meth c H locs cells slots Q (F0 m pc ls (.ref (Z.1 o) :: rest)) := x_get C hW (wk7 hk) rfl wsX9_in 5 (by decide) (ml_X9_25) rfl (v := .int (h o 5)) rfl hd kk
theorem xp_X9_25 (C : CX p s m args meth c cc RX9 nL ret Z) (hW : XW Z h g s.heap H locs) {o : Nat} (hk : knd o = 7) {v : Int32} {α : Type} {K : Hp → Option α} {out : α} (hf : stp (up h o 5 v) K = some out) (hd : decode cc pc = .ok (.putfield 25, 3)) (kk : ∀ (h1 : Hp) (H1 : Heap) (locs1 : List Loc), K h1 = some out → XW Z h1 g s.heap H1 locs1 → W p l e R s m args below meth c H1 locs1 cells slots Q (F0 m (pc + 3) ls rest)) : W p l e R s m args below meth c H locs cells slots Q (F0 m pc ls (.int v :: .ref (Z.1 o) :: rest)) := by
  have hs : (wl Z h g).set o (Z.1 o, .inr (7, ([.ref (Z.1 2), .int (h o 1), .int (h o 2), .int (h o 3), .int (h o 4), .int (h o 5), .int (h o 6)]).set 5 (.int v))) = wl Z (up h o 5 v) g := by
    have h1 := k_lt hk (by decide)
    refine wl_set h1 ?_ mx_upl
    rw [mx_l (kl_C o h1 (by omega)), up_eq]
    rw [cel_k hk]
    rfl
  exact x_put C hW (wk7 hk) rfl wsX9_in tyX9 tyX9_ok nmX9 5 (by decide) (ml_X9_25) rfl rfl (ty := .int) (by decide +kernel) (rfl) (rfl) (Nat.le_of_ble_eq_true rfl) hs hd (fun H1 locs1 q => kk _ H1 locs1 hf q)
theorem ml_X9_28 : Cond.fieldLink RX9 28 RX9 (TX9 6).2.1 (TX9 6).2.2.1 ∈ TW := TW_of 150 (by decide +kernel) (by decide +kernel)
theorem xg_X9_28 (C : CX p s m args meth c cc RX9 nL ret Z) (hW : XW Z h g s.heap H locs) {o : Nat} (hk : knd o = 7) (hd : decode cc pc = .ok (.getfield 28, 3)) (kk : W p l e R s m args below meth c H locs cells slots Q (F0 m (pc + 3) ls (.int (h o 6) :: rest))) : W p l e R s m args below meth c H locs cells slots Q (F0 m pc ls (.ref (Z.1 o) :: rest)) := x_get C hW (wk7 hk) rfl wsX9_in 6 (by decide) (ml_X9_28) rfl (v := .int (h o 6)) rfl hd kk
theorem xp_X9_28 (C : CX p s m args meth c cc RX9 nL ret Z) (hW : XW Z h g s.heap H locs) {o : Nat} (hk : knd o = 7) {v : Int32} {α : Type} {K : Hp → Option α} {out : α} (hf : stp (up h o 6 v) K = some out) (hd : decode cc pc = .ok (.putfield 28, 3)) (kk : ∀ (h1 : Hp) (H1 : Heap) (locs1 : List Loc), K h1 = some out → XW Z h1 g s.heap H1 locs1 → W p l e R s m args below meth c H1 locs1 cells slots Q (F0 m (pc + 3) ls rest)) : W p l e R s m args below meth c H locs cells slots Q (F0 m pc ls (.int v :: .ref (Z.1 o) :: rest)) := by
  have hs : (wl Z h g).set o (Z.1 o, .inr (7, ([.ref (Z.1 2), .int (h o 1), .int (h o 2), .int (h o 3), .int (h o 4), .int (h o 5), .int (h o 6)]).set 6 (.int v))) = wl Z (up h o 6 v) g := by
    have h1 := k_lt hk (by decide)
    refine wl_set h1 ?_ mx_upl
    rw [mx_l (kl_C o h1 (by omega)), up_eq]
    rw [cel_k hk]
    rfl
  exact x_put C hW (wk7 hk) rfl wsX9_in tyX9 tyX9_ok nmX9 6 (by decide) (ml_X9_28) rfl rfl (ty := .int) (by decide +kernel) (rfl) (rfl) (Nat.le_of_ble_eq_true rfl) hs hd (fun H1 locs1 q => kk _ H1 locs1 hf q)
theorem ml_X4_9 : Cond.fieldLink RX4 9 RX4 (TX4 0).2.1 (TX4 0).2.2.1 ∈ TW := TW_of 179 (by decide +kernel) (by decide +kernel)
theorem xg_X4_9 (C : CX p s m args meth c cc RX4 nL ret Z) (hW : XW Z h g s.heap H locs) {o : Nat} (hk : knd o = 4) (hd : decode cc pc = .ok (.getfield 9, 3)) (kk : W p l e R s m args below meth c H locs cells slots Q (F0 m (pc + 3) ls (.int (h o 0) :: rest))) : W p l e R s m args below meth c H locs cells slots Q (F0 m pc ls (.ref (Z.1 o) :: rest)) := x_get C hW (wk4 hk) rfl wsX4_in 0 (by decide) (ml_X4_9) rfl (v := .int (h o 0)) rfl hd kk
theorem xp_X4_9 (C : CX p s m args meth c cc RX4 nL ret Z) (hW : XW Z h g s.heap H locs) {o : Nat} (hk : knd o = 4) {v : Int32} {α : Type} {K : Hp → Option α} {out : α} (hf : stp (up h o 0 v) K = some out) (hd : decode cc pc = .ok (.putfield 9, 3)) (kk : ∀ (h1 : Hp) (H1 : Heap) (locs1 : List Loc), K h1 = some out → XW Z h1 g s.heap H1 locs1 → W p l e R s m args below meth c H1 locs1 cells slots Q (F0 m (pc + 3) ls rest)) : W p l e R s m args below meth c H locs cells slots Q (F0 m pc ls (.int v :: .ref (Z.1 o) :: rest)) := by
  have hs : (wl Z h g).set o (Z.1 o, .inr (4, ([.int (h o 0), .int (h o 1), .int (h o 2), .ref (Z.1 (o + 1)), .int (h o 4), .ref (Z.1 (o + 2)), .ref (Z.1 (o + 3)), .ref (Z.1 (o + 4)), .ref (Z.1 (o + 5)), .ref (Z.1 (o + 6)), .int (h o 10), .ref (Z.1 (o + 7)), .ref (Z.1 (o + 8)), .int (h o 13), .ref (Z.1 (o + 9)), .ref (Z.1 (o + 10)), .ref (Z.1 (o + 11)), .ref (Z.1 (o + 12)), .ref (Z.1 (o + 13))]).set 0 (.int v))) = wl Z (up h o 0 v) g := by
    have h1 := k_lt hk (by decide)
    refine wl_set h1 ?_ mx_upl
    rw [mx_l (kl_C o h1 (by omega)), up_eq]
    rw [cel_k hk]
    rfl
  exact x_put C hW (wk4 hk) rfl wsX4_in tyX4 tyX4_ok nmX4 0 (by decide) (ml_X4_9) rfl rfl (ty := .int) (by decide +kernel) (rfl) (rfl) (Nat.le_of_ble_eq_true rfl) hs hd (fun H1 locs1 q => kk _ H1 locs1 hf q)
theorem ml_X8_80 : Cond.fieldLink RX8 80 RX4 (TX4 0).2.1 (TX4 0).2.2.1 ∈ TW := TW_of 180 (by decide +kernel) (by decide +kernel)
theorem xg_X8_80 (C : CX p s m args meth c cc RX8 nL ret Z) (hW : XW Z h g s.heap H locs) {o : Nat} (hk : knd o = 4) (hd : decode cc pc = .ok (.getfield 80, 3)) (kk : W p l e R s m args below meth c H locs cells slots Q (F0 m (pc + 3) ls (.int (h o 0) :: rest))) : W p l e R s m args below meth c H locs cells slots Q (F0 m pc ls (.ref (Z.1 o) :: rest)) := x_get C hW (wk4 hk) rfl wsX4_in 0 (by decide) (ml_X8_80) rfl (v := .int (h o 0)) rfl hd kk
theorem xp_X8_80 (C : CX p s m args meth c cc RX8 nL ret Z) (hW : XW Z h g s.heap H locs) {o : Nat} (hk : knd o = 4) {v : Int32} {α : Type} {K : Hp → Option α} {out : α} (hf : stp (up h o 0 v) K = some out) (hd : decode cc pc = .ok (.putfield 80, 3)) (kk : ∀ (h1 : Hp) (H1 : Heap) (locs1 : List Loc), K h1 = some out → XW Z h1 g s.heap H1 locs1 → W p l e R s m args below meth c H1 locs1 cells slots Q (F0 m (pc + 3) ls rest)) : W p l e R s m args below meth c H locs cells slots Q (F0 m pc ls (.int v :: .ref (Z.1 o) :: rest)) := by
  have hs : (wl Z h g).set o (Z.1 o, .inr (4, ([.int (h o 0), .int (h o 1), .int (h o 2), .ref (Z.1 (o + 1)), .int (h o 4), .ref (Z.1 (o + 2)), .ref (Z.1 (o + 3)), .ref (Z.1 (o + 4)), .ref (Z.1 (o + 5)), .ref (Z.1 (o + 6)), .int (h o 10), .ref (Z.1 (o + 7)), .ref (Z.1 (o + 8)), .int (h o 13), .ref (Z.1 (o + 9)), .ref (Z.1 (o + 10)), .ref (Z.1 (o + 11)), .ref (Z.1 (o + 12)), .ref (Z.1 (o + 13))]).set 0 (.int v))) = wl Z (up h o 0 v) g := by
    have h1 := k_lt hk (by decide)
    refine wl_set h1 ?_ mx_upl
    rw [mx_l (kl_C o h1 (by omega)), up_eq]
    rw [cel_k hk]
    rfl
  exact x_put C hW (wk4 hk) rfl wsX4_in tyX4 tyX4_ok nmX4 0 (by decide) (ml_X8_80) rfl rfl (ty := .int) (by decide +kernel) (rfl) (rfl) (Nat.le_of_ble_eq_true rfl) hs hd (fun H1 locs1 q => kk _ H1 locs1 hf q)
theorem ml_X10_115 : Cond.fieldLink RX10 115 RX4 (TX4 0).2.1 (TX4 0).2.2.1 ∈ TW := TW_of 181 (by decide +kernel) (by decide +kernel)
theorem xg_X10_115 (C : CX p s m args meth c cc RX10 nL ret Z) (hW : XW Z h g s.heap H locs) {o : Nat} (hk : knd o = 4) (hd : decode cc pc = .ok (.getfield 115, 3)) (kk : W p l e R s m args below meth c H locs cells slots Q (F0 m (pc + 3) ls (.int (h o 0) :: rest))) : W p l e R s m args below meth c H locs cells slots Q (F0 m pc ls (.ref (Z.1 o) :: rest)) := x_get C hW (wk4 hk) rfl wsX4_in 0 (by decide) (ml_X10_115) rfl (v := .int (h o 0)) rfl hd kk
theorem xp_X10_115 (C : CX p s m args meth c cc RX10 nL ret Z) (hW : XW Z h g s.heap H locs) {o : Nat} (hk : knd o = 4) {v : Int32} {α : Type} {K : Hp → Option α} {out : α} (hf : stp (up h o 0 v) K = some out) (hd : decode cc pc = .ok (.putfield 115, 3)) (kk : ∀ (h1 : Hp) (H1 : Heap) (locs1 : List Loc), K h1 = some out → XW Z h1 g s.heap H1 locs1 → W p l e R s m args below meth c H1 locs1 cells slots Q (F0 m (pc + 3) ls rest)) : W p l e R s m args below meth c H locs cells slots Q (F0 m pc ls (.int v :: .ref (Z.1 o) :: rest)) := by
  have hs : (wl Z h g).set o (Z.1 o, .inr (4, ([.int (h o 0), .int (h o 1), .int (h o 2), .ref (Z.1 (o + 1)), .int (h o 4), .ref (Z.1 (o + 2)), .ref (Z.1 (o + 3)), .ref (Z.1 (o + 4)), .ref (Z.1 (o + 5)), .ref (Z.1 (o + 6)), .int (h o 10), .ref (Z.1 (o + 7)), .ref (Z.1 (o + 8)), .int (h o 13), .ref (Z.1 (o + 9)), .ref (Z.1 (o + 10)), .ref (Z.1 (o + 11)), .ref (Z.1 (o + 12)), .ref (Z.1 (o + 13))]).set 0 (.int v))) = wl Z (up h o 0 v) g := by
    have h1 := k_lt hk (by decide)
    refine wl_set h1 ?_ mx_upl
    rw [mx_l (kl_C o h1 (by omega)), up_eq]
    rw [cel_k hk]
    rfl
  exact x_put C hW (wk4 hk) rfl wsX4_in tyX4 tyX4_ok nmX4 0 (by decide) (ml_X10_115) rfl rfl (ty := .int) (by decide +kernel) (rfl) (rfl) (Nat.le_of_ble_eq_true rfl) hs hd (fun H1 locs1 q => kk _ H1 locs1 hf q)
theorem ml_X4_15 : Cond.fieldLink RX4 15 RX4 (TX4 1).2.1 (TX4 1).2.2.1 ∈ TW := TW_of 182 (by decide +kernel) (by decide +kernel)
theorem xg_X4_15 (C : CX p s m args meth c cc RX4 nL ret Z) (hW : XW Z h g s.heap H locs) {o : Nat} (hk : knd o = 4) (hd : decode cc pc = .ok (.getfield 15, 3)) (kk : W p l e R s m args below meth c H locs cells slots Q (F0 m (pc + 3) ls (.int (h o 1) :: rest))) : W p l e R s m args below meth c H locs cells slots Q (F0 m pc ls (.ref (Z.1 o) :: rest)) := x_get C hW (wk4 hk) rfl wsX4_in 1 (by decide) (ml_X4_15) rfl (v := .int (h o 1)) rfl hd kk
theorem xp_X4_15 (C : CX p s m args meth c cc RX4 nL ret Z) (hW : XW Z h g s.heap H locs) {o : Nat} (hk : knd o = 4) {v : Int32} {α : Type} {K : Hp → Option α} {out : α} (hf : stp (up h o 1 v) K = some out) (hd : decode cc pc = .ok (.putfield 15, 3)) (kk : ∀ (h1 : Hp) (H1 : Heap) (locs1 : List Loc), K h1 = some out → XW Z h1 g s.heap H1 locs1 → W p l e R s m args below meth c H1 locs1 cells slots Q (F0 m (pc + 3) ls rest)) : W p l e R s m args below meth c H locs cells slots Q (F0 m pc ls (.int v :: .ref (Z.1 o) :: rest)) := by
  have hs : (wl Z h g).set o (Z.1 o, .inr (4, ([.int (h o 0), .int (h o 1), .int (h o 2), .ref (Z.1 (o + 1)), .int (h o 4), .ref (Z.1 (o + 2)), .ref (Z.1 (o + 3)), .ref (Z.1 (o + 4)), .ref (Z.1 (o + 5)), .ref (Z.1 (o + 6)), .int (h o 10), .ref (Z.1 (o + 7)), .ref (Z.1 (o + 8)), .int (h o 13), .ref (Z.1 (o + 9)), .ref (Z.1 (o + 10)), .ref (Z.1 (o + 11)), .ref (Z.1 (o + 12)), .ref (Z.1 (o + 13))]).set 1 (.int v))) = wl Z (up h o 1 v) g := by
    have h1 := k_lt hk (by decide)
    refine wl_set h1 ?_ mx_upl
    rw [mx_l (kl_C o h1 (by omega)), up_eq]
    rw [cel_k hk]
    rfl
  exact x_put C hW (wk4 hk) rfl wsX4_in tyX4 tyX4_ok nmX4 1 (by decide) (ml_X4_15) rfl rfl (ty := .int) (by decide +kernel) (rfl) (rfl) (Nat.le_of_ble_eq_true rfl) hs hd (fun H1 locs1 q => kk _ H1 locs1 hf q)
theorem ml_X8_83 : Cond.fieldLink RX8 83 RX4 (TX4 1).2.1 (TX4 1).2.2.1 ∈ TW := TW_of 183 (by decide +kernel) (by decide +kernel)
theorem xg_X8_83 (C : CX p s m args meth c cc RX8 nL ret Z) (hW : XW Z h g s.heap H locs) {o : Nat} (hk : knd o = 4) (hd : decode cc pc = .ok (.getfield 83, 3)) (kk : W p l e R s m args below meth c H locs cells slots Q (F0 m (pc + 3) ls (.int (h o 1) :: rest))) : W p l e R s m args below meth c H locs cells slots Q (F0 m pc ls (.ref (Z.1 o) :: rest)) := x_get C hW (wk4 hk) rfl wsX4_in 1 (by decide) (ml_X8_83) rfl (v := .int (h o 1)) rfl hd kk
theorem xp_X8_83 (C : CX p s m args meth c cc RX8 nL ret Z) (hW : XW Z h g s.heap H locs) {o : Nat} (hk : knd o = 4) {v : Int32} {α : Type} {K : Hp → Option α} {out : α} (hf : stp (up h o 1 v) K = some out) (hd : decode cc pc = .ok (.putfield 83, 3)) (kk : ∀ (h1 : Hp) (H1 : Heap) (locs1 : List Loc), K h1 = some out → XW Z h1 g s.heap H1 locs1 → W p l e R s m args below meth c H1 locs1 cells slots Q (F0 m (pc + 3) ls rest)) : W p l e R s m args below meth c H locs cells slots Q (F0 m pc ls (.int v :: .ref (Z.1 o) :: rest)) := by
  have hs : (wl Z h g).set o (Z.1 o, .inr (4, ([.int (h o 0), .int (h o 1), .int (h o 2), .ref (Z.1 (o + 1)), .int (h o 4), .ref (Z.1 (o + 2)), .ref (Z.1 (o + 3)), .ref (Z.1 (o + 4)), .ref (Z.1 (o + 5)), .ref (Z.1 (o + 6)), .int (h o 10), .ref (Z.1 (o + 7)), .ref (Z.1 (o + 8)), .int (h o 13), .ref (Z.1 (o + 9)), .ref (Z.1 (o + 10)), .ref (Z.1 (o + 11)), .ref (Z.1 (o + 12)), .ref (Z.1 (o + 13))]).set 1 (.int v))) = wl Z (up h o 1 v) g := by
    have h1 := k_lt hk (by decide)
    refine wl_set h1 ?_ mx_upl
    rw [mx_l (kl_C o h1 (by omega)), up_eq]
    rw [cel_k hk]
    rfl
  exact x_put C hW (wk4 hk) rfl wsX4_in tyX4 tyX4_ok nmX4 1 (by decide) (ml_X8_83) rfl rfl (ty := .int) (by decide +kernel) (rfl) (rfl) (Nat.le_of_ble_eq_true rfl) hs hd (fun H1 locs1 q => kk _ H1 locs1 hf q)
theorem ml_X10_125 : Cond.fieldLink RX10 125 RX4 (TX4 1).2.1 (TX4 1).2.2.1 ∈ TW := TW_of 184 (by decide +kernel) (by decide +kernel)
theorem xg_X10_125 (C : CX p s m args meth c cc RX10 nL ret Z) (hW : XW Z h g s.heap H locs) {o : Nat} (hk : knd o = 4) (hd : decode cc pc = .ok (.getfield 125, 3)) (kk : W p l e R s m args below meth c H locs cells slots Q (F0 m (pc + 3) ls (.int (h o 1) :: rest))) : W p l e R s m args below meth c H locs cells slots Q (F0 m pc ls (.ref (Z.1 o) :: rest)) := x_get C hW (wk4 hk) rfl wsX4_in 1 (by decide) (ml_X10_125) rfl (v := .int (h o 1)) rfl hd kk
theorem xp_X10_125 (C : CX p s m args meth c cc RX10 nL ret Z) (hW : XW Z h g s.heap H locs) {o : Nat} (hk : knd o = 4) {v : Int32} {α : Type} {K : Hp → Option α} {out : α} (hf : stp (up h o 1 v) K = some out) (hd : decode cc pc = .ok (.putfield 125, 3)) (kk : ∀ (h1 : Hp) (H1 : Heap) (locs1 : List Loc), K h1 = some out → XW Z h1 g s.heap H1 locs1 → W p l e R s m args below meth c H1 locs1 cells slots Q (F0 m (pc + 3) ls rest)) : W p l e R s m args below meth c H locs cells slots Q (F0 m pc ls (.int v :: .ref (Z.1 o) :: rest)) := by
  have hs : (wl Z h g).set o (Z.1 o, .inr (4, ([.int (h o 0), .int (h o 1), .int (h o 2), .ref (Z.1 (o + 1)), .int (h o 4), .ref (Z.1 (o + 2)), .ref (Z.1 (o + 3)), .ref (Z.1 (o + 4)), .ref (Z.1 (o + 5)), .ref (Z.1 (o + 6)), .int (h o 10), .ref (Z.1 (o + 7)), .ref (Z.1 (o + 8)), .int (h o 13), .ref (Z.1 (o + 9)), .ref (Z.1 (o + 10)), .ref (Z.1 (o + 11)), .ref (Z.1 (o + 12)), .ref (Z.1 (o + 13))]).set 1 (.int v))) = wl Z (up h o 1 v) g := by
    have h1 := k_lt hk (by decide)
    refine wl_set h1 ?_ mx_upl
    rw [mx_l (kl_C o h1 (by omega)), up_eq]
    rw [cel_k hk]
    rfl
  exact x_put C hW (wk4 hk) rfl wsX4_in tyX4 tyX4_ok nmX4 1 (by decide) (ml_X10_125) rfl rfl (ty := .int) (by decide +kernel) (rfl) (rfl) (Nat.le_of_ble_eq_true rfl) hs hd (fun H1 locs1 q => kk _ H1 locs1 hf q)
theorem ml_X1_170 : Cond.fieldLink RX1 170 RX4 (TX4 1).2.1 (TX4 1).2.2.1 ∈ TW := TW_of 185 (by decide +kernel) (by decide +kernel)
theorem xg_X1_170 (C : CX p s m args meth c cc RX1 nL ret Z) (hW : XW Z h g s.heap H locs) {o : Nat} (hk : knd o = 4) (hd : decode cc pc = .ok (.getfield 170, 3)) (kk : W p l e R s m args below meth c H locs cells slots Q (F0 m (pc + 3) ls (.int (h o 1) :: rest))) : W p l e R s m args below meth c H locs cells slots Q (F0 m pc ls (.ref (Z.1 o) :: rest)) := x_get C hW (wk4 hk) rfl wsX4_in 1 (by decide) (ml_X1_170) rfl (v := .int (h o 1)) rfl hd kk
theorem xp_X1_170 (C : CX p s m args meth c cc RX1 nL ret Z) (hW : XW Z h g s.heap H locs) {o : Nat} (hk : knd o = 4) {v : Int32} {α : Type} {K : Hp → Option α} {out : α} (hf : stp (up h o 1 v) K = some out) (hd : decode cc pc = .ok (.putfield 170, 3)) (kk : ∀ (h1 : Hp) (H1 : Heap) (locs1 : List Loc), K h1 = some out → XW Z h1 g s.heap H1 locs1 → W p l e R s m args below meth c H1 locs1 cells slots Q (F0 m (pc + 3) ls rest)) : W p l e R s m args below meth c H locs cells slots Q (F0 m pc ls (.int v :: .ref (Z.1 o) :: rest)) := by
  have hs : (wl Z h g).set o (Z.1 o, .inr (4, ([.int (h o 0), .int (h o 1), .int (h o 2), .ref (Z.1 (o + 1)), .int (h o 4), .ref (Z.1 (o + 2)), .ref (Z.1 (o + 3)), .ref (Z.1 (o + 4)), .ref (Z.1 (o + 5)), .ref (Z.1 (o + 6)), .int (h o 10), .ref (Z.1 (o + 7)), .ref (Z.1 (o + 8)), .int (h o 13), .ref (Z.1 (o + 9)), .ref (Z.1 (o + 10)), .ref (Z.1 (o + 11)), .ref (Z.1 (o + 12)), .ref (Z.1 (o + 13))]).set 1 (.int v))) = wl Z (up h o 1 v) g := by
    have h1 := k_lt hk (by decide)
    refine wl_set h1 ?_ mx_upl
    rw [mx_l (kl_C o h1 (by omega)), up_eq]
    rw [cel_k hk]
    rfl
  exact x_put C hW (wk4 hk) rfl wsX4_in tyX4 tyX4_ok nmX4 1 (by decide) (ml_X1_170) rfl rfl (ty := .int) (by decide +kernel) (rfl) (rfl) (Nat.le_of_ble_eq_true rfl) hs hd (fun H1 locs1 q => kk _ H1 locs1 hf q)
theorem ml_X4_59 : Cond.fieldLink RX4 59 RX4 (TX4 2).2.1 (TX4 2).2.2.1 ∈ TW := TW_of 186 (by decide +kernel) (by decide +kernel)
theorem xg_X4_59 (C : CX p s m args meth c cc RX4 nL ret Z) (hW : XW Z h g s.heap H locs) {o : Nat} (hk : knd o = 4) (hd : decode cc pc = .ok (.getfield 59, 3)) (kk : W p l e R s m args below meth c H locs cells slots Q (F0 m (pc + 3) ls (.int (h o 2) :: rest))) : W p l e R s m args below meth c H locs cells slots Q (F0 m pc ls (.ref (Z.1 o) :: rest)) := x_get C hW (wk4 hk) rfl wsX4_in 2 (by decide) (ml_X4_59) rfl (v := .int (h o 2)) rfl hd kk
theorem xp_X4_59 (C : CX p s m args meth c cc RX4 nL ret Z) (hW : XW Z h g s.heap H locs) {o : Nat} (hk : knd o = 4) {v : Int32} {α : Type} {K : Hp → Option α} {out : α} (hf : stp (up h o 2 v) K = some out) (hd : decode cc pc = .ok (.putfield 59, 3)) (kk : ∀ (h1 : Hp) (H1 : Heap) (locs1 : List Loc), K h1 = some out → XW Z h1 g s.heap H1 locs1 → W p l e R s m args below meth c H1 locs1 cells slots Q (F0 m (pc + 3) ls rest)) : W p l e R s m args below meth c H locs cells slots Q (F0 m pc ls (.int v :: .ref (Z.1 o) :: rest)) := by
  have hs : (wl Z h g).set o (Z.1 o, .inr (4, ([.int (h o 0), .int (h o 1), .int (h o 2), .ref (Z.1 (o + 1)), .int (h o 4), .ref (Z.1 (o + 2)), .ref (Z.1 (o + 3)), .ref (Z.1 (o + 4)), .ref (Z.1 (o + 5)), .ref (Z.1 (o + 6)), .int (h o 10), .ref (Z.1 (o + 7)), .ref (Z.1 (o + 8)), .int (h o 13), .ref (Z.1 (o + 9)), .ref (Z.1 (o + 10)), .ref (Z.1 (o + 11)), .ref (Z.1 (o + 12)), .ref (Z.1 (o + 13))]).set 2 (.int v))) = wl Z (up h o 2 v) g := by
    have h1 := k_lt hk (by decide)
    refine wl_set h1 ?_ mx_upl
    rw [mx_l (kl_C o h1 (by omega)), up_eq]
    rw [cel_k hk]
    rfl
  exact x_put C hW (wk4 hk) rfl wsX4_in tyX4 tyX4_ok nmX4 2 (by decide) (ml_X4_59) rfl rfl (ty := .int) (by decide +kernel) (rfl) (rfl) (Nat.le_of_ble_eq_true rfl) hs hd (fun H1 locs1 q => kk _ H1 locs1 hf q)
theorem ml_X8_85 : Cond.fieldLink RX8 85 RX4 (TX4 2).2.1 (TX4 2).2.2.1 ∈ TW := TW_of 187 (by decide +kernel) (by decide +kernel)
theorem xg_X8_85 (C : CX p s m args meth c cc RX8 nL ret Z) (hW : XW Z h g s.heap H locs) {o : Nat} (hk : knd o = 4) (hd : decode cc pc = .ok (.getfield 85, 3)) (kk : W p l e R s m args below meth c H locs cells slots Q (F0 m (pc + 3) ls (.int (h o 2) :: rest))) : W p l e R s m args below meth c H locs cells slots Q (F0 m pc ls (.ref (Z.1 o) :: rest)) := x_get C hW (wk4 hk) rfl wsX4_in 2 (by decide) (ml_X8_85) rfl (v := .int (h o 2)) rfl hd kk
theorem xp_X8_85 (C : CX p s m args meth c cc RX8 nL ret Z) (hW : XW Z h g s.heap H locs) {o : Nat} (hk : knd o = 4) {v : Int32} {α : Type} {K : Hp → Option α} {out : α} (hf : stp (up h o 2 v) K = some out) (hd : decode cc pc = .ok (.putfield 85, 3)) (kk : ∀ (h1 : Hp) (H1 : Heap) (locs1 : List Loc), K h1 = some out → XW Z h1 g s.heap H1 locs1 → W p l e R s m args below meth c H1 locs1 cells slots Q (F0 m (pc + 3) ls rest)) : W p l e R s m args below meth c H locs cells slots Q (F0 m pc ls (.int v :: .ref (Z.1 o) :: rest)) := by
  have hs : (wl Z h g).set o (Z.1 o, .inr (4, ([.int (h o 0), .int (h o 1), .int (h o 2), .ref (Z.1 (o + 1)), .int (h o 4), .ref (Z.1 (o + 2)), .ref (Z.1 (o + 3)), .ref (Z.1 (o + 4)), .ref (Z.1 (o + 5)), .ref (Z.1 (o + 6)), .int (h o 10), .ref (Z.1 (o + 7)), .ref (Z.1 (o + 8)), .int (h o 13), .ref (Z.1 (o + 9)), .ref (Z.1 (o + 10)), .ref (Z.1 (o + 11)), .ref (Z.1 (o + 12)), .ref (Z.1 (o + 13))]).set 2 (.int v))) = wl Z (up h o 2 v) g := by
    have h1 := k_lt hk (by decide)
    refine wl_set h1 ?_ mx_upl
    rw [mx_l (kl_C o h1 (by omega)), up_eq]
    rw [cel_k hk]
    rfl
  exact x_put C hW (wk4 hk) rfl wsX4_in tyX4 tyX4_ok nmX4 2 (by decide) (ml_X8_85) rfl rfl (ty := .int) (by decide +kernel) (rfl) (rfl) (Nat.le_of_ble_eq_true rfl) hs hd (fun H1 locs1 q => kk _ H1 locs1 hf q)
theorem ml_X10_116 : Cond.fieldLink RX10 116 RX4 (TX4 2).2.1 (TX4 2).2.2.1 ∈ TW := TW_of 188 (by decide +kernel) (by decide +kernel)
theorem xg_X10_116 (C : CX p s m args meth c cc RX10 nL ret Z) (hW : XW Z h g s.heap H locs) {o : Nat} (hk : knd o = 4) (hd : decode cc pc = .ok (.getfield 116, 3)) (kk : W p l e R s m args below meth c H locs cells slots Q (F0 m (pc + 3) ls (.int (h o 2) :: rest))) : W p l e R s m args below meth c H locs cells slots Q (F0 m pc ls (.ref (Z.1 o) :: rest)) := x_get C hW (wk4 hk) rfl wsX4_in 2 (by decide) (ml_X10_116) rfl (v := .int (h o 2)) rfl hd kk
theorem xp_X10_116 (C : CX p s m args meth c cc RX10 nL ret Z) (hW : XW Z h g s.heap H locs) {o : Nat} (hk : knd o = 4) {v : Int32} {α : Type} {K : Hp → Option α} {out : α} (hf : stp (up h o 2 v) K = some out) (hd : decode cc pc = .ok (.putfield 116, 3)) (kk : ∀ (h1 : Hp) (H1 : Heap) (locs1 : List Loc), K h1 = some out → XW Z h1 g s.heap H1 locs1 → W p l e R s m args below meth c H1 locs1 cells slots Q (F0 m (pc + 3) ls rest)) : W p l e R s m args below meth c H locs cells slots Q (F0 m pc ls (.int v :: .ref (Z.1 o) :: rest)) := by
  have hs : (wl Z h g).set o (Z.1 o, .inr (4, ([.int (h o 0), .int (h o 1), .int (h o 2), .ref (Z.1 (o + 1)), .int (h o 4), .ref (Z.1 (o + 2)), .ref (Z.1 (o + 3)), .ref (Z.1 (o + 4)), .ref (Z.1 (o + 5)), .ref (Z.1 (o + 6)), .int (h o 10), .ref (Z.1 (o + 7)), .ref (Z.1 (o + 8)), .int (h o 13), .ref (Z.1 (o + 9)), .ref (Z.1 (o + 10)), .ref (Z.1 (o + 11)), .ref (Z.1 (o + 12)), .ref (Z.1 (o + 13))]).set 2 (.int v))) = wl Z (up h o 2 v) g := by
    have h1 := k_lt hk (by decide)
    refine wl_set h1 ?_ mx_upl
    rw [mx_l (kl_C o h1 (by omega)), up_eq]
    rw [cel_k hk]
    rfl
  exact x_put C hW (wk4 hk) rfl wsX4_in tyX4 tyX4_ok nmX4 2 (by decide) (ml_X10_116) rfl rfl (ty := .int) (by decide +kernel) (rfl) (rfl) (Nat.le_of_ble_eq_true rfl) hs hd (fun H1 locs1 q => kk _ H1 locs1 hf q)
theorem ml_X4_18 : Cond.fieldLink RX4 18 RX4 (TX4 3).2.1 (TX4 3).2.2.1 ∈ TW := TW_of 189 (by decide +kernel) (by decide +kernel)
theorem xg_X4_18 (C : CX p s m args meth c cc RX4 nL ret Z) (hW : XW Z h g s.heap H locs) {o : Nat} (hk : knd o = 4) (hd : decode cc pc = .ok (.getfield 18, 3)) (kk : W p l e R s m args below meth c H locs cells slots Q (F0 m (pc + 3) ls (.ref (Z.1 (o + 1)) :: rest))) : W p l e R s m args below meth c H locs cells slots Q (F0 m pc ls (.ref (Z.1 o) :: rest)) := x_get C hW (wk4 hk) rfl wsX4_in 3 (by decide) (ml_X4_18) rfl (v := .ref (Z.1 (o + 1))) rfl hd kk
theorem ml_X2_77 : Cond.fieldLink RX2 77 RX4 (TX4 3).2.1 (TX4 3).2.2.1 ∈ TW := TW_of 190 (by decide +kernel) (by decide +kernel)
theorem xg_X2_77 (C : CX p s m args meth c cc RX2 nL ret Z) (hW : XW Z h g s.heap H locs) {o : Nat} (hk : knd o = 4) (hd : decode cc pc = .ok (.getfield 77, 3)) (kk : W p l e R s m args below meth c H locs cells slots Q (F0 m (pc + 3) ls (.ref (Z.1 (o + 1)) :: rest))) : W p l e R s m args below meth c H locs cells slots Q (F0 m pc ls (.ref (Z.1 o) :: rest)) := x_get C hW (wk4 hk) rfl wsX4_in 3 (by decide) (ml_X2_77) rfl (v := .ref (Z.1 (o + 1))) rfl hd kk
theorem ml_X4_62 : Cond.fieldLink RX4 62 RX4 (TX4 4).2.1 (TX4 4).2.2.1 ∈ TW := TW_of 191 (by decide +kernel) (by decide +kernel)
theorem xg_X4_62 (C : CX p s m args meth c cc RX4 nL ret Z) (hW : XW Z h g s.heap H locs) {o : Nat} (hk : knd o = 4) (hd : decode cc pc = .ok (.getfield 62, 3)) (kk : W p l e R s m args below meth c H locs cells slots Q (F0 m (pc + 3) ls (.int (h o 4) :: rest))) : W p l e R s m args below meth c H locs cells slots Q (F0 m pc ls (.ref (Z.1 o) :: rest)) := x_get C hW (wk4 hk) rfl wsX4_in 4 (by decide) (ml_X4_62) rfl (v := .int (h o 4)) rfl hd kk
theorem xp_X4_62 (C : CX p s m args meth c cc RX4 nL ret Z) (hW : XW Z h g s.heap H locs) {o : Nat} (hk : knd o = 4) {v : Int32} {α : Type} {K : Hp → Option α} {out : α} (hf : stp (up h o 4 v) K = some out) (hd : decode cc pc = .ok (.putfield 62, 3)) (kk : ∀ (h1 : Hp) (H1 : Heap) (locs1 : List Loc), K h1 = some out → XW Z h1 g s.heap H1 locs1 → W p l e R s m args below meth c H1 locs1 cells slots Q (F0 m (pc + 3) ls rest)) : W p l e R s m args below meth c H locs cells slots Q (F0 m pc ls (.int v :: .ref (Z.1 o) :: rest)) := by
  have hs : (wl Z h g).set o (Z.1 o, .inr (4, ([.int (h o 0), .int (h o 1), .int (h o 2), .ref (Z.1 (o + 1)), .int (h o 4), .ref (Z.1 (o + 2)), .ref (Z.1 (o + 3)), .ref (Z.1 (o + 4)), .ref (Z.1 (o + 5)), .ref (Z.1 (o + 6)), .int (h o 10), .ref (Z.1 (o + 7)), .ref (Z.1 (o + 8)), .int (h o 13), .ref (Z.1 (o + 9)), .ref (Z.1 (o + 10)), .ref (Z.1 (o + 11)), .ref (Z.1 (o + 12)), .ref (Z.1 (o + 13))]).set 4 (.int v))) = wl Z (up h o 4 v) g := by
    have h1 := k_lt hk (by decide)
    refine wl_set h1 ?_ mx_upl
    rw [mx_l (kl_C o h1 (by omega)), up_eq]
    rw [cel_k hk]
    rfl
  exact x_put C hW (wk4 hk) rfl wsX4_in tyX4 tyX4_ok nmX4 4 (by decide) (ml_X4_62) rfl rfl (ty := .int) (by decide +kernel) (rfl) (rfl) (Nat.le_of_ble_eq_true rfl) hs hd (fun H1 locs1 q => kk _ H1 locs1 hf q)
theorem ml_X10_89 : Cond.fieldLink RX10 89 RX4 (TX4 4).2.1 (TX4 4).2.2.1 ∈ TW := TW_of 192 (by decide +kernel) (by decide +kernel)
theorem xg_X10_89 (C : CX p s m args meth c cc RX10 nL ret Z) (hW : XW Z h g s.heap H locs) {o : Nat} (hk : knd o = 4) (hd : decode cc pc = .ok (.getfield 89, 3)) (kk : W p l e R s m args below meth c H locs cells slots Q (F0 m (pc + 3) ls (.int (h o 4) :: rest))) : W p l e R s m args below meth c H locs cells slots Q (F0 m pc ls (.ref (Z.1 o) :: rest)) := x_get C hW (wk4 hk) rfl wsX4_in 4 (by decide) (ml_X10_89) rfl (v := .int (h o 4)) rfl hd kk
theorem xp_X10_89 (C : CX p s m args meth c cc RX10 nL ret Z) (hW : XW Z h g s.heap H locs) {o : Nat} (hk : knd o = 4) {v : Int32} {α : Type} {K : Hp → Option α} {out : α} (hf : stp (up h o 4 v) K = some out) (hd : decode cc pc = .ok (.putfield 89, 3)) (kk : ∀ (h1 : Hp) (H1 : Heap) (locs1 : List Loc), K h1 = some out → XW Z h1 g s.heap H1 locs1 → W p l e R s m args below meth c H1 locs1 cells slots Q (F0 m (pc + 3) ls rest)) : W p l e R s m args below meth c H locs cells slots Q (F0 m pc ls (.int v :: .ref (Z.1 o) :: rest)) := by
  have hs : (wl Z h g).set o (Z.1 o, .inr (4, ([.int (h o 0), .int (h o 1), .int (h o 2), .ref (Z.1 (o + 1)), .int (h o 4), .ref (Z.1 (o + 2)), .ref (Z.1 (o + 3)), .ref (Z.1 (o + 4)), .ref (Z.1 (o + 5)), .ref (Z.1 (o + 6)), .int (h o 10), .ref (Z.1 (o + 7)), .ref (Z.1 (o + 8)), .int (h o 13), .ref (Z.1 (o + 9)), .ref (Z.1 (o + 10)), .ref (Z.1 (o + 11)), .ref (Z.1 (o + 12)), .ref (Z.1 (o + 13))]).set 4 (.int v))) = wl Z (up h o 4 v) g := by
    have h1 := k_lt hk (by decide)
    refine wl_set h1 ?_ mx_upl
    rw [mx_l (kl_C o h1 (by omega)), up_eq]
    rw [cel_k hk]
    rfl
  exact x_put C hW (wk4 hk) rfl wsX4_in tyX4 tyX4_ok nmX4 4 (by decide) (ml_X10_89) rfl rfl (ty := .int) (by decide +kernel) (rfl) (rfl) (Nat.le_of_ble_eq_true rfl) hs hd (fun H1 locs1 q => kk _ H1 locs1 hf q)
theorem ml_X8_100 : Cond.fieldLink RX8 100 RX4 (TX4 4).2.1 (TX4 4).2.2.1 ∈ TW := TW_of 193 (by decide +kernel) (by decide +kernel)
theorem xg_X8_100 (C : CX p s m args meth c cc RX8 nL ret Z) (hW : XW Z h g s.heap H locs) {o : Nat} (hk : knd o = 4) (hd : decode cc pc = .ok (.getfield 100, 3)) (kk : W p l e R s m args below meth c H locs cells slots Q (F0 m (pc + 3) ls (.int (h o 4) :: rest))) : W p l e R s m args below meth c H locs cells slots Q (F0 m pc ls (.ref (Z.1 o) :: rest)) := x_get C hW (wk4 hk) rfl wsX4_in 4 (by decide) (ml_X8_100) rfl (v := .int (h o 4)) rfl hd kk
theorem xp_X8_100 (C : CX p s m args meth c cc RX8 nL ret Z) (hW : XW Z h g s.heap H locs) {o : Nat} (hk : knd o = 4) {v : Int32} {α : Type} {K : Hp → Option α} {out : α} (hf : stp (up h o 4 v) K = some out) (hd : decode cc pc = .ok (.putfield 100, 3)) (kk : ∀ (h1 : Hp) (H1 : Heap) (locs1 : List Loc), K h1 = some out → XW Z h1 g s.heap H1 locs1 → W p l e R s m args below meth c H1 locs1 cells slots Q (F0 m (pc + 3) ls rest)) : W p l e R s m args below meth c H locs cells slots Q (F0 m pc ls (.int v :: .ref (Z.1 o) :: rest)) := by
  have hs : (wl Z h g).set o (Z.1 o, .inr (4, ([.int (h o 0), .int (h o 1), .int (h o 2), .ref (Z.1 (o + 1)), .int (h o 4), .ref (Z.1 (o + 2)), .ref (Z.1 (o + 3)), .ref (Z.1 (o + 4)), .ref (Z.1 (o + 5)), .ref (Z.1 (o + 6)), .int (h o 10), .ref (Z.1 (o + 7)), .ref (Z.1 (o + 8)), .int (h o 13), .ref (Z.1 (o + 9)), .ref (Z.1 (o + 10)), .ref (Z.1 (o + 11)), .ref (Z.1 (o + 12)), .ref (Z.1 (o + 13))]).set 4 (.int v))) = wl Z (up h o 4 v) g := by
    have h1 := k_lt hk (by decide)
    refine wl_set h1 ?_ mx_upl
    rw [mx_l (kl_C o h1 (by omega)), up_eq]
    rw [cel_k hk]
    rfl
  exact x_put C hW (wk4 hk) rfl wsX4_in tyX4 tyX4_ok nmX4 4 (by decide) (ml_X8_100) rfl rfl (ty := .int) (by decide +kernel) (rfl) (rfl) (Nat.le_of_ble_eq_true rfl) hs hd (fun H1 locs1 q => kk _ H1 locs1 hf q)
theorem ml_X1_160 : Cond.fieldLink RX1 160 RX4 (TX4 4).2.1 (TX4 4).2.2.1 ∈ TW := TW_of 194 (by decide +kernel) (by decide +kernel)
theorem xg_X1_160 (C : CX p s m args meth c cc RX1 nL ret Z) (hW : XW Z h g s.heap H locs) {o : Nat} (hk : knd o = 4) (hd : decode cc pc = .ok (.getfield 160, 3)) (kk : W p l e R s m args below meth c H locs cells slots Q (F0 m (pc + 3) ls (.int (h o 4) :: rest))) : W p l e R s m args below meth c H locs cells slots Q (F0 m pc ls (.ref (Z.1 o) :: rest)) := x_get C hW (wk4 hk) rfl wsX4_in 4 (by decide) (ml_X1_160) rfl (v := .int (h o 4)) rfl hd kk
theorem xp_X1_160 (C : CX p s m args meth c cc RX1 nL ret Z) (hW : XW Z h g s.heap H locs) {o : Nat} (hk : knd o = 4) {v : Int32} {α : Type} {K : Hp → Option α} {out : α} (hf : stp (up h o 4 v) K = some out) (hd : decode cc pc = .ok (.putfield 160, 3)) (kk : ∀ (h1 : Hp) (H1 : Heap) (locs1 : List Loc), K h1 = some out → XW Z h1 g s.heap H1 locs1 → W p l e R s m args below meth c H1 locs1 cells slots Q (F0 m (pc + 3) ls rest)) : W p l e R s m args below meth c H locs cells slots Q (F0 m pc ls (.int v :: .ref (Z.1 o) :: rest)) := by
  have hs : (wl Z h g).set o (Z.1 o, .inr (4, ([.int (h o 0), .int (h o 1), .int (h o 2), .ref (Z.1 (o + 1)), .int (h o 4), .ref (Z.1 (o + 2)), .ref (Z.1 (o + 3)), .ref (Z.1 (o + 4)), .ref (Z.1 (o + 5)), .ref (Z.1 (o + 6)), .int (h o 10), .ref (Z.1 (o + 7)), .ref (Z.1 (o + 8)), .int (h o 13), .ref (Z.1 (o + 9)), .ref (Z.1 (o + 10)), .ref (Z.1 (o + 11)), .ref (Z.1 (o + 12)), .ref (Z.1 (o + 13))]).set 4 (.int v))) = wl Z (up h o 4 v) g := by
    have h1 := k_lt hk (by decide)
    refine wl_set h1 ?_ mx_upl
    rw [mx_l (kl_C o h1 (by omega)), up_eq]
    rw [cel_k hk]
    rfl
  exact x_put C hW (wk4 hk) rfl wsX4_in tyX4 tyX4_ok nmX4 4 (by decide) (ml_X1_160) rfl rfl (ty := .int) (by decide +kernel) (rfl) (rfl) (Nat.le_of_ble_eq_true rfl) hs hd (fun H1 locs1 q => kk _ H1 locs1 hf q)
theorem ml_X4_22 : Cond.fieldLink RX4 22 RX4 (TX4 5).2.1 (TX4 5).2.2.1 ∈ TW := TW_of 195 (by decide +kernel) (by decide +kernel)
theorem xg_X4_22 (C : CX p s m args meth c cc RX4 nL ret Z) (hW : XW Z h g s.heap H locs) {o : Nat} (hk : knd o = 4) (hd : decode cc pc = .ok (.getfield 22, 3)) (kk : W p l e R s m args below meth c H locs cells slots Q (F0 m (pc + 3) ls (.ref (Z.1 (o + 2)) :: rest))) : W p l e R s m args below meth c H locs cells slots Q (F0 m pc ls (.ref (Z.1 o) :: rest)) := x_get C hW (wk4 hk) rfl wsX4_in 5 (by decide) (ml_X4_22) rfl (v := .ref (Z.1 (o + 2))) rfl hd kk
theorem ml_X2_46 : Cond.fieldLink RX2 46 RX4 (TX4 5).2.1 (TX4 5).2.2.1 ∈ TW := TW_of 196 (by decide +kernel) (by decide +kernel)
theorem xg_X2_46 (C : CX p s m args meth c cc RX2 nL ret Z) (hW : XW Z h g s.heap H locs) {o : Nat} (hk : knd o = 4) (hd : decode cc pc = .ok (.getfield 46, 3)) (kk : W p l e R s m args below meth c H locs cells slots Q (F0 m (pc + 3) ls (.ref (Z.1 (o + 2)) :: rest))) : W p l e R s m args below meth c H locs cells slots Q (F0 m pc ls (.ref (Z.1 o) :: rest)) := x_get C hW (wk4 hk) rfl wsX4_in 5 (by decide) (ml_X2_46) rfl (v := .ref (Z.1 (o + 2))) rfl hd kk
theorem ml_X10_151 : Cond.fieldLink RX10 151 RX4 (TX4 5).2.1 (TX4 5).2.2.1 ∈ TW := TW_of 197 (by decide +kernel) (by decide +kernel)
theorem xg_X10_151 (C : CX p s m args meth c cc RX10 nL ret Z) (hW : XW Z h g s.heap H locs) {o : Nat} (hk : knd o = 4) (hd : decode cc pc = .ok (.getfield 151, 3)) (kk : W p l e R s m args below meth c H locs cells slots Q (F0 m (pc + 3) ls (.ref (Z.1 (o + 2)) :: rest))) : W p l e R s m args below meth c H locs cells slots Q (F0 m pc ls (.ref (Z.1 o) :: rest)) := x_get C hW (wk4 hk) rfl wsX4_in 5 (by decide) (ml_X10_151) rfl (v := .ref (Z.1 (o + 2))) rfl hd kk
theorem ml_X1_142 : Cond.fieldLink RX1 142 RX4 (TX4 5).2.1 (TX4 5).2.2.1 ∈ TW := TW_of 198 (by decide +kernel) (by decide +kernel)
theorem xg_X1_142 (C : CX p s m args meth c cc RX1 nL ret Z) (hW : XW Z h g s.heap H locs) {o : Nat} (hk : knd o = 4) (hd : decode cc pc = .ok (.getfield 142, 3)) (kk : W p l e R s m args below meth c H locs cells slots Q (F0 m (pc + 3) ls (.ref (Z.1 (o + 2)) :: rest))) : W p l e R s m args below meth c H locs cells slots Q (F0 m pc ls (.ref (Z.1 o) :: rest)) := x_get C hW (wk4 hk) rfl wsX4_in 5 (by decide) (ml_X1_142) rfl (v := .ref (Z.1 (o + 2))) rfl hd kk
theorem ml_X4_25 : Cond.fieldLink RX4 25 RX4 (TX4 6).2.1 (TX4 6).2.2.1 ∈ TW := TW_of 199 (by decide +kernel) (by decide +kernel)
theorem xg_X4_25 (C : CX p s m args meth c cc RX4 nL ret Z) (hW : XW Z h g s.heap H locs) {o : Nat} (hk : knd o = 4) (hd : decode cc pc = .ok (.getfield 25, 3)) (kk : W p l e R s m args below meth c H locs cells slots Q (F0 m (pc + 3) ls (.ref (Z.1 (o + 3)) :: rest))) : W p l e R s m args below meth c H locs cells slots Q (F0 m pc ls (.ref (Z.1 o) :: rest)) := x_get C hW (wk4 hk) rfl wsX4_in 6 (by decide) (ml_X4_25) rfl (v := .ref (Z.1 (o + 3))) rfl hd kk
theorem ml_X2_80 : Cond.fieldLink RX2 80 RX4 (TX4 6).2.1 (TX4 6).2.2.1 ∈ TW := TW_of 200 (by decide +kernel) (by decide +kernel)
theorem xg_X2_80 (C : CX p s m args meth c cc RX2 nL ret Z) (hW : XW Z h g s.heap H locs) {o : Nat} (hk : knd o = 4) (hd : decode cc pc = .ok (.getfield 80, 3)) (kk : W p l e R s m args below meth c H locs cells slots Q (F0 m (pc + 3) ls (.ref (Z.1 (o + 3)) :: rest))) : W p l e R s m args below meth c H locs cells slots Q (F0 m pc ls (.ref (Z.1 o) :: rest)) := x_get C hW (wk4 hk) rfl wsX4_in 6 (by decide) (ml_X2_80) rfl (v := .ref (Z.1 (o + 3))) rfl hd kk
theorem ml_X10_131 : Cond.fieldLink RX10 131 RX4 (TX4 6).2.1 (TX4 6).2.2.1 ∈ TW := TW_of 201 (by decide +kernel) (by decide +kernel)
theorem xg_X10_131 (C : CX p s m args meth c cc RX10 nL ret Z) (hW : XW Z h g s.heap H locs) {o : Nat} (hk : knd o = 4) (hd : decode cc pc = .ok (.getfield 131, 3)) (kk : W p l e R s m args below meth c H locs cells slots Q (F0 m (pc + 3) ls (.ref (Z.1 (o + 3)) :: rest))) : W p l e R s m args below meth c H locs cells slots Q (F0 m pc ls (.ref (Z.1 o) :: rest)) := x_get C hW (wk4 hk) rfl wsX4_in 6 (by decide) (ml_X10_131) rfl (v := .ref (Z.1 (o + 3))) rfl hd kk
theorem ml_X1_135 : Cond.fieldLink RX1 135 RX4 (TX4 6).2.1 (TX4 6).2.2.1 ∈ TW := TW_of 202 (by decide +kernel) (by decide +kernel)
theorem xg_X1_135 (C : CX p s m args meth c cc RX1 nL ret Z) (hW : XW Z h g s.heap H locs) {o : Nat} (hk : knd o = 4) (hd : decode cc pc = .ok (.getfield 135, 3)) (kk : W p l e R s m args below meth c H locs cells slots Q (F0 m (pc + 3) ls (.ref (Z.1 (o + 3)) :: rest))) : W p l e R s m args below meth c H locs cells slots Q (F0 m pc ls (.ref (Z.1 o) :: rest)) := x_get C hW (wk4 hk) rfl wsX4_in 6 (by decide) (ml_X1_135) rfl (v := .ref (Z.1 (o + 3))) rfl hd kk
theorem ml_X4_28 : Cond.fieldLink RX4 28 RX4 (TX4 7).2.1 (TX4 7).2.2.1 ∈ TW := TW_of 203 (by decide +kernel) (by decide +kernel)
theorem xg_X4_28 (C : CX p s m args meth c cc RX4 nL ret Z) (hW : XW Z h g s.heap H locs) {o : Nat} (hk : knd o = 4) (hd : decode cc pc = .ok (.getfield 28, 3)) (kk : W p l e R s m args below meth c H locs cells slots Q (F0 m (pc + 3) ls (.ref (Z.1 (o + 4)) :: rest))) : W p l e R s m args below meth c H locs cells slots Q (F0 m pc ls (.ref (Z.1 o) :: rest)) := x_get C hW (wk4 hk) rfl wsX4_in 7 (by decide) (ml_X4_28) rfl (v := .ref (Z.1 (o + 4))) rfl hd kk
theorem ml_X1_115 : Cond.fieldLink RX1 115 RX4 (TX4 7).2.1 (TX4 7).2.2.1 ∈ TW := TW_of 204 (by decide +kernel) (by decide +kernel)
theorem xg_X1_115 (C : CX p s m args meth c cc RX1 nL ret Z) (hW : XW Z h g s.heap H locs) {o : Nat} (hk : knd o = 4) (hd : decode cc pc = .ok (.getfield 115, 3)) (kk : W p l e R s m args below meth c H locs cells slots Q (F0 m (pc + 3) ls (.ref (Z.1 (o + 4)) :: rest))) : W p l e R s m args below meth c H locs cells slots Q (F0 m pc ls (.ref (Z.1 o) :: rest)) := x_get C hW (wk4 hk) rfl wsX4_in 7 (by decide) (ml_X1_115) rfl (v := .ref (Z.1 (o + 4))) rfl hd kk
theorem ml_X10_135 : Cond.fieldLink RX10 135 RX4 (TX4 7).2.1 (TX4 7).2.2.1 ∈ TW := TW_of 205 (by decide +kernel) (by decide +kernel)
theorem xg_X10_135 (C : CX p s m args meth c cc RX10 nL ret Z) (hW : XW Z h g s.heap H locs) {o : Nat} (hk : knd o = 4) (hd : decode cc pc = .ok (.getfield 135, 3)) (kk : W p l e R s m args below meth c H locs cells slots Q (F0 m (pc + 3) ls (.ref (Z.1 (o + 4)) :: rest))) : W p l e R s m args below meth c H locs cells slots Q (F0 m pc ls (.ref (Z.1 o) :: rest)) := x_get C hW (wk4 hk) rfl wsX4_in 7 (by decide) (ml_X10_135) rfl (v := .ref (Z.1 (o + 4))) rfl hd kk
theorem ml_X4_31 : Cond.fieldLink RX4 31 RX4 (TX4 8).2.1 (TX4 8).2.2.1 ∈ TW := TW_of 206 (by decide +kernel) (by decide +kernel)
theorem xg_X4_31 (C : CX p s m args meth c cc RX4 nL ret Z) (hW : XW Z h g s.heap H locs) {o : Nat} (hk : knd o = 4) (hd : decode cc pc = .ok (.getfield 31, 3)) (kk : W p l e R s m args below meth c H locs cells slots Q (F0 m (pc + 3) ls (.ref (Z.1 (o + 5)) :: rest))) : W p l e R s m args below meth c H locs cells slots Q (F0 m pc ls (.ref (Z.1 o) :: rest)) := x_get C hW (wk4 hk) rfl wsX4_in 8 (by decide) (ml_X4_31) rfl (v := .ref (Z.1 (o + 5))) rfl hd kk
theorem ml_X1_123 : Cond.fieldLink RX1 123 RX4 (TX4 8).2.1 (TX4 8).2.2.1 ∈ TW := TW_of 207 (by decide +kernel) (by decide +kernel)
theorem xg_X1_123 (C : CX p s m args meth c cc RX1 nL ret Z) (hW : XW Z h g s.heap H locs) {o : Nat} (hk : knd o = 4) (hd : decode cc pc = .ok (.getfield 123, 3)) (kk : W p l e R s m args below meth c H locs cells slots Q (F0 m (pc + 3) ls (.ref (Z.1 (o + 5)) :: rest))) : W p l e R s m args below meth c H locs cells slots Q (F0 m pc ls (.ref (Z.1 o) :: rest)) := x_get C hW (wk4 hk) rfl wsX4_in 8 (by decide) (ml_X1_123) rfl (v := .ref (Z.1 (o + 5))) rfl hd kk
theorem ml_X10_138 : Cond.fieldLink RX10 138 RX4 (TX4 8).2.1 (TX4 8).2.2.1 ∈ TW := TW_of 208 (by decide +kernel) (by decide +kernel)
theorem xg_X10_138 (C : CX p s m args meth c cc RX10 nL ret Z) (hW : XW Z h g s.heap H locs) {o : Nat} (hk : knd o = 4) (hd : decode cc pc = .ok (.getfield 138, 3)) (kk : W p l e R s m args below meth c H locs cells slots Q (F0 m (pc + 3) ls (.ref (Z.1 (o + 5)) :: rest))) : W p l e R s m args below meth c H locs cells slots Q (F0 m pc ls (.ref (Z.1 o) :: rest)) := x_get C hW (wk4 hk) rfl wsX4_in 8 (by decide) (ml_X10_138) rfl (v := .ref (Z.1 (o + 5))) rfl hd kk
theorem ml_X4_34 : Cond.fieldLink RX4 34 RX4 (TX4 9).2.1 (TX4 9).2.2.1 ∈ TW := TW_of 209 (by decide +kernel) (by decide +kernel)
theorem xg_X4_34 (C : CX p s m args meth c cc RX4 nL ret Z) (hW : XW Z h g s.heap H locs) {o : Nat} (hk : knd o = 4) (hd : decode cc pc = .ok (.getfield 34, 3)) (kk : W p l e R s m args below meth c H locs cells slots Q (F0 m (pc + 3) ls (.ref (Z.1 (o + 6)) :: rest))) : W p l e R s m args below meth c H locs cells slots Q (F0 m pc ls (.ref (Z.1 o) :: rest)) := x_get C hW (wk4 hk) rfl wsX4_in 9 (by decide) (ml_X4_34) rfl (v := .ref (Z.1 (o + 6))) rfl hd kk
theorem ml_X1_126 : Cond.fieldLink RX1 126 RX4 (TX4 9).2.1 (TX4 9).2.2.1 ∈ TW := TW_of 210 (by decide +kernel) (by decide +kernel)
theorem xg_X1_126 (C : CX p s m args meth c cc RX1 nL ret Z) (hW : XW Z h g s.heap H locs) {o : Nat} (hk : knd o = 4) (hd : decode cc pc = .ok (.getfield 126, 3)) (kk : W p l e R s m args below meth c H locs cells slots Q (F0 m (pc + 3) ls (.ref (Z.1 (o + 6)) :: rest))) : W p l e R s m args below meth c H locs cells slots Q (F0 m pc ls (.ref (Z.1 o) :: rest)) := x_get C hW (wk4 hk) rfl wsX4_in 9 (by decide) (ml_X1_126) rfl (v := .ref (Z.1 (o + 6))) rfl hd kk
theorem ml_X10_141 : Cond.fieldLink RX10 141 RX4 (TX4 9).2.1 (TX4 9).2.2.1 ∈ TW := TW_of 211 (by decide +kernel) (by decide +kernel)
theorem xg_X10_141 (C : CX p s m args meth c cc RX10 nL ret Z) (hW : XW Z h g s.heap H locs) {o : Nat} (hk : knd o = 4) (hd : decode cc pc = .ok (.getfield 141, 3)) (kk : W p l e R s m args below meth c H locs cells slots Q (F0 m (pc + 3) ls (.ref (Z.1 (o + 6)) :: rest))) : W p l e R s m args below meth c H locs cells slots Q (F0 m pc ls (.ref (Z.1 o) :: rest)) := x_get C hW (wk4 hk) rfl wsX4_in 9 (by decide) (ml_X10_141) rfl (v := .ref (Z.1 (o + 6))) rfl hd kk
theorem ml_X4_65 : Cond.fieldLink RX4 65 RX4 (TX4 10).2.1 (TX4 10).2.2.1 ∈ TW := TW_of 212 (by decide +kernel) (by decide +kernel)
theorem xg_X4_65 (C : CX p s m args meth c cc RX4 nL ret Z) (hW : XW Z h g s.heap H locs) {o : Nat} (hk : knd o = 4) (hd : decode cc pc = .ok (.getfield 65, 3)) (kk : W p l e R s m args below meth c H locs cells slots Q (F0 m (pc + 3) ls (.int (h o 10) :: rest))) : W p l e R s m args below meth c H locs cells slots Q (F0 m pc ls (.ref (Z.1 o) :: rest)) := x_get C hW (wk4 hk) rfl wsX4_in 10 (by decide) (ml_X4_65) rfl (v := .int (h o 10)) rfl hd kk
theorem xp_X4_65 (C : CX p s m args meth c cc RX4 nL ret Z) (hW : XW Z h g s.heap H locs) {o : Nat} (hk : knd o = 4) {v : Int32} {α : Type} {K : Hp → Option α} {out : α} (hf : stp (up h o 10 v) K = some out) (hd : decode cc pc = .ok (.putfield 65, 3)) (kk : ∀ (h1 : Hp) (H1 : Heap) (locs1 : List Loc), K h1 = some out → XW Z h1 g s.heap H1 locs1 → W p l e R s m args below meth c H1 locs1 cells slots Q (F0 m (pc + 3) ls rest)) : W p l e R s m args below meth c H locs cells slots Q (F0 m pc ls (.int v :: .ref (Z.1 o) :: rest)) := by
  have hs : (wl Z h g).set o (Z.1 o, .inr (4, ([.int (h o 0), .int (h o 1), .int (h o 2), .ref (Z.1 (o + 1)), .int (h o 4), .ref (Z.1 (o + 2)), .ref (Z.1 (o + 3)), .ref (Z.1 (o + 4)), .ref (Z.1 (o + 5)), .ref (Z.1 (o + 6)), .int (h o 10), .ref (Z.1 (o + 7)), .ref (Z.1 (o + 8)), .int (h o 13), .ref (Z.1 (o + 9)), .ref (Z.1 (o + 10)), .ref (Z.1 (o + 11)), .ref (Z.1 (o + 12)), .ref (Z.1 (o + 13))]).set 10 (.int v))) = wl Z (up h o 10 v) g := by
    have h1 := k_lt hk (by decide)
    refine wl_set h1 ?_ mx_upl
    rw [mx_l (kl_C o h1 (by omega)), up_eq]
    rw [cel_k hk]
    rfl
  exact x_put C hW (wk4 hk) rfl wsX4_in tyX4 tyX4_ok nmX4 10 (by decide) (ml_X4_65) rfl rfl (ty := .int) (by decide +kernel) (rfl) (rfl) (Nat.le_of_ble_eq_true rfl) hs hd (fun H1 locs1 q => kk _ H1 locs1 hf q)
theorem ml_X8_112 : Cond.fieldLink RX8 112 RX4 (TX4 10).2.1 (TX4 10).2.2.1 ∈ TW := TW_of 213 (by decide +kernel) (by decide +kernel)
theorem xg_X8_112 (C : CX p s m args meth c cc RX8 nL ret Z) (hW : XW Z h g s.heap H locs) {o : Nat} (hk : knd o = 4) (hd : decode cc pc = .ok (.getfield 112, 3)) (kk : W p l e R s m args below meth c H locs cells slots Q (F0 m (pc + 3) ls (.int (h o 10) :: rest))) : W p l e R s m args below meth c H locs cells slots Q (F0 m pc ls (.ref (Z.1 o) :: rest)) := x_get C hW (wk4 hk) rfl wsX4_in 10 (by decide) (ml_X8_112) rfl (v := .int (h o 10)) rfl hd kk
theorem xp_X8_112 (C : CX p s m args meth c cc RX8 nL ret Z) (hW : XW Z h g s.heap H locs) {o : Nat} (hk : knd o = 4) {v : Int32} {α : Type} {K : Hp → Option α} {out : α} (hf : stp (up h o 10 v) K = some out) (hd : decode cc pc = .ok (.putfield 112, 3)) (kk : ∀ (h1 : Hp) (H1 : Heap) (locs1 : List Loc), K h1 = some out → XW Z h1 g s.heap H1 locs1 → W p l e R s m args below meth c H1 locs1 cells slots Q (F0 m (pc + 3) ls rest)) : W p l e R s m args below meth c H locs cells slots Q (F0 m pc ls (.int v :: .ref (Z.1 o) :: rest)) := by
  have hs : (wl Z h g).set o (Z.1 o, .inr (4, ([.int (h o 0), .int (h o 1), .int (h o 2), .ref (Z.1 (o + 1)), .int (h o 4), .ref (Z.1 (o + 2)), .ref (Z.1 (o + 3)), .ref (Z.1 (o + 4)), .ref (Z.1 (o + 5)), .ref (Z.1 (o + 6)), .int (h o 10), .ref (Z.1 (o + 7)), .ref (Z.1 (o + 8)), .int (h o 13), .ref (Z.1 (o + 9)), .ref (Z.1 (o + 10)), .ref (Z.1 (o + 11)), .ref (Z.1 (o + 12)), .ref (Z.1 (o + 13))]).set 10 (.int v))) = wl Z (up h o 10 v) g := by
    have h1 := k_lt hk (by decide)
    refine wl_set h1 ?_ mx_upl
    rw [mx_l (kl_C o h1 (by omega)), up_eq]
    rw [cel_k hk]
    rfl
  exact x_put C hW (wk4 hk) rfl wsX4_in tyX4 tyX4_ok nmX4 10 (by decide) (ml_X8_112) rfl rfl (ty := .int) (by decide +kernel) (rfl) (rfl) (Nat.le_of_ble_eq_true rfl) hs hd (fun H1 locs1 q => kk _ H1 locs1 hf q)
theorem ml_X10_122 : Cond.fieldLink RX10 122 RX4 (TX4 10).2.1 (TX4 10).2.2.1 ∈ TW := TW_of 214 (by decide +kernel) (by decide +kernel)
theorem xg_X10_122 (C : CX p s m args meth c cc RX10 nL ret Z) (hW : XW Z h g s.heap H locs) {o : Nat} (hk : knd o = 4) (hd : decode cc pc = .ok (.getfield 122, 3)) (kk : W p l e R s m args below meth c H locs cells slots Q (F0 m (pc + 3) ls (.int (h o 10) :: rest))) : W p l e R s m args below meth c H locs cells slots Q (F0 m pc ls (.ref (Z.1 o) :: rest)) := x_get C hW (wk4 hk) rfl wsX4_in 10 (by decide) (ml_X10_122) rfl (v := .int (h o 10)) rfl hd kk
theorem xp_X10_122 (C : CX p s m args meth c cc RX10 nL ret Z) (hW : XW Z h g s.heap H locs) {o : Nat} (hk : knd o = 4) {v : Int32} {α : Type} {K : Hp → Option α} {out : α} (hf : stp (up h o 10 v) K = some out) (hd : decode cc pc = .ok (.putfield 122, 3)) (kk : ∀ (h1 : Hp) (H1 : Heap) (locs1 : List Loc), K h1 = some out → XW Z h1 g s.heap H1 locs1 → W p l e R s m args below meth c H1 locs1 cells slots Q (F0 m (pc + 3) ls rest)) : W p l e R s m args below meth c H locs cells slots Q (F0 m pc ls (.int v :: .ref (Z.1 o) :: rest)) := by
  have hs : (wl Z h g).set o (Z.1 o, .inr (4, ([.int (h o 0), .int (h o 1), .int (h o 2), .ref (Z.1 (o + 1)), .int (h o 4), .ref (Z.1 (o + 2)), .ref (Z.1 (o + 3)), .ref (Z.1 (o + 4)), .ref (Z.1 (o + 5)), .ref (Z.1 (o + 6)), .int (h o 10), .ref (Z.1 (o + 7)), .ref (Z.1 (o + 8)), .int (h o 13), .ref (Z.1 (o + 9)), .ref (Z.1 (o + 10)), .ref (Z.1 (o + 11)), .ref (Z.1 (o + 12)), .ref (Z.1 (o + 13))]).set 10 (.int v))) = wl Z (up h o 10 v) g := by
    have h1 := k_lt hk (by decide)
    refine wl_set h1 ?_ mx_upl
    rw [mx_l (kl_C o h1 (by omega)), up_eq]
    rw [cel_k hk]
    rfl
  exact x_put C hW (wk4 hk) rfl wsX4_in tyX4 tyX4_ok nmX4 10 (by decide) (ml_X10_122) rfl rfl (ty := .int) (by decide +kernel) (rfl) (rfl) (Nat.le_of_ble_eq_true rfl) hs hd (fun H1 locs1 q => kk _ H1 locs1 hf q)
theorem ml_X4_37 : Cond.fieldLink RX4 37 RX4 (TX4 11).2.1 (TX4 11).2.2.1 ∈ TW := TW_of 215 (by decide +kernel) (by decide +kernel)
theorem xg_X4_37 (C : CX p s m args meth c cc RX4 nL ret Z) (hW : XW Z h g s.heap H locs) {o : Nat} (hk : knd o = 4) (hd : decode cc pc = .ok (.getfield 37, 3)) (kk : W p l e R s m args below meth c H locs cells slots Q (F0 m (pc + 3) ls (.ref (Z.1 (o + 7)) :: rest))) : W p l e R s m args below meth c H locs cells slots Q (F0 m pc ls (.ref (Z.1 o) :: rest)) := x_get C hW (wk4 hk) rfl wsX4_in 11 (by decide) (ml_X4_37) rfl (v := .ref (Z.1 (o + 7))) rfl hd kk
theorem ml_X4_40 : Cond.fieldLink RX4 40 RX4 (TX4 12).2.1 (TX4 12).2.2.1 ∈ TW := TW_of 216 (by decide +kernel) (by decide +kernel)
theorem xg_X4_40 (C : CX p s m args meth c cc RX4 nL ret Z) (hW : XW Z h g s.heap H locs) {o : Nat} (hk : knd o = 4) (hd : decode cc pc = .ok (.getfield 40, 3)) (kk : W p l e R s m args below meth c H locs cells slots Q (F0 m (pc + 3) ls (.ref (Z.1 (o + 8)) :: rest))) : W p l e R s m args below meth c H locs cells slots Q (F0 m pc ls (.ref (Z.1 o) :: rest)) := x_get C hW (wk4 hk) rfl wsX4_in 12 (by decide) (ml_X4_40) rfl (v := .ref (Z.1 (o + 8))) rfl hd kk
theorem ml_X1_53 : Cond.fieldLink RX1 53 RX4 (TX4 13).2.1 (TX4 13).2.2.1 ∈ TW := TW_of 217 (by decide +kernel) (by decide +kernel)
theorem xg_X1_53 (C : CX p s m args meth c cc RX1 nL ret Z) (hW : XW Z h g s.heap H locs) {o : Nat} (hk : knd o = 4) (hd : decode cc pc = .ok (.getfield 53, 3)) (kk : W p l e R s m args below meth c H locs cells slots Q (F0 m (pc + 3) ls (.int (h o 13) :: rest))) : W p l e R s m args below meth c H locs cells slots Q (F0 m pc ls (.ref (Z.1 o) :: rest)) := x_get C hW (wk4 hk) rfl wsX4_in 13 (by decide) (ml_X1_53) rfl (v := .int (h o 13)) rfl hd kk
theorem xp_X1_53 (C : CX p s m args meth c cc RX1 nL ret Z) (hW : XW Z h g s.heap H locs) {o : Nat} (hk : knd o = 4) {v : Int32} {α : Type} {K : Hp → Option α} {out : α} (hf : stp (up h o 13 v) K = some out) (hd : decode cc pc = .ok (.putfield 53, 3)) (kk : ∀ (h1 : Hp) (H1 : Heap) (locs1 : List Loc), K h1 = some out → XW Z h1 g s.heap H1 locs1 → W p l e R s m args below meth c H1 locs1 cells slots Q (F0 m (pc + 3) ls rest)) : W p l e R s m args below meth c H locs cells slots Q (F0 m pc ls (.int v :: .ref (Z.1 o) :: rest)) := by
  have hs : (wl Z h g).set o (Z.1 o, .inr (4, ([.int (h o 0), .int (h o 1), .int (h o 2), .ref (Z.1 (o + 1)), .int (h o 4), .ref (Z.1 (o + 2)), .ref (Z.1 (o + 3)), .ref (Z.1 (o + 4)), .ref (Z.1 (o + 5)), .ref (Z.1 (o + 6)), .int (h o 10), .ref (Z.1 (o + 7)), .ref (Z.1 (o + 8)), .int (h o 13), .ref (Z.1 (o + 9)), .ref (Z.1 (o + 10)), .ref (Z.1 (o + 11)), .ref (Z.1 (o + 12)), .ref (Z.1 (o + 13))]).set 13 (.int v))) = wl Z (up h o 13 v) g := by
    have h1 := k_lt hk (by decide)
    refine wl_set h1 ?_ mx_upl
    rw [mx_l (kl_C o h1 (by omega)), up_eq]
    rw [cel_k hk]
    rfl
  exact x_put C hW (wk4 hk) rfl wsX4_in tyX4 tyX4_ok nmX4 13 (by decide) (ml_X1_53) rfl rfl (ty := .int) (by decide +kernel) (rfl) (rfl) (Nat.le_of_ble_eq_true rfl) hs hd (fun H1 locs1 q => kk _ H1 locs1 hf q)
theorem ml_X4_68 : Cond.fieldLink RX4 68 RX4 (TX4 13).2.1 (TX4 13).2.2.1 ∈ TW := TW_of 218 (by decide +kernel) (by decide +kernel)
theorem xg_X4_68 (C : CX p s m args meth c cc RX4 nL ret Z) (hW : XW Z h g s.heap H locs) {o : Nat} (hk : knd o = 4) (hd : decode cc pc = .ok (.getfield 68, 3)) (kk : W p l e R s m args below meth c H locs cells slots Q (F0 m (pc + 3) ls (.int (h o 13) :: rest))) : W p l e R s m args below meth c H locs cells slots Q (F0 m pc ls (.ref (Z.1 o) :: rest)) := x_get C hW (wk4 hk) rfl wsX4_in 13 (by decide) (ml_X4_68) rfl (v := .int (h o 13)) rfl hd kk
theorem xp_X4_68 (C : CX p s m args meth c cc RX4 nL ret Z) (hW : XW Z h g s.heap H locs) {o : Nat} (hk : knd o = 4) {v : Int32} {α : Type} {K : Hp → Option α} {out : α} (hf : stp (up h o 13 v) K = some out) (hd : decode cc pc = .ok (.putfield 68, 3)) (kk : ∀ (h1 : Hp) (H1 : Heap) (locs1 : List Loc), K h1 = some out → XW Z h1 g s.heap H1 locs1 → W p l e R s m args below meth c H1 locs1 cells slots Q (F0 m (pc + 3) ls rest)) : W p l e R s m args below meth c H locs cells slots Q (F0 m pc ls (.int v :: .ref (Z.1 o) :: rest)) := by
  have hs : (wl Z h g).set o (Z.1 o, .inr (4, ([.int (h o 0), .int (h o 1), .int (h o 2), .ref (Z.1 (o + 1)), .int (h o 4), .ref (Z.1 (o + 2)), .ref (Z.1 (o + 3)), .ref (Z.1 (o + 4)), .ref (Z.1 (o + 5)), .ref (Z.1 (o + 6)), .int (h o 10), .ref (Z.1 (o + 7)), .ref (Z.1 (o + 8)), .int (h o 13), .ref (Z.1 (o + 9)), .ref (Z.1 (o + 10)), .ref (Z.1 (o + 11)), .ref (Z.1 (o + 12)), .ref (Z.1 (o + 13))]).set 13 (.int v))) = wl Z (up h o 13 v) g := by
    have h1 := k_lt hk (by decide)
    refine wl_set h1 ?_ mx_upl
    rw [mx_l (kl_C o h1 (by omega)), up_eq]
    rw [cel_k hk]
    rfl
  exact x_put C hW (wk4 hk) rfl wsX4_in tyX4 tyX4_ok nmX4 13 (by decide) (ml_X4_68) rfl rfl (ty := .int) (by decide +kernel) (rfl) (rfl) (Nat.le_of_ble_eq_true rfl) hs hd (fun H1 locs1 q => kk _ H1 locs1 hf q)
theorem ml_X10_119 : Cond.fieldLink RX10 119 RX4 (TX4 13).2.1 (TX4 13).2.2.1 ∈ TW := TW_of 219 (by decide +kernel) (by decide +kernel)
theorem xg_X10_119 (C : CX p s m args meth c cc RX10 nL ret Z) (hW : XW Z h g s.heap H locs) {o : Nat} (hk : knd o = 4) (hd : decode cc pc = .ok (.getfield 119, 3)) (kk : W p l e R s m args below meth c H locs cells slots Q (F0 m (pc + 3) ls (.int (h o 13) :: rest))) : W p l e R s m args below meth c H locs cells slots Q (F0 m pc ls (.ref (Z.1 o) :: rest)) := x_get C hW (wk4 hk) rfl wsX4_in 13 (by decide) (ml_X10_119) rfl (v := .int (h o 13)) rfl hd kk
theorem xp_X10_119 (C : CX p s m args meth c cc RX10 nL ret Z) (hW : XW Z h g s.heap H locs) {o : Nat} (hk : knd o = 4) {v : Int32} {α : Type} {K : Hp → Option α} {out : α} (hf : stp (up h o 13 v) K = some out) (hd : decode cc pc = .ok (.putfield 119, 3)) (kk : ∀ (h1 : Hp) (H1 : Heap) (locs1 : List Loc), K h1 = some out → XW Z h1 g s.heap H1 locs1 → W p l e R s m args below meth c H1 locs1 cells slots Q (F0 m (pc + 3) ls rest)) : W p l e R s m args below meth c H locs cells slots Q (F0 m pc ls (.int v :: .ref (Z.1 o) :: rest)) := by
  have hs : (wl Z h g).set o (Z.1 o, .inr (4, ([.int (h o 0), .int (h o 1), .int (h o 2), .ref (Z.1 (o + 1)), .int (h o 4), .ref (Z.1 (o + 2)), .ref (Z.1 (o + 3)), .ref (Z.1 (o + 4)), .ref (Z.1 (o + 5)), .ref (Z.1 (o + 6)), .int (h o 10), .ref (Z.1 (o + 7)), .ref (Z.1 (o + 8)), .int (h o 13), .ref (Z.1 (o + 9)), .ref (Z.1 (o + 10)), .ref (Z.1 (o + 11)), .ref (Z.1 (o + 12)), .ref (Z.1 (o + 13))]).set 13 (.int v))) = wl Z (up h o 13 v) g := by
    have h1 := k_lt hk (by decide)
    refine wl_set h1 ?_ mx_upl
    rw [mx_l (kl_C o h1 (by omega)), up_eq]
    rw [cel_k hk]
    rfl
  exact x_put C hW (wk4 hk) rfl wsX4_in tyX4 tyX4_ok nmX4 13 (by decide) (ml_X10_119) rfl rfl (ty := .int) (by decide +kernel) (rfl) (rfl) (Nat.le_of_ble_eq_true rfl) hs hd (fun H1 locs1 q => kk _ H1 locs1 hf q)
theorem ml_X4_43 : Cond.fieldLink RX4 43 RX4 (TX4 14).2.1 (TX4 14).2.2.1 ∈ TW := TW_of 220 (by decide +kernel) (by decide +kernel)
theorem xg_X4_43 (C : CX p s m args meth c cc RX4 nL ret Z) (hW : XW Z h g s.heap H locs) {o : Nat} (hk : knd o = 4) (hd : decode cc pc = .ok (.getfield 43, 3)) (kk : W p l e R s m args below meth c H locs cells slots Q (F0 m (pc + 3) ls (.ref (Z.1 (o + 9)) :: rest))) : W p l e R s m args below meth c H locs cells slots Q (F0 m pc ls (.ref (Z.1 o) :: rest)) := x_get C hW (wk4 hk) rfl wsX4_in 14 (by decide) (ml_X4_43) rfl (v := .ref (Z.1 (o + 9))) rfl hd kk
theorem ml_X2_74 : Cond.fieldLink RX2 74 RX4 (TX4 14).2.1 (TX4 14).2.2.1 ∈ TW := TW_of 221 (by decide +kernel) (by decide +kernel)
theorem xg_X2_74 (C : CX p s m args meth c cc RX2 nL ret Z) (hW : XW Z h g s.heap H locs) {o : Nat} (hk : knd o = 4) (hd : decode cc pc = .ok (.getfield 74, 3)) (kk : W p l e R s m args below meth c H locs cells slots Q (F0 m (pc + 3) ls (.ref (Z.1 (o + 9)) :: rest))) : W p l e R s m args below meth c H locs cells slots Q (F0 m pc ls (.ref (Z.1 o) :: rest)) := x_get C hW (wk4 hk) rfl wsX4_in 14 (by decide) (ml_X2_74) rfl (v := .ref (Z.1 (o + 9))) rfl hd kk
theorem ml_X1_93 : Cond.fieldLink RX1 93 RX4 (TX4 14).2.1 (TX4 14).2.2.1 ∈ TW := TW_of 222 (by decide +kernel) (by decide +kernel)
theorem xg_X1_93 (C : CX p s m args meth c cc RX1 nL ret Z) (hW : XW Z h g s.heap H locs) {o : Nat} (hk : knd o = 4) (hd : decode cc pc = .ok (.getfield 93, 3)) (kk : W p l e R s m args below meth c H locs cells slots Q (F0 m (pc + 3) ls (.ref (Z.1 (o + 9)) :: rest))) : W p l e R s m args below meth c H locs cells slots Q (F0 m pc ls (.ref (Z.1 o) :: rest)) := x_get C hW (wk4 hk) rfl wsX4_in 14 (by decide) (ml_X1_93) rfl (v := .ref (Z.1 (o + 9))) rfl hd kk
theorem ml_X10_171 : Cond.fieldLink RX10 171 RX4 (TX4 14).2.1 (TX4 14).2.2.1 ∈ TW := TW_of 223 (by decide +kernel) (by decide +kernel)
theorem xg_X10_171 (C : CX p s m args meth c cc RX10 nL ret Z) (hW : XW Z h g s.heap H locs) {o : Nat} (hk : knd o = 4) (hd : decode cc pc = .ok (.getfield 171, 3)) (kk : W p l e R s m args below meth c H locs cells slots Q (F0 m (pc + 3) ls (.ref (Z.1 (o + 9)) :: rest))) : W p l e R s m args below meth c H locs cells slots Q (F0 m pc ls (.ref (Z.1 o) :: rest)) := x_get C hW (wk4 hk) rfl wsX4_in 14 (by decide) (ml_X10_171) rfl (v := .ref (Z.1 (o + 9))) rfl hd kk
theorem ml_X4_46 : Cond.fieldLink RX4 46 RX4 (TX4 15).2.1 (TX4 15).2.2.1 ∈ TW := TW_of 224 (by decide +kernel) (by decide +kernel)
theorem xg_X4_46 (C : CX p s m args meth c cc RX4 nL ret Z) (hW : XW Z h g s.heap H locs) {o : Nat} (hk : knd o = 4) (hd : decode cc pc = .ok (.getfield 46, 3)) (kk : W p l e R s m args below meth c H locs cells slots Q (F0 m (pc + 3) ls (.ref (Z.1 (o + 10)) :: rest))) : W p l e R s m args below meth c H locs cells slots Q (F0 m pc ls (.ref (Z.1 o) :: rest)) := x_get C hW (wk4 hk) rfl wsX4_in 15 (by decide) (ml_X4_46) rfl (v := .ref (Z.1 (o + 10))) rfl hd kk
theorem ml_X10_165 : Cond.fieldLink RX10 165 RX4 (TX4 15).2.1 (TX4 15).2.2.1 ∈ TW := TW_of 225 (by decide +kernel) (by decide +kernel)
theorem xg_X10_165 (C : CX p s m args meth c cc RX10 nL ret Z) (hW : XW Z h g s.heap H locs) {o : Nat} (hk : knd o = 4) (hd : decode cc pc = .ok (.getfield 165, 3)) (kk : W p l e R s m args below meth c H locs cells slots Q (F0 m (pc + 3) ls (.ref (Z.1 (o + 10)) :: rest))) : W p l e R s m args below meth c H locs cells slots Q (F0 m pc ls (.ref (Z.1 o) :: rest)) := x_get C hW (wk4 hk) rfl wsX4_in 15 (by decide) (ml_X10_165) rfl (v := .ref (Z.1 (o + 10))) rfl hd kk
theorem ml_X4_49 : Cond.fieldLink RX4 49 RX4 (TX4 16).2.1 (TX4 16).2.2.1 ∈ TW := TW_of 226 (by decide +kernel) (by decide +kernel)
theorem xg_X4_49 (C : CX p s m args meth c cc RX4 nL ret Z) (hW : XW Z h g s.heap H locs) {o : Nat} (hk : knd o = 4) (hd : decode cc pc = .ok (.getfield 49, 3)) (kk : W p l e R s m args below meth c H locs cells slots Q (F0 m (pc + 3) ls (.ref (Z.1 (o + 11)) :: rest))) : W p l e R s m args below meth c H locs cells slots Q (F0 m pc ls (.ref (Z.1 o) :: rest)) := x_get C hW (wk4 hk) rfl wsX4_in 16 (by decide) (ml_X4_49) rfl (v := .ref (Z.1 (o + 11))) rfl hd kk
theorem ml_X10_168 : Cond.fieldLink RX10 168 RX4 (TX4 16).2.1 (TX4 16).2.2.1 ∈ TW := TW_of 227 (by decide +kernel) (by decide +kernel)
theorem xg_X10_168 (C : CX p s m args meth c cc RX10 nL ret Z) (hW : XW Z h g s.heap H locs) {o : Nat} (hk : knd o = 4) (hd : decode cc pc = .ok (.getfield 168, 3)) (kk : W p l e R s m args below meth c H locs cells slots Q (F0 m (pc + 3) ls (.ref (Z.1 (o + 11)) :: rest))) : W p l e R s m args below meth c H locs cells slots Q (F0 m pc ls (.ref (Z.1 o) :: rest)) := x_get C hW (wk4 hk) rfl wsX4_in 16 (by decide) (ml_X10_168) rfl (v := .ref (Z.1 (o + 11))) rfl hd kk
theorem ml_X4_52 : Cond.fieldLink RX4 52 RX4 (TX4 17).2.1 (TX4 17).2.2.1 ∈ TW := TW_of 228 (by decide +kernel) (by decide +kernel)
theorem xg_X4_52 (C : CX p s m args meth c cc RX4 nL ret Z) (hW : XW Z h g s.heap H locs) {o : Nat} (hk : knd o = 4) (hd : decode cc pc = .ok (.getfield 52, 3)) (kk : W p l e R s m args below meth c H locs cells slots Q (F0 m (pc + 3) ls (.ref (Z.1 (o + 12)) :: rest))) : W p l e R s m args below meth c H locs cells slots Q (F0 m pc ls (.ref (Z.1 o) :: rest)) := x_get C hW (wk4 hk) rfl wsX4_in 17 (by decide) (ml_X4_52) rfl (v := .ref (Z.1 (o + 12))) rfl hd kk
theorem ml_X10_180 : Cond.fieldLink RX10 180 RX4 (TX4 17).2.1 (TX4 17).2.2.1 ∈ TW := TW_of 229 (by decide +kernel) (by decide +kernel)
theorem xg_X10_180 (C : CX p s m args meth c cc RX10 nL ret Z) (hW : XW Z h g s.heap H locs) {o : Nat} (hk : knd o = 4) (hd : decode cc pc = .ok (.getfield 180, 3)) (kk : W p l e R s m args below meth c H locs cells slots Q (F0 m (pc + 3) ls (.ref (Z.1 (o + 12)) :: rest))) : W p l e R s m args below meth c H locs cells slots Q (F0 m pc ls (.ref (Z.1 o) :: rest)) := x_get C hW (wk4 hk) rfl wsX4_in 17 (by decide) (ml_X10_180) rfl (v := .ref (Z.1 (o + 12))) rfl hd kk
theorem ml_X4_55 : Cond.fieldLink RX4 55 RX4 (TX4 18).2.1 (TX4 18).2.2.1 ∈ TW := TW_of 230 (by decide +kernel) (by decide +kernel)
theorem xg_X4_55 (C : CX p s m args meth c cc RX4 nL ret Z) (hW : XW Z h g s.heap H locs) {o : Nat} (hk : knd o = 4) (hd : decode cc pc = .ok (.getfield 55, 3)) (kk : W p l e R s m args below meth c H locs cells slots Q (F0 m (pc + 3) ls (.ref (Z.1 (o + 13)) :: rest))) : W p l e R s m args below meth c H locs cells slots Q (F0 m pc ls (.ref (Z.1 o) :: rest)) := x_get C hW (wk4 hk) rfl wsX4_in 18 (by decide) (ml_X4_55) rfl (v := .ref (Z.1 (o + 13))) rfl hd kk
theorem ml_X10_201 : Cond.fieldLink RX10 201 RX4 (TX4 18).2.1 (TX4 18).2.2.1 ∈ TW := TW_of 231 (by decide +kernel) (by decide +kernel)
theorem xg_X10_201 (C : CX p s m args meth c cc RX10 nL ret Z) (hW : XW Z h g s.heap H locs) {o : Nat} (hk : knd o = 4) (hd : decode cc pc = .ok (.getfield 201, 3)) (kk : W p l e R s m args below meth c H locs cells slots Q (F0 m (pc + 3) ls (.ref (Z.1 (o + 13)) :: rest))) : W p l e R s m args below meth c H locs cells slots Q (F0 m pc ls (.ref (Z.1 o) :: rest)) := x_get C hW (wk4 hk) rfl wsX4_in 18 (by decide) (ml_X10_201) rfl (v := .ref (Z.1 (o + 13))) rfl hd kk
theorem ml_X0_9 : Cond.fieldLink RX0 9 RX0 (TX0 0).2.1 (TX0 0).2.2.1 ∈ TW := TW_of 279 (by decide +kernel) (by decide +kernel)
theorem xg_X0_9 (C : CX p s m args meth c cc RX0 nL ret Z) (hW : XW Z h g s.heap H locs) {o : Nat} (hk : knd o = 0) (hd : decode cc pc = .ok (.getfield 9, 3)) (kk : W p l e R s m args below meth c H locs cells slots Q (F0 m (pc + 3) ls (.ref (Z.1 (o + 1)) :: rest))) : W p l e R s m args below meth c H locs cells slots Q (F0 m pc ls (.ref (Z.1 o) :: rest)) := x_get C hW (wk0 hk) rfl wsX0_in 0 (by decide) (ml_X0_9) rfl (v := .ref (Z.1 (o + 1))) rfl hd kk
theorem ml_X2_83 : Cond.fieldLink RX2 83 RX0 (TX0 0).2.1 (TX0 0).2.2.1 ∈ TW := TW_of 280 (by decide +kernel) (by decide +kernel)
theorem xg_X2_83 (C : CX p s m args meth c cc RX2 nL ret Z) (hW : XW Z h g s.heap H locs) {o : Nat} (hk : knd o = 0) (hd : decode cc pc = .ok (.getfield 83, 3)) (kk : W p l e R s m args below meth c H locs cells slots Q (F0 m (pc + 3) ls (.ref (Z.1 (o + 1)) :: rest))) : W p l e R s m args below meth c H locs cells slots Q (F0 m pc ls (.ref (Z.1 o) :: rest)) := x_get C hW (wk0 hk) rfl wsX0_in 0 (by decide) (ml_X2_83) rfl (v := .ref (Z.1 (o + 1))) rfl hd kk
theorem ml_X1_96 : Cond.fieldLink RX1 96 RX0 (TX0 0).2.1 (TX0 0).2.2.1 ∈ TW := TW_of 281 (by decide +kernel) (by decide +kernel)
theorem xg_X1_96 (C : CX p s m args meth c cc RX1 nL ret Z) (hW : XW Z h g s.heap H locs) {o : Nat} (hk : knd o = 0) (hd : decode cc pc = .ok (.getfield 96, 3)) (kk : W p l e R s m args below meth c H locs cells slots Q (F0 m (pc + 3) ls (.ref (Z.1 (o + 1)) :: rest))) : W p l e R s m args below meth c H locs cells slots Q (F0 m pc ls (.ref (Z.1 o) :: rest)) := x_get C hW (wk0 hk) rfl wsX0_in 0 (by decide) (ml_X1_96) rfl (v := .ref (Z.1 (o + 1))) rfl hd kk
theorem ml_X0_25 : Cond.fieldLink RX0 25 RX0 (TX0 1).2.1 (TX0 1).2.2.1 ∈ TW := TW_of 282 (by decide +kernel) (by decide +kernel)
theorem xg_X0_25 (C : CX p s m args meth c cc RX0 nL ret Z) (hW : XW Z h g s.heap H locs) {o : Nat} (hk : knd o = 0) (hd : decode cc pc = .ok (.getfield 25, 3)) (kk : W p l e R s m args below meth c H locs cells slots Q (F0 m (pc + 3) ls (.int (h o 1) :: rest))) : W p l e R s m args below meth c H locs cells slots Q (F0 m pc ls (.ref (Z.1 o) :: rest)) := x_get C hW (wk0 hk) rfl wsX0_in 1 (by decide) (ml_X0_25) rfl (v := .int (h o 1)) rfl hd kk
theorem xp_X0_25 (C : CX p s m args meth c cc RX0 nL ret Z) (hW : XW Z h g s.heap H locs) {o : Nat} (hk : knd o = 0) {v : Int32} {α : Type} {K : Hp → Option α} {out : α} (hf : stp (up h o 1 v) K = some out) (hd : decode cc pc = .ok (.putfield 25, 3)) (kk : ∀ (h1 : Hp) (H1 : Heap) (locs1 : List Loc), K h1 = some out → XW Z h1 g s.heap H1 locs1 → W p l e R s m args below meth c H1 locs1 cells slots Q (F0 m (pc + 3) ls rest)) : W p l e R s m args below meth c H locs cells slots Q (F0 m pc ls (.int v :: .ref (Z.1 o) :: rest)) := by
  have hs : (wl Z h g).set o (Z.1 o, .inr (0, ([.ref (Z.1 (o + 1)), .int (h o 1), .ref (Z.1 (o + 2)), .ref (Z.1 (o + 3)), .ref (Z.1 (o + 4))]).set 1 (.int v))) = wl Z (up h o 1 v) g := by
    have h1 := k_lt hk (by decide)
    refine wl_set h1 ?_ mx_upl
    rw [mx_l (kl_C o h1 (by omega)), up_eq]
    rw [cel_k hk]
    rfl
  exact x_put C hW (wk0 hk) rfl wsX0_in tyX0 tyX0_ok nmX0 1 (by decide) (ml_X0_25) rfl rfl (ty := .int) (by decide +kernel) (rfl) (rfl) (Nat.le_of_ble_eq_true rfl) hs hd (fun H1 locs1 q => kk _ H1 locs1 hf q)
theorem ml_X2_25 : Cond.fieldLink RX2 25 RX0 (TX0 1).2.1 (TX0 1).2.2.1 ∈ TW := TW_of 283 (by decide +kernel) (by decide +kernel)
theorem xg_X2_25 (C : CX p s m args meth c cc RX2 nL ret Z) (hW : XW Z h g s.heap H locs) {o : Nat} (hk : knd o = 0) (hd : decode cc pc = .ok (.getfield 25, 3)) (kk : W p l e R s m args below meth c H locs cells slots Q (F0 m (pc + 3) ls (.int (h o 1) :: rest))) : W p l e R s m args below meth c H locs cells slots Q (F0 m pc ls (.ref (Z.1 o) :: rest)) := x_get C hW (wk0 hk) rfl wsX0_in 1 (by decide) (ml_X2_25) rfl (v := .int (h o 1)) rfl hd kk
theorem xp_X2_25 (C : CX p s m args meth c cc RX2 nL ret Z) (hW : XW Z h g s.heap H locs) {o : Nat} (hk : knd o = 0) {v : Int32} {α : Type} {K : Hp → Option α} {out : α} (hf : stp (up h o 1 v) K = some out) (hd : decode cc pc = .ok (.putfield 25, 3)) (kk : ∀ (h1 : Hp) (H1 : Heap) (locs1 : List Loc), K h1 = some out → XW Z h1 g s.heap H1 locs1 → W p l e R s m args below meth c H1 locs1 cells slots Q (F0 m (pc + 3) ls rest)) : W p l e R s m args below meth c H locs cells slots Q (F0 m pc ls (.int v :: .ref (Z.1 o) :: rest)) := by
  have hs : (wl Z h g).set o (Z.1 o, .inr (0, ([.ref (Z.1 (o + 1)), .int (h o 1), .ref (Z.1 (o + 2)), .ref (Z.1 (o + 3)), .ref (Z.1 (o + 4))]).set 1 (.int v))) = wl Z (up h o 1 v) g := by
    have h1 := k_lt hk (by decide)
    refine wl_set h1 ?_ mx_upl
    rw [mx_l (kl_C o h1 (by omega)), up_eq]
    rw [cel_k hk]
    rfl
  exact x_put C hW (wk0 hk) rfl wsX0_in tyX0 tyX0_ok nmX0 1 (by decide) (ml_X2_25) rfl rfl (ty := .int) (by decide +kernel) (rfl) (rfl) (Nat.le_of_ble_eq_true rfl) hs hd (fun H1 locs1 q => kk _ H1 locs1 hf q)
theorem ml_X1_70 : Cond.fieldLink RX1 70 RX0 (TX0 1).2.1 (TX0 1).2.2.1 ∈ TW := TW_of 284 (by decide +kernel) (by decide +kernel)
theorem xg_X1_70 (C : CX p s m args meth c cc RX1 nL ret Z) (hW : XW Z h g s.heap H locs) {o : Nat} (hk : knd o = 0) (hd : decode cc pc = .ok (.getfield 70, 3)) (kk : W p l e R s m args below meth c H locs cells slots Q (F0 m (pc + 3) ls (.int (h o 1) :: rest))) : W p l e R s m args below meth c H locs cells slots Q (F0 m pc ls (.ref (Z.1 o) :: rest)) := x_get C hW (wk0 hk) rfl wsX0_in 1 (by decide) (ml_X1_70) rfl (v := .int (h o 1)) rfl hd kk
theorem xp_X1_70 (C : CX p s m args meth c cc RX1 nL ret Z) (hW : XW Z h g s.heap H locs) {o : Nat} (hk : knd o = 0) {v : Int32} {α : Type} {K : Hp → Option α} {out : α} (hf : stp (up h o 1 v) K = some out) (hd : decode cc pc = .ok (.putfield 70, 3)) (kk : ∀ (h1 : Hp) (H1 : Heap) (locs1 : List Loc), K h1 = some out → XW Z h1 g s.heap H1 locs1 → W p l e R s m args below meth c H1 locs1 cells slots Q (F0 m (pc + 3) ls rest)) : W p l e R s m args below meth c H locs cells slots Q (F0 m pc ls (.int v :: .ref (Z.1 o) :: rest)) := by
  have hs : (wl Z h g).set o (Z.1 o, .inr (0, ([.ref (Z.1 (o + 1)), .int (h o 1), .ref (Z.1 (o + 2)), .ref (Z.1 (o + 3)), .ref (Z.1 (o + 4))]).set 1 (.int v))) = wl Z (up h o 1 v) g := by
    have h1 := k_lt hk (by decide)
    refine wl_set h1 ?_ mx_upl
    rw [mx_l (kl_C o h1 (by omega)), up_eq]
    rw [cel_k hk]
    rfl
  exact x_put C hW (wk0 hk) rfl wsX0_in tyX0 tyX0_ok nmX0 1 (by decide) (ml_X1_70) rfl rfl (ty := .int) (by decide +kernel) (rfl) (rfl) (Nat.le_of_ble_eq_true rfl) hs hd (fun H1 locs1 q => kk _ H1 locs1 hf q)
theorem ml_X10_208 : Cond.fieldLink RX10 208 RX0 (TX0 1).2.1 (TX0 1).2.2.1 ∈ TW := TW_of 285 (by decide +kernel) (by decide +kernel)
theorem xg_X10_208 (C : CX p s m args meth c cc RX10 nL ret Z) (hW : XW Z h g s.heap H locs) {o : Nat} (hk : knd o = 0) (hd : decode cc pc = .ok (.getfield 208, 3)) (kk : W p l e R s m args below meth c H locs cells slots Q (F0 m (pc + 3) ls (.int (h o 1) :: rest))) : W p l e R s m args below meth c H locs cells slots Q (F0 m pc ls (.ref (Z.1 o) :: rest)) := x_get C hW (wk0 hk) rfl wsX0_in 1 (by decide) (ml_X10_208) rfl (v := .int (h o 1)) rfl hd kk
theorem xp_X10_208 (C : CX p s m args meth c cc RX10 nL ret Z) (hW : XW Z h g s.heap H locs) {o : Nat} (hk : knd o = 0) {v : Int32} {α : Type} {K : Hp → Option α} {out : α} (hf : stp (up h o 1 v) K = some out) (hd : decode cc pc = .ok (.putfield 208, 3)) (kk : ∀ (h1 : Hp) (H1 : Heap) (locs1 : List Loc), K h1 = some out → XW Z h1 g s.heap H1 locs1 → W p l e R s m args below meth c H1 locs1 cells slots Q (F0 m (pc + 3) ls rest)) : W p l e R s m args below meth c H locs cells slots Q (F0 m pc ls (.int v :: .ref (Z.1 o) :: rest)) := by
  have hs : (wl Z h g).set o (Z.1 o, .inr (0, ([.ref (Z.1 (o + 1)), .int (h o 1), .ref (Z.1 (o + 2)), .ref (Z.1 (o + 3)), .ref (Z.1 (o + 4))]).set 1 (.int v))) = wl Z (up h o 1 v) g := by
    have h1 := k_lt hk (by decide)
    refine wl_set h1 ?_ mx_upl
    rw [mx_l (kl_C o h1 (by omega)), up_eq]
    rw [cel_k hk]
    rfl
  exact x_put C hW (wk0 hk) rfl wsX0_in tyX0 tyX0_ok nmX0 1 (by decide) (ml_X10_208) rfl rfl (ty := .int) (by decide +kernel) (rfl) (rfl) (Nat.le_of_ble_eq_true rfl) hs hd (fun H1 locs1 q => kk _ H1 locs1 hf q)
theorem ml_X0_15 : Cond.fieldLink RX0 15 RX0 (TX0 2).2.1 (TX0 2).2.2.1 ∈ TW := TW_of 286 (by decide +kernel) (by decide +kernel)
theorem xg_X0_15 (C : CX p s m args meth c cc RX0 nL ret Z) (hW : XW Z h g s.heap H locs) {o : Nat} (hk : knd o = 0) (hd : decode cc pc = .ok (.getfield 15, 3)) (kk : W p l e R s m args below meth c H locs cells slots Q (F0 m (pc + 3) ls (.ref (Z.1 (o + 2)) :: rest))) : W p l e R s m args below meth c H locs cells slots Q (F0 m pc ls (.ref (Z.1 o) :: rest)) := x_get C hW (wk0 hk) rfl wsX0_in 2 (by decide) (ml_X0_15) rfl (v := .ref (Z.1 (o + 2))) rfl hd kk
theorem ml_X1_73 : Cond.fieldLink RX1 73 RX0 (TX0 2).2.1 (TX0 2).2.2.1 ∈ TW := TW_of 287 (by decide +kernel) (by decide +kernel)
theorem xg_X1_73 (C : CX p s m args meth c cc RX1 nL ret Z) (hW : XW Z h g s.heap H locs) {o : Nat} (hk : knd o = 0) (hd : decode cc pc = .ok (.getfield 73, 3)) (kk : W p l e R s m args below meth c H locs cells slots Q (F0 m (pc + 3) ls (.ref (Z.1 (o + 2)) :: rest))) : W p l e R s m args below meth c H locs cells slots Q (F0 m pc ls (.ref (Z.1 o) :: rest)) := x_get C hW (wk0 hk) rfl wsX0_in 2 (by decide) (ml_X1_73) rfl (v := .ref (Z.1 (o + 2))) rfl hd kk
theorem ml_X2_71 : Cond.fieldLink RX2 71 RX0 (TX0 2).2.1 (TX0 2).2.2.1 ∈ TW := TW_of 288 (by decide +kernel) (by decide +kernel)
theorem xg_X2_71 (C : CX p s m args meth c cc RX2 nL ret Z) (hW : XW Z h g s.heap H locs) {o : Nat} (hk : knd o = 0) (hd : decode cc pc = .ok (.getfield 71, 3)) (kk : W p l e R s m args below meth c H locs cells slots Q (F0 m (pc + 3) ls (.ref (Z.1 (o + 2)) :: rest))) : W p l e R s m args below meth c H locs cells slots Q (F0 m pc ls (.ref (Z.1 o) :: rest)) := x_get C hW (wk0 hk) rfl wsX0_in 2 (by decide) (ml_X2_71) rfl (v := .ref (Z.1 (o + 2))) rfl hd kk
theorem ml_X10_214 : Cond.fieldLink RX10 214 RX0 (TX0 2).2.1 (TX0 2).2.2.1 ∈ TW := TW_of 289 (by decide +kernel) (by decide +kernel)
theorem xg_X10_214 (C : CX p s m args meth c cc RX10 nL ret Z) (hW : XW Z h g s.heap H locs) {o : Nat} (hk : knd o = 0) (hd : decode cc pc = .ok (.getfield 214, 3)) (kk : W p l e R s m args below meth c H locs cells slots Q (F0 m (pc + 3) ls (.ref (Z.1 (o + 2)) :: rest))) : W p l e R s m args below meth c H locs cells slots Q (F0 m pc ls (.ref (Z.1 o) :: rest)) := x_get C hW (wk0 hk) rfl wsX0_in 2 (by decide) (ml_X10_214) rfl (v := .ref (Z.1 (o + 2))) rfl hd kk
theorem ml_X0_19 : Cond.fieldLink RX0 19 RX0 (TX0 3).2.1 (TX0 3).2.2.1 ∈ TW := TW_of 290 (by decide +kernel) (by decide +kernel)
theorem xg_X0_19 (C : CX p s m args meth c cc RX0 nL ret Z) (hW : XW Z h g s.heap H locs) {o : Nat} (hk : knd o = 0) (hd : decode cc pc = .ok (.getfield 19, 3)) (kk : W p l e R s m args below meth c H locs cells slots Q (F0 m (pc + 3) ls (.ref (Z.1 (o + 3)) :: rest))) : W p l e R s m args below meth c H locs cells slots Q (F0 m pc ls (.ref (Z.1 o) :: rest)) := x_get C hW (wk0 hk) rfl wsX0_in 3 (by decide) (ml_X0_19) rfl (v := .ref (Z.1 (o + 3))) rfl hd kk
theorem ml_X1_76 : Cond.fieldLink RX1 76 RX0 (TX0 3).2.1 (TX0 3).2.2.1 ∈ TW := TW_of 291 (by decide +kernel) (by decide +kernel)
theorem xg_X1_76 (C : CX p s m args meth c cc RX1 nL ret Z) (hW : XW Z h g s.heap H locs) {o : Nat} (hk : knd o = 0) (hd : decode cc pc = .ok (.getfield 76, 3)) (kk : W p l e R s m args below meth c H locs cells slots Q (F0 m (pc + 3) ls (.ref (Z.1 (o + 3)) :: rest))) : W p l e R s m args below meth c H locs cells slots Q (F0 m pc ls (.ref (Z.1 o) :: rest)) := x_get C hW (wk0 hk) rfl wsX0_in 3 (by decide) (ml_X1_76) rfl (v := .ref (Z.1 (o + 3))) rfl hd kk
theorem ml_X10_187 : Cond.fieldLink RX10 187 RX0 (TX0 3).2.1 (TX0 3).2.2.1 ∈ TW := TW_of 292 (by decide +kernel) (by decide +kernel)
theorem xg_X10_187 (C : CX p s m args meth c cc RX10 nL ret Z) (hW : XW Z h g s.heap H locs) {o : Nat} (hk : knd o = 0) (hd : decode cc pc = .ok (.getfield 187, 3)) (kk : W p l e R s m args below meth c H locs cells slots Q (F0 m (pc + 3) ls (.ref (Z.1 (o + 3)) :: rest))) : W p l e R s m args below meth c H locs cells slots Q (F0 m pc ls (.ref (Z.1 o) :: rest)) := x_get C hW (wk0 hk) rfl wsX0_in 3 (by decide) (ml_X10_187) rfl (v := .ref (Z.1 (o + 3))) rfl hd kk
theorem ml_X0_22 : Cond.fieldLink RX0 22 RX0 (TX0 4).2.1 (TX0 4).2.2.1 ∈ TW := TW_of 293 (by decide +kernel) (by decide +kernel)
theorem xg_X0_22 (C : CX p s m args meth c cc RX0 nL ret Z) (hW : XW Z h g s.heap H locs) {o : Nat} (hk : knd o = 0) (hd : decode cc pc = .ok (.getfield 22, 3)) (kk : W p l e R s m args below meth c H locs cells slots Q (F0 m (pc + 3) ls (.ref (Z.1 (o + 4)) :: rest))) : W p l e R s m args below meth c H locs cells slots Q (F0 m pc ls (.ref (Z.1 o) :: rest)) := x_get C hW (wk0 hk) rfl wsX0_in 4 (by decide) (ml_X0_22) rfl (v := .ref (Z.1 (o + 4))) rfl hd kk
theorem ml_X1_83 : Cond.fieldLink RX1 83 RX0 (TX0 4).2.1 (TX0 4).2.2.1 ∈ TW := TW_of 294 (by decide +kernel) (by decide +kernel)
theorem xg_X1_83 (C : CX p s m args meth c cc RX1 nL ret Z) (hW : XW Z h g s.heap H locs) {o : Nat} (hk : knd o = 0) (hd : decode cc pc = .ok (.getfield 83, 3)) (kk : W p l e R s m args below meth c H locs cells slots Q (F0 m (pc + 3) ls (.ref (Z.1 (o + 4)) :: rest))) : W p l e R s m args below meth c H locs cells slots Q (F0 m pc ls (.ref (Z.1 o) :: rest)) := x_get C hW (wk0 hk) rfl wsX0_in 4 (by decide) (ml_X1_83) rfl (v := .ref (Z.1 (o + 4))) rfl hd kk
theorem ml_X10_192 : Cond.fieldLink RX10 192 RX0 (TX0 4).2.1 (TX0 4).2.2.1 ∈ TW := TW_of 295 (by decide +kernel) (by decide +kernel)
theorem xg_X10_192 (C : CX p s m args meth c cc RX10 nL ret Z) (hW : XW Z h g s.heap H locs) {o : Nat} (hk : knd o = 0) (hd : decode cc pc = .ok (.getfield 192, 3)) (kk : W p l e R s m args below meth c H locs cells slots Q (F0 m (pc + 3) ls (.ref (Z.1 (o + 4)) :: rest))) : W p l e R s m args below meth c H locs cells slots Q (F0 m pc ls (.ref (Z.1 o) :: rest)) := x_get C hW (wk0 hk) rfl wsX0_in 4 (by decide) (ml_X10_192) rfl (v := .ref (Z.1 (o + 4))) rfl hd kk
theorem ml_X1_12 : Cond.fieldLink RX1 12 RX1 (TX1 0).2.1 (TX1 0).2.2.1 ∈ TW := TW_of 307 (by decide +kernel) (by decide +kernel)
theorem xg_X1_12 (C : CX p s m args meth c cc RX1 nL ret Z) (hW : XW Z h g s.heap H locs) {o : Nat} (hk : knd o = 1) {α : Type} {K : Nat → Option α} {out : α} (hf : ckp (h o 0) 4 K = some out) (hd : decode cc pc = .ok (.getfield 12, 3)) (kk : ∀ r : Nat, knd r = 4 → K r = some out → W p l e R s m args below meth c H locs cells slots Q (F0 m (pc + 3) ls (.ref (Z.1 r) :: rest))) : W p l e R s m args below meth c H locs cells slots Q (F0 m pc ls (.ref (Z.1 o) :: rest)) := by
  obtain ⟨h1, h2⟩ := ckp_t hf
  exact x_get C hW (wk1 hk) rfl wsX1_in 0 (by decide) (ml_X1_12) rfl (v := .ref (Z.1 (ix (h o 0)))) rfl hd (kk _ h1 h2)
theorem xp_X1_12 (C : CX p s m args meth c cc RX1 nL ret Z) (hW : XW Z h g s.heap H locs) {o : Nat} (hk : knd o = 1) {r : Nat} (hr : knd r = 4) {α : Type} {K : Hp → Option α} {out : α} (hf : stp (up h o 0 (nI r)) K = some out) (hd : decode cc pc = .ok (.putfield 12, 3)) (kk : ∀ (h1 : Hp) (H1 : Heap) (locs1 : List Loc), K h1 = some out → XW Z h1 g s.heap H1 locs1 → W p l e R s m args below meth c H1 locs1 cells slots Q (F0 m (pc + 3) ls rest)) : W p l e R s m args below meth c H locs cells slots Q (F0 m pc ls (.ref (Z.1 r) :: .ref (Z.1 o) :: rest)) := by
  have hs : (wl Z h g).set o (Z.1 o, .inr (1, ([.ref (Z.1 (ix (h o 0))), .ref (Z.1 18), .int (h o 2), .ref (Z.1 4), .ref (Z.1 5), .ref (Z.1 6), .ref (Z.1 7), .ref (Z.1 8), .int (h o 8), .ref (Z.1 9), .ref (Z.1 10), .int (h o 11), .ref (Z.1 11), .int (h o 13), .int (h o 14), .ref (Z.1 12)]).set 0 (.ref (Z.1 r)))) = wl Z (up h o 0 (nI r)) g := by
    have h1 := k_lt hk (by decide)
    refine wl_set h1 ?_ mx_upl
    rw [mx_l (kl_C o h1 (by omega)), up_eq]
    rw [cel_k hk]
    have e1 : ix (nI r) = r := nI_clamp (Nat.lt_of_lt_of_le (k_lt hr (by decide)) (by decide))
    show (Sum.inr (1, ([.ref (Z.1 (ix (nI r))), .ref (Z.1 18), .int (h o 2), .ref (Z.1 4), .ref (Z.1 5), .ref (Z.1 6), .ref (Z.1 7), .ref (Z.1 8), .int (h o 8), .ref (Z.1 9), .ref (Z.1 10), .int (h o 11), .ref (Z.1 11), .int (h o 13), .int (h o 14), .ref (Z.1 12)] : List Value)) : va_E) = _
    rw [e1]
    rfl
  exact x_put C hW (wk1 hk) rfl wsX1_in tyX1 tyX1_ok nmX1 0 (by decide) (ml_X1_12) rfl rfl (ty := .object "TranscriptCutter$Recording") (by decide +kernel) (rfl) (rfl) (Nat.le_of_ble_eq_true rfl) hs hd (fun H1 locs1 q => kk _ H1 locs1 hf q)
theorem ml_X2_42 : Cond.fieldLink RX2 42 RX1 (TX1 0).2.1 (TX1 0).2.2.1 ∈ TW := TW_of 308 (by decide +kernel) (by decide +kernel)
theorem xg_X2_42 (C : CX p s m args meth c cc RX2 nL ret Z) (hW : XW Z h g s.heap H locs) {o : Nat} (hk : knd o = 1) {α : Type} {K : Nat → Option α} {out : α} (hf : ckp (h o 0) 4 K = some out) (hd : decode cc pc = .ok (.getfield 42, 3)) (kk : ∀ r : Nat, knd r = 4 → K r = some out → W p l e R s m args below meth c H locs cells slots Q (F0 m (pc + 3) ls (.ref (Z.1 r) :: rest))) : W p l e R s m args below meth c H locs cells slots Q (F0 m pc ls (.ref (Z.1 o) :: rest)) := by
  obtain ⟨h1, h2⟩ := ckp_t hf
  exact x_get C hW (wk1 hk) rfl wsX1_in 0 (by decide) (ml_X2_42) rfl (v := .ref (Z.1 (ix (h o 0)))) rfl hd (kk _ h1 h2)
theorem xp_X2_42 (C : CX p s m args meth c cc RX2 nL ret Z) (hW : XW Z h g s.heap H locs) {o : Nat} (hk : knd o = 1) {r : Nat} (hr : knd r = 4) {α : Type} {K : Hp → Option α} {out : α} (hf : stp (up h o 0 (nI r)) K = some out) (hd : decode cc pc = .ok (.putfield 42, 3)) (kk : ∀ (h1 : Hp) (H1 : Heap) (locs1 : List Loc), K h1 = some out → XW Z h1 g s.heap H1 locs1 → W p l e R s m args below meth c H1 locs1 cells slots Q (F0 m (pc + 3) ls rest)) : W p l e R s m args below meth c H locs cells slots Q (F0 m pc ls (.ref (Z.1 r) :: .ref (Z.1 o) :: rest)) := by
  have hs : (wl Z h g).set o (Z.1 o, .inr (1, ([.ref (Z.1 (ix (h o 0))), .ref (Z.1 18), .int (h o 2), .ref (Z.1 4), .ref (Z.1 5), .ref (Z.1 6), .ref (Z.1 7), .ref (Z.1 8), .int (h o 8), .ref (Z.1 9), .ref (Z.1 10), .int (h o 11), .ref (Z.1 11), .int (h o 13), .int (h o 14), .ref (Z.1 12)]).set 0 (.ref (Z.1 r)))) = wl Z (up h o 0 (nI r)) g := by
    have h1 := k_lt hk (by decide)
    refine wl_set h1 ?_ mx_upl
    rw [mx_l (kl_C o h1 (by omega)), up_eq]
    rw [cel_k hk]
    have e1 : ix (nI r) = r := nI_clamp (Nat.lt_of_lt_of_le (k_lt hr (by decide)) (by decide))
    show (Sum.inr (1, ([.ref (Z.1 (ix (nI r))), .ref (Z.1 18), .int (h o 2), .ref (Z.1 4), .ref (Z.1 5), .ref (Z.1 6), .ref (Z.1 7), .ref (Z.1 8), .int (h o 8), .ref (Z.1 9), .ref (Z.1 10), .int (h o 11), .ref (Z.1 11), .int (h o 13), .int (h o 14), .ref (Z.1 12)] : List Value)) : va_E) = _
    rw [e1]
    rfl
  exact x_put C hW (wk1 hk) rfl wsX1_in tyX1 tyX1_ok nmX1 0 (by decide) (ml_X2_42) rfl rfl (ty := .object "TranscriptCutter$Recording") (by decide +kernel) (rfl) (rfl) (Nat.le_of_ble_eq_true rfl) hs hd (fun H1 locs1 q => kk _ H1 locs1 hf q)
theorem ml_X10_86 : Cond.fieldLink RX10 86 RX1 (TX1 0).2.1 (TX1 0).2.2.1 ∈ TW := TW_of 309 (by decide +kernel) (by decide +kernel)
theorem xg_X10_86 (C : CX p s m args meth c cc RX10 nL ret Z) (hW : XW Z h g s.heap H locs) {o : Nat} (hk : knd o = 1) {α : Type} {K : Nat → Option α} {out : α} (hf : ckp (h o 0) 4 K = some out) (hd : decode cc pc = .ok (.getfield 86, 3)) (kk : ∀ r : Nat, knd r = 4 → K r = some out → W p l e R s m args below meth c H locs cells slots Q (F0 m (pc + 3) ls (.ref (Z.1 r) :: rest))) : W p l e R s m args below meth c H locs cells slots Q (F0 m pc ls (.ref (Z.1 o) :: rest)) := by
  obtain ⟨h1, h2⟩ := ckp_t hf
  exact x_get C hW (wk1 hk) rfl wsX1_in 0 (by decide) (ml_X10_86) rfl (v := .ref (Z.1 (ix (h o 0)))) rfl hd (kk _ h1 h2)
theorem xp_X10_86 (C : CX p s m args meth c cc RX10 nL ret Z) (hW : XW Z h g s.heap H locs) {o : Nat} (hk : knd o = 1) {r : Nat} (hr : knd r = 4) {α : Type} {K : Hp → Option α} {out : α} (hf : stp (up h o 0 (nI r)) K = some out) (hd : decode cc pc = .ok (.putfield 86, 3)) (kk : ∀ (h1 : Hp) (H1 : Heap) (locs1 : List Loc), K h1 = some out → XW Z h1 g s.heap H1 locs1 → W p l e R s m args below meth c H1 locs1 cells slots Q (F0 m (pc + 3) ls rest)) : W p l e R s m args below meth c H locs cells slots Q (F0 m pc ls (.ref (Z.1 r) :: .ref (Z.1 o) :: rest)) := by
  have hs : (wl Z h g).set o (Z.1 o, .inr (1, ([.ref (Z.1 (ix (h o 0))), .ref (Z.1 18), .int (h o 2), .ref (Z.1 4), .ref (Z.1 5), .ref (Z.1 6), .ref (Z.1 7), .ref (Z.1 8), .int (h o 8), .ref (Z.1 9), .ref (Z.1 10), .int (h o 11), .ref (Z.1 11), .int (h o 13), .int (h o 14), .ref (Z.1 12)]).set 0 (.ref (Z.1 r)))) = wl Z (up h o 0 (nI r)) g := by
    have h1 := k_lt hk (by decide)
    refine wl_set h1 ?_ mx_upl
    rw [mx_l (kl_C o h1 (by omega)), up_eq]
    rw [cel_k hk]
    have e1 : ix (nI r) = r := nI_clamp (Nat.lt_of_lt_of_le (k_lt hr (by decide)) (by decide))
    show (Sum.inr (1, ([.ref (Z.1 (ix (nI r))), .ref (Z.1 18), .int (h o 2), .ref (Z.1 4), .ref (Z.1 5), .ref (Z.1 6), .ref (Z.1 7), .ref (Z.1 8), .int (h o 8), .ref (Z.1 9), .ref (Z.1 10), .int (h o 11), .ref (Z.1 11), .int (h o 13), .int (h o 14), .ref (Z.1 12)] : List Value)) : va_E) = _
    rw [e1]
    rfl
  exact x_put C hW (wk1 hk) rfl wsX1_in tyX1 tyX1_ok nmX1 0 (by decide) (ml_X10_86) rfl rfl (ty := .object "TranscriptCutter$Recording") (by decide +kernel) (rfl) (rfl) (Nat.le_of_ble_eq_true rfl) hs hd (fun H1 locs1 q => kk _ H1 locs1 hf q)
theorem ml_X1_21 : Cond.fieldLink RX1 21 RX1 (TX1 1).2.1 (TX1 1).2.2.1 ∈ TW := TW_of 310 (by decide +kernel) (by decide +kernel)
theorem xg_X1_21 (C : CX p s m args meth c cc RX1 nL ret Z) (hW : XW Z h g s.heap H locs) {o : Nat} (hk : knd o = 1) (hd : decode cc pc = .ok (.getfield 21, 3)) (kk : W p l e R s m args below meth c H locs cells slots Q (F0 m (pc + 3) ls (.ref (Z.1 18) :: rest))) : W p l e R s m args below meth c H locs cells slots Q (F0 m pc ls (.ref (Z.1 o) :: rest)) := x_get C hW (wk1 hk) rfl wsX1_in 1 (by decide) (ml_X1_21) rfl (v := .ref (Z.1 18)) rfl hd kk
theorem ml_X2_19 : Cond.fieldLink RX2 19 RX1 (TX1 1).2.1 (TX1 1).2.2.1 ∈ TW := TW_of 311 (by decide +kernel) (by decide +kernel)
theorem xg_X2_19 (C : CX p s m args meth c cc RX2 nL ret Z) (hW : XW Z h g s.heap H locs) {o : Nat} (hk : knd o = 1) (hd : decode cc pc = .ok (.getfield 19, 3)) (kk : W p l e R s m args below meth c H locs cells slots Q (F0 m (pc + 3) ls (.ref (Z.1 18) :: rest))) : W p l e R s m args below meth c H locs cells slots Q (F0 m pc ls (.ref (Z.1 o) :: rest)) := x_get C hW (wk1 hk) rfl wsX1_in 1 (by decide) (ml_X2_19) rfl (v := .ref (Z.1 18)) rfl hd kk
theorem ml_X10_183 : Cond.fieldLink RX10 183 RX1 (TX1 1).2.1 (TX1 1).2.2.1 ∈ TW := TW_of 312 (by decide +kernel) (by decide +kernel)
theorem xg_X10_183 (C : CX p s m args meth c cc RX10 nL ret Z) (hW : XW Z h g s.heap H locs) {o : Nat} (hk : knd o = 1) (hd : decode cc pc = .ok (.getfield 183, 3)) (kk : W p l e R s m args below meth c H locs cells slots Q (F0 m (pc + 3) ls (.ref (Z.1 18) :: rest))) : W p l e R s m args below meth c H locs cells slots Q (F0 m pc ls (.ref (Z.1 o) :: rest)) := x_get C hW (wk1 hk) rfl wsX1_in 1 (by decide) (ml_X10_183) rfl (v := .ref (Z.1 18)) rfl hd kk
theorem ml_X1_64 : Cond.fieldLink RX1 64 RX1 (TX1 2).2.1 (TX1 2).2.2.1 ∈ TW := TW_of 313 (by decide +kernel) (by decide +kernel)
theorem xg_X1_64 (C : CX p s m args meth c cc RX1 nL ret Z) (hW : XW Z h g s.heap H locs) {o : Nat} (hk : knd o = 1) (hd : decode cc pc = .ok (.getfield 64, 3)) (kk : W p l e R s m args below meth c H locs cells slots Q (F0 m (pc + 3) ls (.int (h o 2) :: rest))) : W p l e R s m args below meth c H locs cells slots Q (F0 m pc ls (.ref (Z.1 o) :: rest)) := x_get C hW (wk1 hk) rfl wsX1_in 2 (by decide) (ml_X1_64) rfl (v := .int (h o 2)) rfl hd kk
theorem xp_X1_64 (C : CX p s m args meth c cc RX1 nL ret Z) (hW : XW Z h g s.heap H locs) {o : Nat} (hk : knd o = 1) {v : Int32} {α : Type} {K : Hp → Option α} {out : α} (hf : stp (up h o 2 v) K = some out) (hd : decode cc pc = .ok (.putfield 64, 3)) (kk : ∀ (h1 : Hp) (H1 : Heap) (locs1 : List Loc), K h1 = some out → XW Z h1 g s.heap H1 locs1 → W p l e R s m args below meth c H1 locs1 cells slots Q (F0 m (pc + 3) ls rest)) : W p l e R s m args below meth c H locs cells slots Q (F0 m pc ls (.int v :: .ref (Z.1 o) :: rest)) := by
  have hs : (wl Z h g).set o (Z.1 o, .inr (1, ([.ref (Z.1 (ix (h o 0))), .ref (Z.1 18), .int (h o 2), .ref (Z.1 4), .ref (Z.1 5), .ref (Z.1 6), .ref (Z.1 7), .ref (Z.1 8), .int (h o 8), .ref (Z.1 9), .ref (Z.1 10), .int (h o 11), .ref (Z.1 11), .int (h o 13), .int (h o 14), .ref (Z.1 12)]).set 2 (.int v))) = wl Z (up h o 2 v) g := by
    have h1 := k_lt hk (by decide)
    refine wl_set h1 ?_ mx_upl
    rw [mx_l (kl_C o h1 (by omega)), up_eq]
    rw [cel_k hk]
    rfl
  exact x_put C hW (wk1 hk) rfl wsX1_in tyX1 tyX1_ok nmX1 2 (by decide) (ml_X1_64) rfl rfl (ty := .int) (by decide +kernel) (rfl) (rfl) (Nat.le_of_ble_eq_true rfl) hs hd (fun H1 locs1 q => kk _ H1 locs1 hf q)
theorem ml_X10_226 : Cond.fieldLink RX10 226 RX1 (TX1 2).2.1 (TX1 2).2.2.1 ∈ TW := TW_of 314 (by decide +kernel) (by decide +kernel)
theorem xg_X10_226 (C : CX p s m args meth c cc RX10 nL ret Z) (hW : XW Z h g s.heap H locs) {o : Nat} (hk : knd o = 1) (hd : decode cc pc = .ok (.getfield 226, 3)) (kk : W p l e R s m args below meth c H locs cells slots Q (F0 m (pc + 3) ls (.int (h o 2) :: rest))) : W p l e R s m args below meth c H locs cells slots Q (F0 m pc ls (.ref (Z.1 o) :: rest)) := x_get C hW (wk1 hk) rfl wsX1_in 2 (by decide) (ml_X10_226) rfl (v := .int (h o 2)) rfl hd kk
theorem xp_X10_226 (C : CX p s m args meth c cc RX10 nL ret Z) (hW : XW Z h g s.heap H locs) {o : Nat} (hk : knd o = 1) {v : Int32} {α : Type} {K : Hp → Option α} {out : α} (hf : stp (up h o 2 v) K = some out) (hd : decode cc pc = .ok (.putfield 226, 3)) (kk : ∀ (h1 : Hp) (H1 : Heap) (locs1 : List Loc), K h1 = some out → XW Z h1 g s.heap H1 locs1 → W p l e R s m args below meth c H1 locs1 cells slots Q (F0 m (pc + 3) ls rest)) : W p l e R s m args below meth c H locs cells slots Q (F0 m pc ls (.int v :: .ref (Z.1 o) :: rest)) := by
  have hs : (wl Z h g).set o (Z.1 o, .inr (1, ([.ref (Z.1 (ix (h o 0))), .ref (Z.1 18), .int (h o 2), .ref (Z.1 4), .ref (Z.1 5), .ref (Z.1 6), .ref (Z.1 7), .ref (Z.1 8), .int (h o 8), .ref (Z.1 9), .ref (Z.1 10), .int (h o 11), .ref (Z.1 11), .int (h o 13), .int (h o 14), .ref (Z.1 12)]).set 2 (.int v))) = wl Z (up h o 2 v) g := by
    have h1 := k_lt hk (by decide)
    refine wl_set h1 ?_ mx_upl
    rw [mx_l (kl_C o h1 (by omega)), up_eq]
    rw [cel_k hk]
    rfl
  exact x_put C hW (wk1 hk) rfl wsX1_in tyX1 tyX1_ok nmX1 2 (by decide) (ml_X10_226) rfl rfl (ty := .int) (by decide +kernel) (rfl) (rfl) (Nat.le_of_ble_eq_true rfl) hs hd (fun H1 locs1 q => kk _ H1 locs1 hf q)
theorem ml_X1_25 : Cond.fieldLink RX1 25 RX1 (TX1 3).2.1 (TX1 3).2.2.1 ∈ TW := TW_of 315 (by decide +kernel) (by decide +kernel)
theorem xg_X1_25 (C : CX p s m args meth c cc RX1 nL ret Z) (hW : XW Z h g s.heap H locs) {o : Nat} (hk : knd o = 1) (hd : decode cc pc = .ok (.getfield 25, 3)) (kk : W p l e R s m args below meth c H locs cells slots Q (F0 m (pc + 3) ls (.ref (Z.1 4) :: rest))) : W p l e R s m args below meth c H locs cells slots Q (F0 m pc ls (.ref (Z.1 o) :: rest)) := x_get C hW (wk1 hk) rfl wsX1_in 3 (by decide) (ml_X1_25) rfl (v := .ref (Z.1 4)) rfl hd kk
theorem ml_X2_63 : Cond.fieldLink RX2 63 RX1 (TX1 3).2.1 (TX1 3).2.2.1 ∈ TW := TW_of 316 (by decide +kernel) (by decide +kernel)
theorem xg_X2_63 (C : CX p s m args meth c cc RX2 nL ret Z) (hW : XW Z h g s.heap H locs) {o : Nat} (hk : knd o = 1) (hd : decode cc pc = .ok (.getfield 63, 3)) (kk : W p l e R s m args below meth c H locs cells slots Q (F0 m (pc + 3) ls (.ref (Z.1 4) :: rest))) : W p l e R s m args below meth c H locs cells slots Q (F0 m pc ls (.ref (Z.1 o) :: rest)) := x_get C hW (wk1 hk) rfl wsX1_in 3 (by decide) (ml_X2_63) rfl (v := .ref (Z.1 4)) rfl hd kk
theorem ml_X10_217 : Cond.fieldLink RX10 217 RX1 (TX1 3).2.1 (TX1 3).2.2.1 ∈ TW := TW_of 317 (by decide +kernel) (by decide +kernel)
theorem xg_X10_217 (C : CX p s m args meth c cc RX10 nL ret Z) (hW : XW Z h g s.heap H locs) {o : Nat} (hk : knd o = 1) (hd : decode cc pc = .ok (.getfield 217, 3)) (kk : W p l e R s m args below meth c H locs cells slots Q (F0 m (pc + 3) ls (.ref (Z.1 4) :: rest))) : W p l e R s m args below meth c H locs cells slots Q (F0 m pc ls (.ref (Z.1 o) :: rest)) := x_get C hW (wk1 hk) rfl wsX1_in 3 (by decide) (ml_X10_217) rfl (v := .ref (Z.1 4)) rfl hd kk
theorem ml_X1_29 : Cond.fieldLink RX1 29 RX1 (TX1 4).2.1 (TX1 4).2.2.1 ∈ TW := TW_of 318 (by decide +kernel) (by decide +kernel)
theorem xg_X1_29 (C : CX p s m args meth c cc RX1 nL ret Z) (hW : XW Z h g s.heap H locs) {o : Nat} (hk : knd o = 1) (hd : decode cc pc = .ok (.getfield 29, 3)) (kk : W p l e R s m args below meth c H locs cells slots Q (F0 m (pc + 3) ls (.ref (Z.1 5) :: rest))) : W p l e R s m args below meth c H locs cells slots Q (F0 m pc ls (.ref (Z.1 o) :: rest)) := x_get C hW (wk1 hk) rfl wsX1_in 4 (by decide) (ml_X1_29) rfl (v := .ref (Z.1 5)) rfl hd kk
theorem ml_X2_68 : Cond.fieldLink RX2 68 RX1 (TX1 4).2.1 (TX1 4).2.2.1 ∈ TW := TW_of 319 (by decide +kernel) (by decide +kernel)
theorem xg_X2_68 (C : CX p s m args meth c cc RX2 nL ret Z) (hW : XW Z h g s.heap H locs) {o : Nat} (hk : knd o = 1) (hd : decode cc pc = .ok (.getfield 68, 3)) (kk : W p l e R s m args below meth c H locs cells slots Q (F0 m (pc + 3) ls (.ref (Z.1 5) :: rest))) : W p l e R s m args below meth c H locs cells slots Q (F0 m pc ls (.ref (Z.1 o) :: rest)) := x_get C hW (wk1 hk) rfl wsX1_in 4 (by decide) (ml_X2_68) rfl (v := .ref (Z.1 5)) rfl hd kk
theorem ml_X10_220 : Cond.fieldLink RX10 220 RX1 (TX1 4).2.1 (TX1 4).2.2.1 ∈ TW := TW_of 320 (by decide +kernel) (by decide +kernel)
theorem xg_X10_220 (C : CX p s m args meth c cc RX10 nL ret Z) (hW : XW Z h g s.heap H locs) {o : Nat} (hk : knd o = 1) (hd : decode cc pc = .ok (.getfield 220, 3)) (kk : W p l e R s m args below meth c H locs cells slots Q (F0 m (pc + 3) ls (.ref (Z.1 5) :: rest))) : W p l e R s m args below meth c H locs cells slots Q (F0 m pc ls (.ref (Z.1 o) :: rest)) := x_get C hW (wk1 hk) rfl wsX1_in 4 (by decide) (ml_X10_220) rfl (v := .ref (Z.1 5)) rfl hd kk
theorem ml_X1_32 : Cond.fieldLink RX1 32 RX1 (TX1 5).2.1 (TX1 5).2.2.1 ∈ TW := TW_of 321 (by decide +kernel) (by decide +kernel)
theorem xg_X1_32 (C : CX p s m args meth c cc RX1 nL ret Z) (hW : XW Z h g s.heap H locs) {o : Nat} (hk : knd o = 1) (hd : decode cc pc = .ok (.getfield 32, 3)) (kk : W p l e R s m args below meth c H locs cells slots Q (F0 m (pc + 3) ls (.ref (Z.1 6) :: rest))) : W p l e R s m args below meth c H locs cells slots Q (F0 m pc ls (.ref (Z.1 o) :: rest)) := x_get C hW (wk1 hk) rfl wsX1_in 5 (by decide) (ml_X1_32) rfl (v := .ref (Z.1 6)) rfl hd kk
theorem ml_X10_223 : Cond.fieldLink RX10 223 RX1 (TX1 5).2.1 (TX1 5).2.2.1 ∈ TW := TW_of 322 (by decide +kernel) (by decide +kernel)
theorem xg_X10_223 (C : CX p s m args meth c cc RX10 nL ret Z) (hW : XW Z h g s.heap H locs) {o : Nat} (hk : knd o = 1) (hd : decode cc pc = .ok (.getfield 223, 3)) (kk : W p l e R s m args below meth c H locs cells slots Q (F0 m (pc + 3) ls (.ref (Z.1 6) :: rest))) : W p l e R s m args below meth c H locs cells slots Q (F0 m pc ls (.ref (Z.1 o) :: rest)) := x_get C hW (wk1 hk) rfl wsX1_in 5 (by decide) (ml_X10_223) rfl (v := .ref (Z.1 6)) rfl hd kk
theorem ml_X1_35 : Cond.fieldLink RX1 35 RX1 (TX1 6).2.1 (TX1 6).2.2.1 ∈ TW := TW_of 323 (by decide +kernel) (by decide +kernel)
theorem xg_X1_35 (C : CX p s m args meth c cc RX1 nL ret Z) (hW : XW Z h g s.heap H locs) {o : Nat} (hk : knd o = 1) (hd : decode cc pc = .ok (.getfield 35, 3)) (kk : W p l e R s m args below meth c H locs cells slots Q (F0 m (pc + 3) ls (.ref (Z.1 7) :: rest))) : W p l e R s m args below meth c H locs cells slots Q (F0 m pc ls (.ref (Z.1 o) :: rest)) := x_get C hW (wk1 hk) rfl wsX1_in 6 (by decide) (ml_X1_35) rfl (v := .ref (Z.1 7)) rfl hd kk
theorem ml_X2_30 : Cond.fieldLink RX2 30 RX1 (TX1 6).2.1 (TX1 6).2.2.1 ∈ TW := TW_of 324 (by decide +kernel) (by decide +kernel)
theorem xg_X2_30 (C : CX p s m args meth c cc RX2 nL ret Z) (hW : XW Z h g s.heap H locs) {o : Nat} (hk : knd o = 1) (hd : decode cc pc = .ok (.getfield 30, 3)) (kk : W p l e R s m args below meth c H locs cells slots Q (F0 m (pc + 3) ls (.ref (Z.1 7) :: rest))) : W p l e R s m args below meth c H locs cells slots Q (F0 m pc ls (.ref (Z.1 o) :: rest)) := x_get C hW (wk1 hk) rfl wsX1_in 6 (by decide) (ml_X2_30) rfl (v := .ref (Z.1 7)) rfl hd kk
theorem ml_X1_38 : Cond.fieldLink RX1 38 RX1 (TX1 7).2.1 (TX1 7).2.2.1 ∈ TW := TW_of 325 (by decide +kernel) (by decide +kernel)
theorem xg_X1_38 (C : CX p s m args meth c cc RX1 nL ret Z) (hW : XW Z h g s.heap H locs) {o : Nat} (hk : knd o = 1) (hd : decode cc pc = .ok (.getfield 38, 3)) (kk : W p l e R s m args below meth c H locs cells slots Q (F0 m (pc + 3) ls (.ref (Z.1 8) :: rest))) : W p l e R s m args below meth c H locs cells slots Q (F0 m pc ls (.ref (Z.1 o) :: rest)) := x_get C hW (wk1 hk) rfl wsX1_in 7 (by decide) (ml_X1_38) rfl (v := .ref (Z.1 8)) rfl hd kk
theorem ml_X10_195 : Cond.fieldLink RX10 195 RX1 (TX1 7).2.1 (TX1 7).2.2.1 ∈ TW := TW_of 326 (by decide +kernel) (by decide +kernel)
theorem xg_X10_195 (C : CX p s m args meth c cc RX10 nL ret Z) (hW : XW Z h g s.heap H locs) {o : Nat} (hk : knd o = 1) (hd : decode cc pc = .ok (.getfield 195, 3)) (kk : W p l e R s m args below meth c H locs cells slots Q (F0 m (pc + 3) ls (.ref (Z.1 8) :: rest))) : W p l e R s m args below meth c H locs cells slots Q (F0 m pc ls (.ref (Z.1 o) :: rest)) := x_get C hW (wk1 hk) rfl wsX1_in 7 (by decide) (ml_X10_195) rfl (v := .ref (Z.1 8)) rfl hd kk
theorem ml_X1_67 : Cond.fieldLink RX1 67 RX1 (TX1 8).2.1 (TX1 8).2.2.1 ∈ TW := TW_of 327 (by decide +kernel) (by decide +kernel)
theorem xg_X1_67 (C : CX p s m args meth c cc RX1 nL ret Z) (hW : XW Z h g s.heap H locs) {o : Nat} (hk : knd o = 1) (hd : decode cc pc = .ok (.getfield 67, 3)) (kk : W p l e R s m args below meth c H locs cells slots Q (F0 m (pc + 3) ls (.int (h o 8) :: rest))) : W p l e R s m args below meth c H locs cells slots Q (F0 m pc ls (.ref (Z.1 o) :: rest)) := x_get C hW (wk1 hk) rfl wsX1_in 8 (by decide) (ml_X1_67) rfl (v := .int (h o 8)) rfl hd kk
theorem xp_X1_67 (C : CX p s m args meth c cc RX1 nL ret Z) (hW : XW Z h g s.heap H locs) {o : Nat} (hk : knd o = 1) {v : Int32} {α : Type} {K : Hp → Option α} {out : α} (hf : stp (up h o 8 v) K = some out) (hd : decode cc pc = .ok (.putfield 67, 3)) (kk : ∀ (h1 : Hp) (H1 : Heap) (locs1 : List Loc), K h1 = some out → XW Z h1 g s.heap H1 locs1 → W p l e R s m args below meth c H1 locs1 cells slots Q (F0 m (pc + 3) ls rest)) : W p l e R s m args below meth c H locs cells slots Q (F0 m pc ls (.int v :: .ref (Z.1 o) :: rest)) := by
  have hs : (wl Z h g).set o (Z.1 o, .inr (1, ([.ref (Z.1 (ix (h o 0))), .ref (Z.1 18), .int (h o 2), .ref (Z.1 4), .ref (Z.1 5), .ref (Z.1 6), .ref (Z.1 7), .ref (Z.1 8), .int (h o 8), .ref (Z.1 9), .ref (Z.1 10), .int (h o 11), .ref (Z.1 11), .int (h o 13), .int (h o 14), .ref (Z.1 12)]).set 8 (.int v))) = wl Z (up h o 8 v) g := by
    have h1 := k_lt hk (by decide)
    refine wl_set h1 ?_ mx_upl
    rw [mx_l (kl_C o h1 (by omega)), up_eq]
    rw [cel_k hk]
    rfl
  exact x_put C hW (wk1 hk) rfl wsX1_in tyX1 tyX1_ok nmX1 8 (by decide) (ml_X1_67) rfl rfl (ty := .int) (by decide +kernel) (rfl) (rfl) (Nat.le_of_ble_eq_true rfl) hs hd (fun H1 locs1 q => kk _ H1 locs1 hf q)
theorem ml_X10_257 : Cond.fieldLink RX10 257 RX1 (TX1 8).2.1 (TX1 8).2.2.1 ∈ TW := TW_of 328 (by decide +kernel) (by decide +kernel)
theorem xg_X10_257 (C : CX p s m args meth c cc RX10 nL ret Z) (hW : XW Z h g s.heap H locs) {o : Nat} (hk : knd o = 1) (hd : decode cc pc = .ok (.getfield 257, 3)) (kk : W p l e R s m args below meth c H locs cells slots Q (F0 m (pc + 3) ls (.int (h o 8) :: rest))) : W p l e R s m args below meth c H locs cells slots Q (F0 m pc ls (.ref (Z.1 o) :: rest)) := x_get C hW (wk1 hk) rfl wsX1_in 8 (by decide) (ml_X10_257) rfl (v := .int (h o 8)) rfl hd kk
theorem xp_X10_257 (C : CX p s m args meth c cc RX10 nL ret Z) (hW : XW Z h g s.heap H locs) {o : Nat} (hk : knd o = 1) {v : Int32} {α : Type} {K : Hp → Option α} {out : α} (hf : stp (up h o 8 v) K = some out) (hd : decode cc pc = .ok (.putfield 257, 3)) (kk : ∀ (h1 : Hp) (H1 : Heap) (locs1 : List Loc), K h1 = some out → XW Z h1 g s.heap H1 locs1 → W p l e R s m args below meth c H1 locs1 cells slots Q (F0 m (pc + 3) ls rest)) : W p l e R s m args below meth c H locs cells slots Q (F0 m pc ls (.int v :: .ref (Z.1 o) :: rest)) := by
  have hs : (wl Z h g).set o (Z.1 o, .inr (1, ([.ref (Z.1 (ix (h o 0))), .ref (Z.1 18), .int (h o 2), .ref (Z.1 4), .ref (Z.1 5), .ref (Z.1 6), .ref (Z.1 7), .ref (Z.1 8), .int (h o 8), .ref (Z.1 9), .ref (Z.1 10), .int (h o 11), .ref (Z.1 11), .int (h o 13), .int (h o 14), .ref (Z.1 12)]).set 8 (.int v))) = wl Z (up h o 8 v) g := by
    have h1 := k_lt hk (by decide)
    refine wl_set h1 ?_ mx_upl
    rw [mx_l (kl_C o h1 (by omega)), up_eq]
    rw [cel_k hk]
    rfl
  exact x_put C hW (wk1 hk) rfl wsX1_in tyX1 tyX1_ok nmX1 8 (by decide) (ml_X10_257) rfl rfl (ty := .int) (by decide +kernel) (rfl) (rfl) (Nat.le_of_ble_eq_true rfl) hs hd (fun H1 locs1 q => kk _ H1 locs1 hf q)
theorem ml_X1_41 : Cond.fieldLink RX1 41 RX1 (TX1 9).2.1 (TX1 9).2.2.1 ∈ TW := TW_of 329 (by decide +kernel) (by decide +kernel)
theorem xg_X1_41 (C : CX p s m args meth c cc RX1 nL ret Z) (hW : XW Z h g s.heap H locs) {o : Nat} (hk : knd o = 1) (hd : decode cc pc = .ok (.getfield 41, 3)) (kk : W p l e R s m args below meth c H locs cells slots Q (F0 m (pc + 3) ls (.ref (Z.1 9) :: rest))) : W p l e R s m args below meth c H locs cells slots Q (F0 m pc ls (.ref (Z.1 o) :: rest)) := x_get C hW (wk1 hk) rfl wsX1_in 9 (by decide) (ml_X1_41) rfl (v := .ref (Z.1 9)) rfl hd kk
theorem ml_X2_51 : Cond.fieldLink RX2 51 RX1 (TX1 9).2.1 (TX1 9).2.2.1 ∈ TW := TW_of 330 (by decide +kernel) (by decide +kernel)
theorem xg_X2_51 (C : CX p s m args meth c cc RX2 nL ret Z) (hW : XW Z h g s.heap H locs) {o : Nat} (hk : knd o = 1) (hd : decode cc pc = .ok (.getfield 51, 3)) (kk : W p l e R s m args below meth c H locs cells slots Q (F0 m (pc + 3) ls (.ref (Z.1 9) :: rest))) : W p l e R s m args below meth c H locs cells slots Q (F0 m pc ls (.ref (Z.1 o) :: rest)) := x_get C hW (wk1 hk) rfl wsX1_in 9 (by decide) (ml_X2_51) rfl (v := .ref (Z.1 9)) rfl hd kk
theorem ml_X10_260 : Cond.fieldLink RX10 260 RX1 (TX1 9).2.1 (TX1 9).2.2.1 ∈ TW := TW_of 331 (by decide +kernel) (by decide +kernel)
theorem xg_X10_260 (C : CX p s m args meth c cc RX10 nL ret Z) (hW : XW Z h g s.heap H locs) {o : Nat} (hk : knd o = 1) (hd : decode cc pc = .ok (.getfield 260, 3)) (kk : W p l e R s m args below meth c H locs cells slots Q (F0 m (pc + 3) ls (.ref (Z.1 9) :: rest))) : W p l e R s m args below meth c H locs cells slots Q (F0 m pc ls (.ref (Z.1 o) :: rest)) := x_get C hW (wk1 hk) rfl wsX1_in 9 (by decide) (ml_X10_260) rfl (v := .ref (Z.1 9)) rfl hd kk
theorem ml_X1_44 : Cond.fieldLink RX1 44 RX1 (TX1 10).2.1 (TX1 10).2.2.1 ∈ TW := TW_of 332 (by decide +kernel) (by decide +kernel)
theorem xg_X1_44 (C : CX p s m args meth c cc RX1 nL ret Z) (hW : XW Z h g s.heap H locs) {o : Nat} (hk : knd o = 1) (hd : decode cc pc = .ok (.getfield 44, 3)) (kk : W p l e R s m args below meth c H locs cells slots Q (F0 m (pc + 3) ls (.ref (Z.1 10) :: rest))) : W p l e R s m args below meth c H locs cells slots Q (F0 m pc ls (.ref (Z.1 o) :: rest)) := x_get C hW (wk1 hk) rfl wsX1_in 10 (by decide) (ml_X1_44) rfl (v := .ref (Z.1 10)) rfl hd kk
theorem ml_X10_263 : Cond.fieldLink RX10 263 RX1 (TX1 10).2.1 (TX1 10).2.2.1 ∈ TW := TW_of 333 (by decide +kernel) (by decide +kernel)
theorem xg_X10_263 (C : CX p s m args meth c cc RX10 nL ret Z) (hW : XW Z h g s.heap H locs) {o : Nat} (hk : knd o = 1) (hd : decode cc pc = .ok (.getfield 263, 3)) (kk : W p l e R s m args below meth c H locs cells slots Q (F0 m (pc + 3) ls (.ref (Z.1 10) :: rest))) : W p l e R s m args below meth c H locs cells slots Q (F0 m pc ls (.ref (Z.1 o) :: rest)) := x_get C hW (wk1 hk) rfl wsX1_in 10 (by decide) (ml_X10_263) rfl (v := .ref (Z.1 10)) rfl hd kk
theorem ml_X1_106 : Cond.fieldLink RX1 106 RX1 (TX1 11).2.1 (TX1 11).2.2.1 ∈ TW := TW_of 334 (by decide +kernel) (by decide +kernel)
theorem xg_X1_106 (C : CX p s m args meth c cc RX1 nL ret Z) (hW : XW Z h g s.heap H locs) {o : Nat} (hk : knd o = 1) (hd : decode cc pc = .ok (.getfield 106, 3)) (kk : W p l e R s m args below meth c H locs cells slots Q (F0 m (pc + 3) ls (.int (h o 11) :: rest))) : W p l e R s m args below meth c H locs cells slots Q (F0 m pc ls (.ref (Z.1 o) :: rest)) := x_get C hW (wk1 hk) rfl wsX1_in 11 (by decide) (ml_X1_106) rfl (v := .int (h o 11)) rfl hd kk
theorem xp_X1_106 (C : CX p s m args meth c cc RX1 nL ret Z) (hW : XW Z h g s.heap H locs) {o : Nat} (hk : knd o = 1) {v : Int32} {α : Type} {K : Hp → Option α} {out : α} (hf : stp (up h o 11 v) K = some out) (hd : decode cc pc = .ok (.putfield 106, 3)) (kk : ∀ (h1 : Hp) (H1 : Heap) (locs1 : List Loc), K h1 = some out → XW Z h1 g s.heap H1 locs1 → W p l e R s m args below meth c H1 locs1 cells slots Q (F0 m (pc + 3) ls rest)) : W p l e R s m args below meth c H locs cells slots Q (F0 m pc ls (.int v :: .ref (Z.1 o) :: rest)) := by
  have hs : (wl Z h g).set o (Z.1 o, .inr (1, ([.ref (Z.1 (ix (h o 0))), .ref (Z.1 18), .int (h o 2), .ref (Z.1 4), .ref (Z.1 5), .ref (Z.1 6), .ref (Z.1 7), .ref (Z.1 8), .int (h o 8), .ref (Z.1 9), .ref (Z.1 10), .int (h o 11), .ref (Z.1 11), .int (h o 13), .int (h o 14), .ref (Z.1 12)]).set 11 (.int v))) = wl Z (up h o 11 v) g := by
    have h1 := k_lt hk (by decide)
    refine wl_set h1 ?_ mx_upl
    rw [mx_l (kl_C o h1 (by omega)), up_eq]
    rw [cel_k hk]
    rfl
  exact x_put C hW (wk1 hk) rfl wsX1_in tyX1 tyX1_ok nmX1 11 (by decide) (ml_X1_106) rfl rfl (ty := .int) (by decide +kernel) (rfl) (rfl) (Nat.le_of_ble_eq_true rfl) hs hd (fun H1 locs1 q => kk _ H1 locs1 hf q)
theorem ml_X10_229 : Cond.fieldLink RX10 229 RX1 (TX1 11).2.1 (TX1 11).2.2.1 ∈ TW := TW_of 335 (by decide +kernel) (by decide +kernel)
theorem xg_X10_229 (C : CX p s m args meth c cc RX10 nL ret Z) (hW : XW Z h g s.heap H locs) {o : Nat} (hk : knd o = 1) (hd : decode cc pc = .ok (.getfield 229, 3)) (kk : W p l e R s m args below meth c H locs cells slots Q (F0 m (pc + 3) ls (.int (h o 11) :: rest))) : W p l e R s m args below meth c H locs cells slots Q (F0 m pc ls (.ref (Z.1 o) :: rest)) := x_get C hW (wk1 hk) rfl wsX1_in 11 (by decide) (ml_X10_229) rfl (v := .int (h o 11)) rfl hd kk
theorem xp_X10_229 (C : CX p s m args meth c cc RX10 nL ret Z) (hW : XW Z h g s.heap H locs) {o : Nat} (hk : knd o = 1) {v : Int32} {α : Type} {K : Hp → Option α} {out : α} (hf : stp (up h o 11 v) K = some out) (hd : decode cc pc = .ok (.putfield 229, 3)) (kk : ∀ (h1 : Hp) (H1 : Heap) (locs1 : List Loc), K h1 = some out → XW Z h1 g s.heap H1 locs1 → W p l e R s m args below meth c H1 locs1 cells slots Q (F0 m (pc + 3) ls rest)) : W p l e R s m args below meth c H locs cells slots Q (F0 m pc ls (.int v :: .ref (Z.1 o) :: rest)) := by
  have hs : (wl Z h g).set o (Z.1 o, .inr (1, ([.ref (Z.1 (ix (h o 0))), .ref (Z.1 18), .int (h o 2), .ref (Z.1 4), .ref (Z.1 5), .ref (Z.1 6), .ref (Z.1 7), .ref (Z.1 8), .int (h o 8), .ref (Z.1 9), .ref (Z.1 10), .int (h o 11), .ref (Z.1 11), .int (h o 13), .int (h o 14), .ref (Z.1 12)]).set 11 (.int v))) = wl Z (up h o 11 v) g := by
    have h1 := k_lt hk (by decide)
    refine wl_set h1 ?_ mx_upl
    rw [mx_l (kl_C o h1 (by omega)), up_eq]
    rw [cel_k hk]
    rfl
  exact x_put C hW (wk1 hk) rfl wsX1_in tyX1 tyX1_ok nmX1 11 (by decide) (ml_X10_229) rfl rfl (ty := .int) (by decide +kernel) (rfl) (rfl) (Nat.le_of_ble_eq_true rfl) hs hd (fun H1 locs1 q => kk _ H1 locs1 hf q)
theorem ml_X1_47 : Cond.fieldLink RX1 47 RX1 (TX1 12).2.1 (TX1 12).2.2.1 ∈ TW := TW_of 336 (by decide +kernel) (by decide +kernel)
theorem xg_X1_47 (C : CX p s m args meth c cc RX1 nL ret Z) (hW : XW Z h g s.heap H locs) {o : Nat} (hk : knd o = 1) (hd : decode cc pc = .ok (.getfield 47, 3)) (kk : W p l e R s m args below meth c H locs cells slots Q (F0 m (pc + 3) ls (.ref (Z.1 11) :: rest))) : W p l e R s m args below meth c H locs cells slots Q (F0 m pc ls (.ref (Z.1 o) :: rest)) := x_get C hW (wk1 hk) rfl wsX1_in 12 (by decide) (ml_X1_47) rfl (v := .ref (Z.1 11)) rfl hd kk
theorem ml_X10_232 : Cond.fieldLink RX10 232 RX1 (TX1 12).2.1 (TX1 12).2.2.1 ∈ TW := TW_of 337 (by decide +kernel) (by decide +kernel)
theorem xg_X10_232 (C : CX p s m args meth c cc RX10 nL ret Z) (hW : XW Z h g s.heap H locs) {o : Nat} (hk : knd o = 1) (hd : decode cc pc = .ok (.getfield 232, 3)) (kk : W p l e R s m args below meth c H locs cells slots Q (F0 m (pc + 3) ls (.ref (Z.1 11) :: rest))) : W p l e R s m args below meth c H locs cells slots Q (F0 m pc ls (.ref (Z.1 o) :: rest)) := x_get C hW (wk1 hk) rfl wsX1_in 12 (by decide) (ml_X10_232) rfl (v := .ref (Z.1 11)) rfl hd kk
theorem ml_X1_109 : Cond.fieldLink RX1 109 RX1 (TX1 13).2.1 (TX1 13).2.2.1 ∈ TW := TW_of 338 (by decide +kernel) (by decide +kernel)
theorem xg_X1_109 (C : CX p s m args meth c cc RX1 nL ret Z) (hW : XW Z h g s.heap H locs) {o : Nat} (hk : knd o = 1) (hd : decode cc pc = .ok (.getfield 109, 3)) (kk : W p l e R s m args below meth c H locs cells slots Q (F0 m (pc + 3) ls (.int (h o 13) :: rest))) : W p l e R s m args below meth c H locs cells slots Q (F0 m pc ls (.ref (Z.1 o) :: rest)) := x_get C hW (wk1 hk) rfl wsX1_in 13 (by decide) (ml_X1_109) rfl (v := .int (h o 13)) rfl hd kk
theorem xp_X1_109 (C : CX p s m args meth c cc RX1 nL ret Z) (hW : XW Z h g s.heap H locs) {o : Nat} (hk : knd o = 1) {v : Int32} {α : Type} {K : Hp → Option α} {out : α} (hf : stp (up h o 13 v) K = some out) (hd : decode cc pc = .ok (.putfield 109, 3)) (kk : ∀ (h1 : Hp) (H1 : Heap) (locs1 : List Loc), K h1 = some out → XW Z h1 g s.heap H1 locs1 → W p l e R s m args below meth c H1 locs1 cells slots Q (F0 m (pc + 3) ls rest)) : W p l e R s m args below meth c H locs cells slots Q (F0 m pc ls (.int v :: .ref (Z.1 o) :: rest)) := by
  have hs : (wl Z h g).set o (Z.1 o, .inr (1, ([.ref (Z.1 (ix (h o 0))), .ref (Z.1 18), .int (h o 2), .ref (Z.1 4), .ref (Z.1 5), .ref (Z.1 6), .ref (Z.1 7), .ref (Z.1 8), .int (h o 8), .ref (Z.1 9), .ref (Z.1 10), .int (h o 11), .ref (Z.1 11), .int (h o 13), .int (h o 14), .ref (Z.1 12)]).set 13 (.int v))) = wl Z (up h o 13 v) g := by
    have h1 := k_lt hk (by decide)
    refine wl_set h1 ?_ mx_upl
    rw [mx_l (kl_C o h1 (by omega)), up_eq]
    rw [cel_k hk]
    rfl
  exact x_put C hW (wk1 hk) rfl wsX1_in tyX1 tyX1_ok nmX1 13 (by decide) (ml_X1_109) rfl rfl (ty := .int) (by decide +kernel) (rfl) (rfl) (Nat.le_of_ble_eq_true rfl) hs hd (fun H1 locs1 q => kk _ H1 locs1 hf q)
theorem ml_X10_248 : Cond.fieldLink RX10 248 RX1 (TX1 13).2.1 (TX1 13).2.2.1 ∈ TW := TW_of 339 (by decide +kernel) (by decide +kernel)
theorem xg_X10_248 (C : CX p s m args meth c cc RX10 nL ret Z) (hW : XW Z h g s.heap H locs) {o : Nat} (hk : knd o = 1) (hd : decode cc pc = .ok (.getfield 248, 3)) (kk : W p l e R s m args below meth c H locs cells slots Q (F0 m (pc + 3) ls (.int (h o 13) :: rest))) : W p l e R s m args below meth c H locs cells slots Q (F0 m pc ls (.ref (Z.1 o) :: rest)) := x_get C hW (wk1 hk) rfl wsX1_in 13 (by decide) (ml_X10_248) rfl (v := .int (h o 13)) rfl hd kk
theorem xp_X10_248 (C : CX p s m args meth c cc RX10 nL ret Z) (hW : XW Z h g s.heap H locs) {o : Nat} (hk : knd o = 1) {v : Int32} {α : Type} {K : Hp → Option α} {out : α} (hf : stp (up h o 13 v) K = some out) (hd : decode cc pc = .ok (.putfield 248, 3)) (kk : ∀ (h1 : Hp) (H1 : Heap) (locs1 : List Loc), K h1 = some out → XW Z h1 g s.heap H1 locs1 → W p l e R s m args below meth c H1 locs1 cells slots Q (F0 m (pc + 3) ls rest)) : W p l e R s m args below meth c H locs cells slots Q (F0 m pc ls (.int v :: .ref (Z.1 o) :: rest)) := by
  have hs : (wl Z h g).set o (Z.1 o, .inr (1, ([.ref (Z.1 (ix (h o 0))), .ref (Z.1 18), .int (h o 2), .ref (Z.1 4), .ref (Z.1 5), .ref (Z.1 6), .ref (Z.1 7), .ref (Z.1 8), .int (h o 8), .ref (Z.1 9), .ref (Z.1 10), .int (h o 11), .ref (Z.1 11), .int (h o 13), .int (h o 14), .ref (Z.1 12)]).set 13 (.int v))) = wl Z (up h o 13 v) g := by
    have h1 := k_lt hk (by decide)
    refine wl_set h1 ?_ mx_upl
    rw [mx_l (kl_C o h1 (by omega)), up_eq]
    rw [cel_k hk]
    rfl
  exact x_put C hW (wk1 hk) rfl wsX1_in tyX1 tyX1_ok nmX1 13 (by decide) (ml_X10_248) rfl rfl (ty := .int) (by decide +kernel) (rfl) (rfl) (Nat.le_of_ble_eq_true rfl) hs hd (fun H1 locs1 q => kk _ H1 locs1 hf q)
theorem ml_X1_112 : Cond.fieldLink RX1 112 RX1 (TX1 14).2.1 (TX1 14).2.2.1 ∈ TW := TW_of 340 (by decide +kernel) (by decide +kernel)
theorem xg_X1_112 (C : CX p s m args meth c cc RX1 nL ret Z) (hW : XW Z h g s.heap H locs) {o : Nat} (hk : knd o = 1) (hd : decode cc pc = .ok (.getfield 112, 3)) (kk : W p l e R s m args below meth c H locs cells slots Q (F0 m (pc + 3) ls (.int (h o 14) :: rest))) : W p l e R s m args below meth c H locs cells slots Q (F0 m pc ls (.ref (Z.1 o) :: rest)) := x_get C hW (wk1 hk) rfl wsX1_in 14 (by decide) (ml_X1_112) rfl (v := .int (h o 14)) rfl hd kk
theorem xp_X1_112 (C : CX p s m args meth c cc RX1 nL ret Z) (hW : XW Z h g s.heap H locs) {o : Nat} (hk : knd o = 1) {v : Int32} {α : Type} {K : Hp → Option α} {out : α} (hf : stp (up h o 14 v) K = some out) (hd : decode cc pc = .ok (.putfield 112, 3)) (kk : ∀ (h1 : Hp) (H1 : Heap) (locs1 : List Loc), K h1 = some out → XW Z h1 g s.heap H1 locs1 → W p l e R s m args below meth c H1 locs1 cells slots Q (F0 m (pc + 3) ls rest)) : W p l e R s m args below meth c H locs cells slots Q (F0 m pc ls (.int v :: .ref (Z.1 o) :: rest)) := by
  have hs : (wl Z h g).set o (Z.1 o, .inr (1, ([.ref (Z.1 (ix (h o 0))), .ref (Z.1 18), .int (h o 2), .ref (Z.1 4), .ref (Z.1 5), .ref (Z.1 6), .ref (Z.1 7), .ref (Z.1 8), .int (h o 8), .ref (Z.1 9), .ref (Z.1 10), .int (h o 11), .ref (Z.1 11), .int (h o 13), .int (h o 14), .ref (Z.1 12)]).set 14 (.int v))) = wl Z (up h o 14 v) g := by
    have h1 := k_lt hk (by decide)
    refine wl_set h1 ?_ mx_upl
    rw [mx_l (kl_C o h1 (by omega)), up_eq]
    rw [cel_k hk]
    rfl
  exact x_put C hW (wk1 hk) rfl wsX1_in tyX1 tyX1_ok nmX1 14 (by decide) (ml_X1_112) rfl rfl (ty := .int) (by decide +kernel) (rfl) (rfl) (Nat.le_of_ble_eq_true rfl) hs hd (fun H1 locs1 q => kk _ H1 locs1 hf q)
theorem ml_X10_251 : Cond.fieldLink RX10 251 RX1 (TX1 14).2.1 (TX1 14).2.2.1 ∈ TW := TW_of 341 (by decide +kernel) (by decide +kernel)
theorem xg_X10_251 (C : CX p s m args meth c cc RX10 nL ret Z) (hW : XW Z h g s.heap H locs) {o : Nat} (hk : knd o = 1) (hd : decode cc pc = .ok (.getfield 251, 3)) (kk : W p l e R s m args below meth c H locs cells slots Q (F0 m (pc + 3) ls (.int (h o 14) :: rest))) : W p l e R s m args below meth c H locs cells slots Q (F0 m pc ls (.ref (Z.1 o) :: rest)) := x_get C hW (wk1 hk) rfl wsX1_in 14 (by decide) (ml_X10_251) rfl (v := .int (h o 14)) rfl hd kk
theorem xp_X10_251 (C : CX p s m args meth c cc RX10 nL ret Z) (hW : XW Z h g s.heap H locs) {o : Nat} (hk : knd o = 1) {v : Int32} {α : Type} {K : Hp → Option α} {out : α} (hf : stp (up h o 14 v) K = some out) (hd : decode cc pc = .ok (.putfield 251, 3)) (kk : ∀ (h1 : Hp) (H1 : Heap) (locs1 : List Loc), K h1 = some out → XW Z h1 g s.heap H1 locs1 → W p l e R s m args below meth c H1 locs1 cells slots Q (F0 m (pc + 3) ls rest)) : W p l e R s m args below meth c H locs cells slots Q (F0 m pc ls (.int v :: .ref (Z.1 o) :: rest)) := by
  have hs : (wl Z h g).set o (Z.1 o, .inr (1, ([.ref (Z.1 (ix (h o 0))), .ref (Z.1 18), .int (h o 2), .ref (Z.1 4), .ref (Z.1 5), .ref (Z.1 6), .ref (Z.1 7), .ref (Z.1 8), .int (h o 8), .ref (Z.1 9), .ref (Z.1 10), .int (h o 11), .ref (Z.1 11), .int (h o 13), .int (h o 14), .ref (Z.1 12)]).set 14 (.int v))) = wl Z (up h o 14 v) g := by
    have h1 := k_lt hk (by decide)
    refine wl_set h1 ?_ mx_upl
    rw [mx_l (kl_C o h1 (by omega)), up_eq]
    rw [cel_k hk]
    rfl
  exact x_put C hW (wk1 hk) rfl wsX1_in tyX1 tyX1_ok nmX1 14 (by decide) (ml_X10_251) rfl rfl (ty := .int) (by decide +kernel) (rfl) (rfl) (Nat.le_of_ble_eq_true rfl) hs hd (fun H1 locs1 q => kk _ H1 locs1 hf q)
theorem ml_X1_50 : Cond.fieldLink RX1 50 RX1 (TX1 15).2.1 (TX1 15).2.2.1 ∈ TW := TW_of 342 (by decide +kernel) (by decide +kernel)
theorem xg_X1_50 (C : CX p s m args meth c cc RX1 nL ret Z) (hW : XW Z h g s.heap H locs) {o : Nat} (hk : knd o = 1) (hd : decode cc pc = .ok (.getfield 50, 3)) (kk : W p l e R s m args below meth c H locs cells slots Q (F0 m (pc + 3) ls (.ref (Z.1 12) :: rest))) : W p l e R s m args below meth c H locs cells slots Q (F0 m pc ls (.ref (Z.1 o) :: rest)) := x_get C hW (wk1 hk) rfl wsX1_in 15 (by decide) (ml_X1_50) rfl (v := .ref (Z.1 12)) rfl hd kk
theorem ml_X3_11 : Cond.fieldLink RX3 11 RX3 (TX3 0).2.1 (TX3 0).2.2.1 ∈ TW := TW_of 385 (by decide +kernel) (by decide +kernel)
theorem xg_X3_11 (C : CX p s m args meth c cc RX3 nL ret Z) (hW : XW Z h g s.heap H locs) {o : Nat} (hk : knd o = 3) (hd : decode cc pc = .ok (.getfield 11, 3)) (kk : W p l e R s m args below meth c H locs cells slots Q (F0 m (pc + 3) ls (.ref (Z.1 14) :: rest))) : W p l e R s m args below meth c H locs cells slots Q (F0 m pc ls (.ref (Z.1 o) :: rest)) := x_get C hW (wk3 hk) rfl wsX3_in 0 (by decide) (ml_X3_11) rfl (v := .ref (Z.1 14)) rfl hd kk
theorem ml_X3_18 : Cond.fieldLink RX3 18 RX3 (TX3 1).2.1 (TX3 1).2.2.1 ∈ TW := TW_of 386 (by decide +kernel) (by decide +kernel)
theorem xg_X3_18 (C : CX p s m args meth c cc RX3 nL ret Z) (hW : XW Z h g s.heap H locs) {o : Nat} (hk : knd o = 3) (hd : decode cc pc = .ok (.getfield 18, 3)) (kk : W p l e R s m args below meth c H locs cells slots Q (F0 m (pc + 3) ls (.int (h o 1) :: rest))) : W p l e R s m args below meth c H locs cells slots Q (F0 m pc ls (.ref (Z.1 o) :: rest)) := x_get C hW (wk3 hk) rfl wsX3_in 1 (by decide) (ml_X3_18) rfl (v := .int (h o 1)) rfl hd kk
theorem xp_X3_18 (C : CX p s m args meth c cc RX3 nL ret Z) (hW : XW Z h g s.heap H locs) {o : Nat} (hk : knd o = 3) {v : Int32} {α : Type} {K : Hp → Option α} {out : α} (hf : stp (up h o 1 v) K = some out) (hd : decode cc pc = .ok (.putfield 18, 3)) (kk : ∀ (h1 : Hp) (H1 : Heap) (locs1 : List Loc), K h1 = some out → XW Z h1 g s.heap H1 locs1 → W p l e R s m args below meth c H1 locs1 cells slots Q (F0 m (pc + 3) ls rest)) : W p l e R s m args below meth c H locs cells slots Q (F0 m pc ls (.int v :: .ref (Z.1 o) :: rest)) := by
  have hs : (wl Z h g).set o (Z.1 o, .inr (3, ([.ref (Z.1 14), .int (h o 1), .int (h o 2)]).set 1 (.int v))) = wl Z (up h o 1 v) g := by
    have h1 := k_lt hk (by decide)
    refine wl_set h1 ?_ mx_upl
    rw [mx_l (kl_C o h1 (by omega)), up_eq]
    rw [cel_k hk]
    rfl
  exact x_put C hW (wk3 hk) rfl wsX3_in tyX3 tyX3_ok nmX3 1 (by decide) (ml_X3_18) rfl rfl (ty := .int) (by decide +kernel) (rfl) (rfl) (Nat.le_of_ble_eq_true rfl) hs hd (fun H1 locs1 q => kk _ H1 locs1 hf q)
theorem ml_X3_26 : Cond.fieldLink RX3 26 RX3 (TX3 2).2.1 (TX3 2).2.2.1 ∈ TW := TW_of 387 (by decide +kernel) (by decide +kernel)
theorem xg_X3_26 (C : CX p s m args meth c cc RX3 nL ret Z) (hW : XW Z h g s.heap H locs) {o : Nat} (hk : knd o = 3) (hd : decode cc pc = .ok (.getfield 26, 3)) (kk : W p l e R s m args below meth c H locs cells slots Q (F0 m (pc + 3) ls (.int (h o 2) :: rest))) : W p l e R s m args below meth c H locs cells slots Q (F0 m pc ls (.ref (Z.1 o) :: rest)) := x_get C hW (wk3 hk) rfl wsX3_in 2 (by decide) (ml_X3_26) rfl (v := .int (h o 2)) rfl hd kk
theorem xp_X3_26 (C : CX p s m args meth c cc RX3 nL ret Z) (hW : XW Z h g s.heap H locs) {o : Nat} (hk : knd o = 3) {v : Int32} {α : Type} {K : Hp → Option α} {out : α} (hf : stp (up h o 2 v) K = some out) (hd : decode cc pc = .ok (.putfield 26, 3)) (kk : ∀ (h1 : Hp) (H1 : Heap) (locs1 : List Loc), K h1 = some out → XW Z h1 g s.heap H1 locs1 → W p l e R s m args below meth c H1 locs1 cells slots Q (F0 m (pc + 3) ls rest)) : W p l e R s m args below meth c H locs cells slots Q (F0 m pc ls (.int v :: .ref (Z.1 o) :: rest)) := by
  have hs : (wl Z h g).set o (Z.1 o, .inr (3, ([.ref (Z.1 14), .int (h o 1), .int (h o 2)]).set 2 (.int v))) = wl Z (up h o 2 v) g := by
    have h1 := k_lt hk (by decide)
    refine wl_set h1 ?_ mx_upl
    rw [mx_l (kl_C o h1 (by omega)), up_eq]
    rw [cel_k hk]
    rfl
  exact x_put C hW (wk3 hk) rfl wsX3_in tyX3 tyX3_ok nmX3 2 (by decide) (ml_X3_26) rfl rfl (ty := .int) (by decide +kernel) (rfl) (rfl) (Nat.le_of_ble_eq_true rfl) hs hd (fun H1 locs1 q => kk _ H1 locs1 hf q)
theorem ml_X10_83 : Cond.fieldLink RX10 83 RX3 (TX3 2).2.1 (TX3 2).2.2.1 ∈ TW := TW_of 388 (by decide +kernel) (by decide +kernel)
theorem xg_X10_83 (C : CX p s m args meth c cc RX10 nL ret Z) (hW : XW Z h g s.heap H locs) {o : Nat} (hk : knd o = 3) (hd : decode cc pc = .ok (.getfield 83, 3)) (kk : W p l e R s m args below meth c H locs cells slots Q (F0 m (pc + 3) ls (.int (h o 2) :: rest))) : W p l e R s m args below meth c H locs cells slots Q (F0 m pc ls (.ref (Z.1 o) :: rest)) := x_get C hW (wk3 hk) rfl wsX3_in 2 (by decide) (ml_X10_83) rfl (v := .int (h o 2)) rfl hd kk
theorem xp_X10_83 (C : CX p s m args meth c cc RX10 nL ret Z) (hW : XW Z h g s.heap H locs) {o : Nat} (hk : knd o = 3) {v : Int32} {α : Type} {K : Hp → Option α} {out : α} (hf : stp (up h o 2 v) K = some out) (hd : decode cc pc = .ok (.putfield 83, 3)) (kk : ∀ (h1 : Hp) (H1 : Heap) (locs1 : List Loc), K h1 = some out → XW Z h1 g s.heap H1 locs1 → W p l e R s m args below meth c H1 locs1 cells slots Q (F0 m (pc + 3) ls rest)) : W p l e R s m args below meth c H locs cells slots Q (F0 m pc ls (.int v :: .ref (Z.1 o) :: rest)) := by
  have hs : (wl Z h g).set o (Z.1 o, .inr (3, ([.ref (Z.1 14), .int (h o 1), .int (h o 2)]).set 2 (.int v))) = wl Z (up h o 2 v) g := by
    have h1 := k_lt hk (by decide)
    refine wl_set h1 ?_ mx_upl
    rw [mx_l (kl_C o h1 (by omega)), up_eq]
    rw [cel_k hk]
    rfl
  exact x_put C hW (wk3 hk) rfl wsX3_in tyX3 tyX3_ok nmX3 2 (by decide) (ml_X10_83) rfl rfl (ty := .int) (by decide +kernel) (rfl) (rfl) (Nat.le_of_ble_eq_true rfl) hs hd (fun H1 locs1 q => kk _ H1 locs1 hf q)
theorem ml_X7_9 : Cond.fieldLink RX7 9 RX6 (TX6 0).2.1 (TX6 0).2.2.1 ∈ TW := TW_of 408 (by decide +kernel) (by decide +kernel)
theorem xg_X7_9 (C : CX p s m args meth c cc RX7 nL ret Z) (hW : XW Z h g s.heap H locs) {o : Nat} (hk : knd o = 6) (hd : decode cc pc = .ok (.getfield 9, 3)) (kk : W p l e R s m args below meth c H locs cells slots Q (F0 m (pc + 3) ls (.int (h o 0) :: rest))) : W p l e R s m args below meth c H locs cells slots Q (F0 m pc ls (.ref (Z.1 o) :: rest)) := x_get C hW (wk6 hk) rfl wsX6_in 0 (by decide) (ml_X7_9) rfl (v := .int (h o 0)) rfl hd kk
theorem xp_X7_9 (C : CX p s m args meth c cc RX7 nL ret Z) (hW : XW Z h g s.heap H locs) {o : Nat} (hk : knd o = 6) {v : Int32} {α : Type} {K : Hp → Option α} {out : α} (hf : stp (up h o 0 v) K = some out) (hd : decode cc pc = .ok (.putfield 9, 3)) (kk : ∀ (h1 : Hp) (H1 : Heap) (locs1 : List Loc), K h1 = some out → XW Z h1 g s.heap H1 locs1 → W p l e R s m args below meth c H1 locs1 cells slots Q (F0 m (pc + 3) ls rest)) : W p l e R s m args below meth c H locs cells slots Q (F0 m pc ls (.int v :: .ref (Z.1 o) :: rest)) := by
  have hs : (wl Z h g).set o (Z.1 o, .inr (6, ([.int (h o 0), .ref (Z.1 (o + 1)), .ref (Z.1 (o + 2)), .ref (Z.1 (o + 3)), .ref (Z.1 (o + 4)), .ref (Z.1 (o + 5)), .ref (Z.1 (o + 6))]).set 0 (.int v))) = wl Z (up h o 0 v) g := by
    have h1 := k_lt hk (by decide)
    refine wl_set h1 ?_ mx_upl
    rw [mx_l (kl_C o h1 (by omega)), up_eq]
    rw [cel_k hk]
    rfl
  exact x_put C hW (wk6 hk) rfl wsX6_in tyX6 tyX6_ok nmX6 0 (by decide) (ml_X7_9) rfl rfl (ty := .int) (by decide +kernel) (rfl) (rfl) (Nat.le_of_ble_eq_true rfl) hs hd (fun H1 locs1 q => kk _ H1 locs1 hf q)
theorem ml_X5_29 : Cond.fieldLink RX5 29 RX6 (TX6 0).2.1 (TX6 0).2.2.1 ∈ TW := TW_of 409 (by decide +kernel) (by decide +kernel)
theorem xg_X5_29 (C : CX p s m args meth c cc RX5 nL ret Z) (hW : XW Z h g s.heap H locs) {o : Nat} (hk : knd o = 6) (hd : decode cc pc = .ok (.getfield 29, 3)) (kk : W p l e R s m args below meth c H locs cells slots Q (F0 m (pc + 3) ls (.int (h o 0) :: rest))) : W p l e R s m args below meth c H locs cells slots Q (F0 m pc ls (.ref (Z.1 o) :: rest)) := x_get C hW (wk6 hk) rfl wsX6_in 0 (by decide) (ml_X5_29) rfl (v := .int (h o 0)) rfl hd kk
theorem xp_X5_29 (C : CX p s m args meth c cc RX5 nL ret Z) (hW : XW Z h g s.heap H locs) {o : Nat} (hk : knd o = 6) {v : Int32} {α : Type} {K : Hp → Option α} {out : α} (hf : stp (up h o 0 v) K = some out) (hd : decode cc pc = .ok (.putfield 29, 3)) (kk : ∀ (h1 : Hp) (H1 : Heap) (locs1 : List Loc), K h1 = some out → XW Z h1 g s.heap H1 locs1 → W p l e R s m args below meth c H1 locs1 cells slots Q (F0 m (pc + 3) ls rest)) : W p l e R s m args below meth c H locs cells slots Q (F0 m pc ls (.int v :: .ref (Z.1 o) :: rest)) := by
  have hs : (wl Z h g).set o (Z.1 o, .inr (6, ([.int (h o 0), .ref (Z.1 (o + 1)), .ref (Z.1 (o + 2)), .ref (Z.1 (o + 3)), .ref (Z.1 (o + 4)), .ref (Z.1 (o + 5)), .ref (Z.1 (o + 6))]).set 0 (.int v))) = wl Z (up h o 0 v) g := by
    have h1 := k_lt hk (by decide)
    refine wl_set h1 ?_ mx_upl
    rw [mx_l (kl_C o h1 (by omega)), up_eq]
    rw [cel_k hk]
    rfl
  exact x_put C hW (wk6 hk) rfl wsX6_in tyX6 tyX6_ok nmX6 0 (by decide) (ml_X5_29) rfl rfl (ty := .int) (by decide +kernel) (rfl) (rfl) (Nat.le_of_ble_eq_true rfl) hs hd (fun H1 locs1 q => kk _ H1 locs1 hf q)
theorem ml_X10_106 : Cond.fieldLink RX10 106 RX6 (TX6 0).2.1 (TX6 0).2.2.1 ∈ TW := TW_of 410 (by decide +kernel) (by decide +kernel)
theorem xg_X10_106 (C : CX p s m args meth c cc RX10 nL ret Z) (hW : XW Z h g s.heap H locs) {o : Nat} (hk : knd o = 6) (hd : decode cc pc = .ok (.getfield 106, 3)) (kk : W p l e R s m args below meth c H locs cells slots Q (F0 m (pc + 3) ls (.int (h o 0) :: rest))) : W p l e R s m args below meth c H locs cells slots Q (F0 m pc ls (.ref (Z.1 o) :: rest)) := x_get C hW (wk6 hk) rfl wsX6_in 0 (by decide) (ml_X10_106) rfl (v := .int (h o 0)) rfl hd kk
theorem xp_X10_106 (C : CX p s m args meth c cc RX10 nL ret Z) (hW : XW Z h g s.heap H locs) {o : Nat} (hk : knd o = 6) {v : Int32} {α : Type} {K : Hp → Option α} {out : α} (hf : stp (up h o 0 v) K = some out) (hd : decode cc pc = .ok (.putfield 106, 3)) (kk : ∀ (h1 : Hp) (H1 : Heap) (locs1 : List Loc), K h1 = some out → XW Z h1 g s.heap H1 locs1 → W p l e R s m args below meth c H1 locs1 cells slots Q (F0 m (pc + 3) ls rest)) : W p l e R s m args below meth c H locs cells slots Q (F0 m pc ls (.int v :: .ref (Z.1 o) :: rest)) := by
  have hs : (wl Z h g).set o (Z.1 o, .inr (6, ([.int (h o 0), .ref (Z.1 (o + 1)), .ref (Z.1 (o + 2)), .ref (Z.1 (o + 3)), .ref (Z.1 (o + 4)), .ref (Z.1 (o + 5)), .ref (Z.1 (o + 6))]).set 0 (.int v))) = wl Z (up h o 0 v) g := by
    have h1 := k_lt hk (by decide)
    refine wl_set h1 ?_ mx_upl
    rw [mx_l (kl_C o h1 (by omega)), up_eq]
    rw [cel_k hk]
    rfl
  exact x_put C hW (wk6 hk) rfl wsX6_in tyX6 tyX6_ok nmX6 0 (by decide) (ml_X10_106) rfl rfl (ty := .int) (by decide +kernel) (rfl) (rfl) (Nat.le_of_ble_eq_true rfl) hs hd (fun H1 locs1 q => kk _ H1 locs1 hf q)
theorem ml_X6_9 : Cond.fieldLink RX6 9 RX6 (TX6 1).2.1 (TX6 1).2.2.1 ∈ TW := TW_of 411 (by decide +kernel) (by decide +kernel)
theorem xg_X6_9 (C : CX p s m args meth c cc RX6 nL ret Z) (hW : XW Z h g s.heap H locs) {o : Nat} (hk : knd o = 6) (hd : decode cc pc = .ok (.getfield 9, 3)) (kk : W p l e R s m args below meth c H locs cells slots Q (F0 m (pc + 3) ls (.ref (Z.1 (o + 1)) :: rest))) : W p l e R s m args below meth c H locs cells slots Q (F0 m pc ls (.ref (Z.1 o) :: rest)) := x_get C hW (wk6 hk) rfl wsX6_in 1 (by decide) (ml_X6_9) rfl (v := .ref (Z.1 (o + 1))) rfl hd kk
theorem ml_X7_48 : Cond.fieldLink RX7 48 RX6 (TX6 1).2.1 (TX6 1).2.2.1 ∈ TW := TW_of 412 (by decide +kernel) (by decide +kernel)
theorem xg_X7_48 (C : CX p s m args meth c cc RX7 nL ret Z) (hW : XW Z h g s.heap H locs) {o : Nat} (hk : knd o = 6) (hd : decode cc pc = .ok (.getfield 48, 3)) (kk : W p l e R s m args below meth c H locs cells slots Q (F0 m (pc + 3) ls (.ref (Z.1 (o + 1)) :: rest))) : W p l e R s m args below meth c H locs cells slots Q (F0 m pc ls (.ref (Z.1 o) :: rest)) := x_get C hW (wk6 hk) rfl wsX6_in 1 (by decide) (ml_X7_48) rfl (v := .ref (Z.1 (o + 1))) rfl hd kk
theorem ml_X5_44 : Cond.fieldLink RX5 44 RX6 (TX6 1).2.1 (TX6 1).2.2.1 ∈ TW := TW_of 413 (by decide +kernel) (by decide +kernel)
theorem xg_X5_44 (C : CX p s m args meth c cc RX5 nL ret Z) (hW : XW Z h g s.heap H locs) {o : Nat} (hk : knd o = 6) (hd : decode cc pc = .ok (.getfield 44, 3)) (kk : W p l e R s m args below meth c H locs cells slots Q (F0 m (pc + 3) ls (.ref (Z.1 (o + 1)) :: rest))) : W p l e R s m args below meth c H locs cells slots Q (F0 m pc ls (.ref (Z.1 o) :: rest)) := x_get C hW (wk6 hk) rfl wsX6_in 1 (by decide) (ml_X5_44) rfl (v := .ref (Z.1 (o + 1))) rfl hd kk
theorem ml_X6_15 : Cond.fieldLink RX6 15 RX6 (TX6 2).2.1 (TX6 2).2.2.1 ∈ TW := TW_of 414 (by decide +kernel) (by decide +kernel)
theorem xg_X6_15 (C : CX p s m args meth c cc RX6 nL ret Z) (hW : XW Z h g s.heap H locs) {o : Nat} (hk : knd o = 6) (hd : decode cc pc = .ok (.getfield 15, 3)) (kk : W p l e R s m args below meth c H locs cells slots Q (F0 m (pc + 3) ls (.ref (Z.1 (o + 2)) :: rest))) : W p l e R s m args below meth c H locs cells slots Q (F0 m pc ls (.ref (Z.1 o) :: rest)) := x_get C hW (wk6 hk) rfl wsX6_in 2 (by decide) (ml_X6_15) rfl (v := .ref (Z.1 (o + 2))) rfl hd kk
theorem ml_X5_73 : Cond.fieldLink RX5 73 RX6 (TX6 2).2.1 (TX6 2).2.2.1 ∈ TW := TW_of 415 (by decide +kernel) (by decide +kernel)
theorem xg_X5_73 (C : CX p s m args meth c cc RX5 nL ret Z) (hW : XW Z h g s.heap H locs) {o : Nat} (hk : knd o = 6) (hd : decode cc pc = .ok (.getfield 73, 3)) (kk : W p l e R s m args below meth c H locs cells slots Q (F0 m (pc + 3) ls (.ref (Z.1 (o + 2)) :: rest))) : W p l e R s m args below meth c H locs cells slots Q (F0 m pc ls (.ref (Z.1 o) :: rest)) := x_get C hW (wk6 hk) rfl wsX6_in 2 (by decide) (ml_X5_73) rfl (v := .ref (Z.1 (o + 2))) rfl hd kk
theorem ml_X7_93 : Cond.fieldLink RX7 93 RX6 (TX6 2).2.1 (TX6 2).2.2.1 ∈ TW := TW_of 416 (by decide +kernel) (by decide +kernel)
theorem xg_X7_93 (C : CX p s m args meth c cc RX7 nL ret Z) (hW : XW Z h g s.heap H locs) {o : Nat} (hk : knd o = 6) (hd : decode cc pc = .ok (.getfield 93, 3)) (kk : W p l e R s m args below meth c H locs cells slots Q (F0 m (pc + 3) ls (.ref (Z.1 (o + 2)) :: rest))) : W p l e R s m args below meth c H locs cells slots Q (F0 m pc ls (.ref (Z.1 o) :: rest)) := x_get C hW (wk6 hk) rfl wsX6_in 2 (by decide) (ml_X7_93) rfl (v := .ref (Z.1 (o + 2))) rfl hd kk
theorem ml_X6_18 : Cond.fieldLink RX6 18 RX6 (TX6 3).2.1 (TX6 3).2.2.1 ∈ TW := TW_of 417 (by decide +kernel) (by decide +kernel)
theorem xg_X6_18 (C : CX p s m args meth c cc RX6 nL ret Z) (hW : XW Z h g s.heap H locs) {o : Nat} (hk : knd o = 6) (hd : decode cc pc = .ok (.getfield 18, 3)) (kk : W p l e R s m args below meth c H locs cells slots Q (F0 m (pc + 3) ls (.ref (Z.1 (o + 3)) :: rest))) : W p l e R s m args below meth c H locs cells slots Q (F0 m pc ls (.ref (Z.1 o) :: rest)) := x_get C hW (wk6 hk) rfl wsX6_in 3 (by decide) (ml_X6_18) rfl (v := .ref (Z.1 (o + 3))) rfl hd kk
theorem ml_X5_66 : Cond.fieldLink RX5 66 RX6 (TX6 3).2.1 (TX6 3).2.2.1 ∈ TW := TW_of 418 (by decide +kernel) (by decide +kernel)
theorem xg_X5_66 (C : CX p s m args meth c cc RX5 nL ret Z) (hW : XW Z h g s.heap H locs) {o : Nat} (hk : knd o = 6) (hd : decode cc pc = .ok (.getfield 66, 3)) (kk : W p l e R s m args below meth c H locs cells slots Q (F0 m (pc + 3) ls (.ref (Z.1 (o + 3)) :: rest))) : W p l e R s m args below meth c H locs cells slots Q (F0 m pc ls (.ref (Z.1 o) :: rest)) := x_get C hW (wk6 hk) rfl wsX6_in 3 (by decide) (ml_X5_66) rfl (v := .ref (Z.1 (o + 3))) rfl hd kk
theorem ml_X7_99 : Cond.fieldLink RX7 99 RX6 (TX6 3).2.1 (TX6 3).2.2.1 ∈ TW := TW_of 419 (by decide +kernel) (by decide +kernel)
theorem xg_X7_99 (C : CX p s m args meth c cc RX7 nL ret Z) (hW : XW Z h g s.heap H locs) {o : Nat} (hk : knd o = 6) (hd : decode cc pc = .ok (.getfield 99, 3)) (kk : W p l e R s m args below meth c H locs cells slots Q (F0 m (pc + 3) ls (.ref (Z.1 (o + 3)) :: rest))) : W p l e R s m args below meth c H locs cells slots Q (F0 m pc ls (.ref (Z.1 o) :: rest)) := x_get C hW (wk6 hk) rfl wsX6_in 3 (by decide) (ml_X7_99) rfl (v := .ref (Z.1 (o + 3))) rfl hd kk
theorem ml_X6_21 : Cond.fieldLink RX6 21 RX6 (TX6 4).2.1 (TX6 4).2.2.1 ∈ TW := TW_of 420 (by decide +kernel) (by decide +kernel)
theorem xg_X6_21 (C : CX p s m args meth c cc RX6 nL ret Z) (hW : XW Z h g s.heap H locs) {o : Nat} (hk : knd o = 6) (hd : decode cc pc = .ok (.getfield 21, 3)) (kk : W p l e R s m args below meth c H locs cells slots Q (F0 m (pc + 3) ls (.ref (Z.1 (o + 4)) :: rest))) : W p l e R s m args below meth c H locs cells slots Q (F0 m pc ls (.ref (Z.1 o) :: rest)) := x_get C hW (wk6 hk) rfl wsX6_in 4 (by decide) (ml_X6_21) rfl (v := .ref (Z.1 (o + 4))) rfl hd kk
theorem ml_X5_40 : Cond.fieldLink RX5 40 RX6 (TX6 4).2.1 (TX6 4).2.2.1 ∈ TW := TW_of 421 (by decide +kernel) (by decide +kernel)
theorem xg_X5_40 (C : CX p s m args meth c cc RX5 nL ret Z) (hW : XW Z h g s.heap H locs) {o : Nat} (hk : knd o = 6) (hd : decode cc pc = .ok (.getfield 40, 3)) (kk : W p l e R s m args below meth c H locs cells slots Q (F0 m (pc + 3) ls (.ref (Z.1 (o + 4)) :: rest))) : W p l e R s m args below meth c H locs cells slots Q (F0 m pc ls (.ref (Z.1 o) :: rest)) := x_get C hW (wk6 hk) rfl wsX6_in 4 (by decide) (ml_X5_40) rfl (v := .ref (Z.1 (o + 4))) rfl hd kk
theorem ml_X7_62 : Cond.fieldLink RX7 62 RX6 (TX6 4).2.1 (TX6 4).2.2.1 ∈ TW := TW_of 422 (by decide +kernel) (by decide +kernel)
theorem xg_X7_62 (C : CX p s m args meth c cc RX7 nL ret Z) (hW : XW Z h g s.heap H locs) {o : Nat} (hk : knd o = 6) (hd : decode cc pc = .ok (.getfield 62, 3)) (kk : W p l e R s m args below meth c H locs cells slots Q (F0 m (pc + 3) ls (.ref (Z.1 (o + 4)) :: rest))) : W p l e R s m args below meth c H locs cells slots Q (F0 m pc ls (.ref (Z.1 o) :: rest)) := x_get C hW (wk6 hk) rfl wsX6_in 4 (by decide) (ml_X7_62) rfl (v := .ref (Z.1 (o + 4))) rfl hd kk
theorem ml_X6_24 : Cond.fieldLink RX6 24 RX6 (TX6 5).2.1 (TX6 5).2.2.1 ∈ TW := TW_of 423 (by decide +kernel) (by decide +kernel)
theorem xg_X6_24 (C : CX p s m args meth c cc RX6 nL ret Z) (hW : XW Z h g s.heap H locs) {o : Nat} (hk : knd o = 6) (hd : decode cc pc = .ok (.getfield 24, 3)) (kk : W p l e R s m args below meth c H locs cells slots Q (F0 m (pc + 3) ls (.ref (Z.1 (o + 5)) :: rest))) : W p l e R s m args below meth c H locs cells slots Q (F0 m pc ls (.ref (Z.1 o) :: rest)) := x_get C hW (wk6 hk) rfl wsX6_in 5 (by decide) (ml_X6_24) rfl (v := .ref (Z.1 (o + 5))) rfl hd kk
theorem ml_X7_111 : Cond.fieldLink RX7 111 RX6 (TX6 5).2.1 (TX6 5).2.2.1 ∈ TW := TW_of 424 (by decide +kernel) (by decide +kernel)
theorem xg_X7_111 (C : CX p s m args meth c cc RX7 nL ret Z) (hW : XW Z h g s.heap H locs) {o : Nat} (hk : knd o = 6) (hd : decode cc pc = .ok (.getfield 111, 3)) (kk : W p l e R s m args below meth c H locs cells slots Q (F0 m (pc + 3) ls (.ref (Z.1 (o + 5)) :: rest))) : W p l e R s m args below meth c H locs cells slots Q (F0 m pc ls (.ref (Z.1 o) :: rest)) := x_get C hW (wk6 hk) rfl wsX6_in 5 (by decide) (ml_X7_111) rfl (v := .ref (Z.1 (o + 5))) rfl hd kk
theorem ml_X1_152 : Cond.fieldLink RX1 152 RX6 (TX6 5).2.1 (TX6 5).2.2.1 ∈ TW := TW_of 425 (by decide +kernel) (by decide +kernel)
theorem xg_X1_152 (C : CX p s m args meth c cc RX1 nL ret Z) (hW : XW Z h g s.heap H locs) {o : Nat} (hk : knd o = 6) (hd : decode cc pc = .ok (.getfield 152, 3)) (kk : W p l e R s m args below meth c H locs cells slots Q (F0 m (pc + 3) ls (.ref (Z.1 (o + 5)) :: rest))) : W p l e R s m args below meth c H locs cells slots Q (F0 m pc ls (.ref (Z.1 o) :: rest)) := x_get C hW (wk6 hk) rfl wsX6_in 5 (by decide) (ml_X1_152) rfl (v := .ref (Z.1 (o + 5))) rfl hd kk
theorem ml_X6_27 : Cond.fieldLink RX6 27 RX6 (TX6 6).2.1 (TX6 6).2.2.1 ∈ TW := TW_of 426 (by decide +kernel) (by decide +kernel)
theorem xg_X6_27 (C : CX p s m args meth c cc RX6 nL ret Z) (hW : XW Z h g s.heap H locs) {o : Nat} (hk : knd o = 6) (hd : decode cc pc = .ok (.getfield 27, 3)) (kk : W p l e R s m args below meth c H locs cells slots Q (F0 m (pc + 3) ls (.ref (Z.1 (o + 6)) :: rest))) : W p l e R s m args below meth c H locs cells slots Q (F0 m pc ls (.ref (Z.1 o) :: rest)) := x_get C hW (wk6 hk) rfl wsX6_in 6 (by decide) (ml_X6_27) rfl (v := .ref (Z.1 (o + 6))) rfl hd kk
theorem ml_X7_108 : Cond.fieldLink RX7 108 RX6 (TX6 6).2.1 (TX6 6).2.2.1 ∈ TW := TW_of 427 (by decide +kernel) (by decide +kernel)
theorem xg_X7_108 (C : CX p s m args meth c cc RX7 nL ret Z) (hW : XW Z h g s.heap H locs) {o : Nat} (hk : knd o = 6) (hd : decode cc pc = .ok (.getfield 108, 3)) (kk : W p l e R s m args below meth c H locs cells slots Q (F0 m (pc + 3) ls (.ref (Z.1 (o + 6)) :: rest))) : W p l e R s m args below meth c H locs cells slots Q (F0 m pc ls (.ref (Z.1 o) :: rest)) := x_get C hW (wk6 hk) rfl wsX6_in 6 (by decide) (ml_X7_108) rfl (v := .ref (Z.1 (o + 6))) rfl hd kk
theorem ml_X5_12 : Cond.fieldLink RX5 12 RX5 (TX5 0).2.1 (TX5 0).2.2.1 ∈ TW := TW_of 443 (by decide +kernel) (by decide +kernel)
theorem xg_X5_12 (C : CX p s m args meth c cc RX5 nL ret Z) (hW : XW Z h g s.heap H locs) {o : Nat} (hk : knd o = 5) {α : Type} {K : Nat → Option α} {out : α} (hf : ckp (h o 0) 6 K = some out) (hd : decode cc pc = .ok (.getfield 12, 3)) (kk : ∀ r : Nat, knd r = 6 → K r = some out → W p l e R s m args below meth c H locs cells slots Q (F0 m (pc + 3) ls (.ref (Z.1 r) :: rest))) : W p l e R s m args below meth c H locs cells slots Q (F0 m pc ls (.ref (Z.1 o) :: rest)) := by
  obtain ⟨h1, h2⟩ := ckp_t hf
  exact x_get C hW (wk5 hk) rfl wsX5_in 0 (by decide) (ml_X5_12) rfl (v := .ref (Z.1 (ix (h o 0)))) rfl hd (kk _ h1 h2)
theorem xp_X5_12 (C : CX p s m args meth c cc RX5 nL ret Z) (hW : XW Z h g s.heap H locs) {o : Nat} (hk : knd o = 5) {r : Nat} (hr : knd r = 6) {α : Type} {K : Hp → Option α} {out : α} (hf : stp (up h o 0 (nI r)) K = some out) (hd : decode cc pc = .ok (.putfield 12, 3)) (kk : ∀ (h1 : Hp) (H1 : Heap) (locs1 : List Loc), K h1 = some out → XW Z h1 g s.heap H1 locs1 → W p l e R s m args below meth c H1 locs1 cells slots Q (F0 m (pc + 3) ls rest)) : W p l e R s m args below meth c H locs cells slots Q (F0 m pc ls (.ref (Z.1 r) :: .ref (Z.1 o) :: rest)) := by
  have hs : (wl Z h g).set o (Z.1 o, .inr (5, ([.ref (Z.1 (ix (h o 0))), .int (h o 1), .int (h o 2), .int (h o 3)]).set 0 (.ref (Z.1 r)))) = wl Z (up h o 0 (nI r)) g := by
    have h1 := k_lt hk (by decide)
    refine wl_set h1 ?_ mx_upl
    rw [mx_l (kl_C o h1 (by omega)), up_eq]
    rw [cel_k hk]
    have e1 : ix (nI r) = r := nI_clamp (Nat.lt_of_lt_of_le (k_lt hr (by decide)) (by decide))
    show (Sum.inr (5, ([.ref (Z.1 (ix (nI r))), .int (h o 1), .int (h o 2), .int (h o 3)] : List Value)) : va_E) = _
    rw [e1]
    rfl
  exact x_put C hW (wk5 hk) rfl wsX5_in tyX5 tyX5_ok nmX5 0 (by decide) (ml_X5_12) rfl rfl (ty := .object "TranscriptCutter$Script") (by decide +kernel) (rfl) (rfl) (Nat.le_of_ble_eq_true rfl) hs hd (fun H1 locs1 q => kk _ H1 locs1 hf q)
theorem ml_X10_103 : Cond.fieldLink RX10 103 RX5 (TX5 0).2.1 (TX5 0).2.2.1 ∈ TW := TW_of 444 (by decide +kernel) (by decide +kernel)
theorem xg_X10_103 (C : CX p s m args meth c cc RX10 nL ret Z) (hW : XW Z h g s.heap H locs) {o : Nat} (hk : knd o = 5) {α : Type} {K : Nat → Option α} {out : α} (hf : ckp (h o 0) 6 K = some out) (hd : decode cc pc = .ok (.getfield 103, 3)) (kk : ∀ r : Nat, knd r = 6 → K r = some out → W p l e R s m args below meth c H locs cells slots Q (F0 m (pc + 3) ls (.ref (Z.1 r) :: rest))) : W p l e R s m args below meth c H locs cells slots Q (F0 m pc ls (.ref (Z.1 o) :: rest)) := by
  obtain ⟨h1, h2⟩ := ckp_t hf
  exact x_get C hW (wk5 hk) rfl wsX5_in 0 (by decide) (ml_X10_103) rfl (v := .ref (Z.1 (ix (h o 0)))) rfl hd (kk _ h1 h2)
theorem xp_X10_103 (C : CX p s m args meth c cc RX10 nL ret Z) (hW : XW Z h g s.heap H locs) {o : Nat} (hk : knd o = 5) {r : Nat} (hr : knd r = 6) {α : Type} {K : Hp → Option α} {out : α} (hf : stp (up h o 0 (nI r)) K = some out) (hd : decode cc pc = .ok (.putfield 103, 3)) (kk : ∀ (h1 : Hp) (H1 : Heap) (locs1 : List Loc), K h1 = some out → XW Z h1 g s.heap H1 locs1 → W p l e R s m args below meth c H1 locs1 cells slots Q (F0 m (pc + 3) ls rest)) : W p l e R s m args below meth c H locs cells slots Q (F0 m pc ls (.ref (Z.1 r) :: .ref (Z.1 o) :: rest)) := by
  have hs : (wl Z h g).set o (Z.1 o, .inr (5, ([.ref (Z.1 (ix (h o 0))), .int (h o 1), .int (h o 2), .int (h o 3)]).set 0 (.ref (Z.1 r)))) = wl Z (up h o 0 (nI r)) g := by
    have h1 := k_lt hk (by decide)
    refine wl_set h1 ?_ mx_upl
    rw [mx_l (kl_C o h1 (by omega)), up_eq]
    rw [cel_k hk]
    have e1 : ix (nI r) = r := nI_clamp (Nat.lt_of_lt_of_le (k_lt hr (by decide)) (by decide))
    show (Sum.inr (5, ([.ref (Z.1 (ix (nI r))), .int (h o 1), .int (h o 2), .int (h o 3)] : List Value)) : va_E) = _
    rw [e1]
    rfl
  exact x_put C hW (wk5 hk) rfl wsX5_in tyX5 tyX5_ok nmX5 0 (by decide) (ml_X10_103) rfl rfl (ty := .object "TranscriptCutter$Script") (by decide +kernel) (rfl) (rfl) (Nat.le_of_ble_eq_true rfl) hs hd (fun H1 locs1 q => kk _ H1 locs1 hf q)
theorem ml_X5_18 : Cond.fieldLink RX5 18 RX5 (TX5 1).2.1 (TX5 1).2.2.1 ∈ TW := TW_of 445 (by decide +kernel) (by decide +kernel)
theorem xg_X5_18 (C : CX p s m args meth c cc RX5 nL ret Z) (hW : XW Z h g s.heap H locs) {o : Nat} (hk : knd o = 5) (hd : decode cc pc = .ok (.getfield 18, 3)) (kk : W p l e R s m args below meth c H locs cells slots Q (F0 m (pc + 3) ls (.int (h o 1) :: rest))) : W p l e R s m args below meth c H locs cells slots Q (F0 m pc ls (.ref (Z.1 o) :: rest)) := x_get C hW (wk5 hk) rfl wsX5_in 1 (by decide) (ml_X5_18) rfl (v := .int (h o 1)) rfl hd kk
theorem xp_X5_18 (C : CX p s m args meth c cc RX5 nL ret Z) (hW : XW Z h g s.heap H locs) {o : Nat} (hk : knd o = 5) {v : Int32} {α : Type} {K : Hp → Option α} {out : α} (hf : stp (up h o 1 v) K = some out) (hd : decode cc pc = .ok (.putfield 18, 3)) (kk : ∀ (h1 : Hp) (H1 : Heap) (locs1 : List Loc), K h1 = some out → XW Z h1 g s.heap H1 locs1 → W p l e R s m args below meth c H1 locs1 cells slots Q (F0 m (pc + 3) ls rest)) : W p l e R s m args below meth c H locs cells slots Q (F0 m pc ls (.int v :: .ref (Z.1 o) :: rest)) := by
  have hs : (wl Z h g).set o (Z.1 o, .inr (5, ([.ref (Z.1 (ix (h o 0))), .int (h o 1), .int (h o 2), .int (h o 3)]).set 1 (.int v))) = wl Z (up h o 1 v) g := by
    have h1 := k_lt hk (by decide)
    refine wl_set h1 ?_ mx_upl
    rw [mx_l (kl_C o h1 (by omega)), up_eq]
    rw [cel_k hk]
    rfl
  exact x_put C hW (wk5 hk) rfl wsX5_in tyX5 tyX5_ok nmX5 1 (by decide) (ml_X5_18) rfl rfl (ty := .int) (by decide +kernel) (rfl) (rfl) (Nat.le_of_ble_eq_true rfl) hs hd (fun H1 locs1 q => kk _ H1 locs1 hf q)
theorem ml_X10_327 : Cond.fieldLink RX10 327 RX5 (TX5 1).2.1 (TX5 1).2.2.1 ∈ TW := TW_of 446 (by decide +kernel) (by decide +kernel)
theorem xg_X10_327 (C : CX p s m args meth c cc RX10 nL ret Z) (hW : XW Z h g s.heap H locs) {o : Nat} (hk : knd o = 5) (hd : decode cc pc = .ok (.getfield 327, 3)) (kk : W p l e R s m args below meth c H locs cells slots Q (F0 m (pc + 3) ls (.int (h o 1) :: rest))) : W p l e R s m args below meth c H locs cells slots Q (F0 m pc ls (.ref (Z.1 o) :: rest)) := x_get C hW (wk5 hk) rfl wsX5_in 1 (by decide) (ml_X10_327) rfl (v := .int (h o 1)) rfl hd kk
theorem xp_X10_327 (C : CX p s m args meth c cc RX10 nL ret Z) (hW : XW Z h g s.heap H locs) {o : Nat} (hk : knd o = 5) {v : Int32} {α : Type} {K : Hp → Option α} {out : α} (hf : stp (up h o 1 v) K = some out) (hd : decode cc pc = .ok (.putfield 327, 3)) (kk : ∀ (h1 : Hp) (H1 : Heap) (locs1 : List Loc), K h1 = some out → XW Z h1 g s.heap H1 locs1 → W p l e R s m args below meth c H1 locs1 cells slots Q (F0 m (pc + 3) ls rest)) : W p l e R s m args below meth c H locs cells slots Q (F0 m pc ls (.int v :: .ref (Z.1 o) :: rest)) := by
  have hs : (wl Z h g).set o (Z.1 o, .inr (5, ([.ref (Z.1 (ix (h o 0))), .int (h o 1), .int (h o 2), .int (h o 3)]).set 1 (.int v))) = wl Z (up h o 1 v) g := by
    have h1 := k_lt hk (by decide)
    refine wl_set h1 ?_ mx_upl
    rw [mx_l (kl_C o h1 (by omega)), up_eq]
    rw [cel_k hk]
    rfl
  exact x_put C hW (wk5 hk) rfl wsX5_in tyX5 tyX5_ok nmX5 1 (by decide) (ml_X10_327) rfl rfl (ty := .int) (by decide +kernel) (rfl) (rfl) (Nat.le_of_ble_eq_true rfl) hs hd (fun H1 locs1 q => kk _ H1 locs1 hf q)
theorem ml_X5_22 : Cond.fieldLink RX5 22 RX5 (TX5 2).2.1 (TX5 2).2.2.1 ∈ TW := TW_of 447 (by decide +kernel) (by decide +kernel)
theorem xg_X5_22 (C : CX p s m args meth c cc RX5 nL ret Z) (hW : XW Z h g s.heap H locs) {o : Nat} (hk : knd o = 5) (hd : decode cc pc = .ok (.getfield 22, 3)) (kk : W p l e R s m args below meth c H locs cells slots Q (F0 m (pc + 3) ls (.int (h o 2) :: rest))) : W p l e R s m args below meth c H locs cells slots Q (F0 m pc ls (.ref (Z.1 o) :: rest)) := x_get C hW (wk5 hk) rfl wsX5_in 2 (by decide) (ml_X5_22) rfl (v := .int (h o 2)) rfl hd kk
theorem xp_X5_22 (C : CX p s m args meth c cc RX5 nL ret Z) (hW : XW Z h g s.heap H locs) {o : Nat} (hk : knd o = 5) {v : Int32} {α : Type} {K : Hp → Option α} {out : α} (hf : stp (up h o 2 v) K = some out) (hd : decode cc pc = .ok (.putfield 22, 3)) (kk : ∀ (h1 : Hp) (H1 : Heap) (locs1 : List Loc), K h1 = some out → XW Z h1 g s.heap H1 locs1 → W p l e R s m args below meth c H1 locs1 cells slots Q (F0 m (pc + 3) ls rest)) : W p l e R s m args below meth c H locs cells slots Q (F0 m pc ls (.int v :: .ref (Z.1 o) :: rest)) := by
  have hs : (wl Z h g).set o (Z.1 o, .inr (5, ([.ref (Z.1 (ix (h o 0))), .int (h o 1), .int (h o 2), .int (h o 3)]).set 2 (.int v))) = wl Z (up h o 2 v) g := by
    have h1 := k_lt hk (by decide)
    refine wl_set h1 ?_ mx_upl
    rw [mx_l (kl_C o h1 (by omega)), up_eq]
    rw [cel_k hk]
    rfl
  exact x_put C hW (wk5 hk) rfl wsX5_in tyX5 tyX5_ok nmX5 2 (by decide) (ml_X5_22) rfl rfl (ty := .int) (by decide +kernel) (rfl) (rfl) (Nat.le_of_ble_eq_true rfl) hs hd (fun H1 locs1 q => kk _ H1 locs1 hf q)
theorem ml_X10_330 : Cond.fieldLink RX10 330 RX5 (TX5 2).2.1 (TX5 2).2.2.1 ∈ TW := TW_of 448 (by decide +kernel) (by decide +kernel)
theorem xg_X10_330 (C : CX p s m args meth c cc RX10 nL ret Z) (hW : XW Z h g s.heap H locs) {o : Nat} (hk : knd o = 5) (hd : decode cc pc = .ok (.getfield 330, 3)) (kk : W p l e R s m args below meth c H locs cells slots Q (F0 m (pc + 3) ls (.int (h o 2) :: rest))) : W p l e R s m args below meth c H locs cells slots Q (F0 m pc ls (.ref (Z.1 o) :: rest)) := x_get C hW (wk5 hk) rfl wsX5_in 2 (by decide) (ml_X10_330) rfl (v := .int (h o 2)) rfl hd kk
theorem xp_X10_330 (C : CX p s m args meth c cc RX10 nL ret Z) (hW : XW Z h g s.heap H locs) {o : Nat} (hk : knd o = 5) {v : Int32} {α : Type} {K : Hp → Option α} {out : α} (hf : stp (up h o 2 v) K = some out) (hd : decode cc pc = .ok (.putfield 330, 3)) (kk : ∀ (h1 : Hp) (H1 : Heap) (locs1 : List Loc), K h1 = some out → XW Z h1 g s.heap H1 locs1 → W p l e R s m args below meth c H1 locs1 cells slots Q (F0 m (pc + 3) ls rest)) : W p l e R s m args below meth c H locs cells slots Q (F0 m pc ls (.int v :: .ref (Z.1 o) :: rest)) := by
  have hs : (wl Z h g).set o (Z.1 o, .inr (5, ([.ref (Z.1 (ix (h o 0))), .int (h o 1), .int (h o 2), .int (h o 3)]).set 2 (.int v))) = wl Z (up h o 2 v) g := by
    have h1 := k_lt hk (by decide)
    refine wl_set h1 ?_ mx_upl
    rw [mx_l (kl_C o h1 (by omega)), up_eq]
    rw [cel_k hk]
    rfl
  exact x_put C hW (wk5 hk) rfl wsX5_in tyX5 tyX5_ok nmX5 2 (by decide) (ml_X10_330) rfl rfl (ty := .int) (by decide +kernel) (rfl) (rfl) (Nat.le_of_ble_eq_true rfl) hs hd (fun H1 locs1 q => kk _ H1 locs1 hf q)
theorem ml_X5_25 : Cond.fieldLink RX5 25 RX5 (TX5 3).2.1 (TX5 3).2.2.1 ∈ TW := TW_of 449 (by decide +kernel) (by decide +kernel)
theorem xg_X5_25 (C : CX p s m args meth c cc RX5 nL ret Z) (hW : XW Z h g s.heap H locs) {o : Nat} (hk : knd o = 5) (hd : decode cc pc = .ok (.getfield 25, 3)) (kk : W p l e R s m args below meth c H locs cells slots Q (F0 m (pc + 3) ls (.int (h o 3) :: rest))) : W p l e R s m args below meth c H locs cells slots Q (F0 m pc ls (.ref (Z.1 o) :: rest)) := x_get C hW (wk5 hk) rfl wsX5_in 3 (by decide) (ml_X5_25) rfl (v := .int (h o 3)) rfl hd kk
theorem xp_X5_25 (C : CX p s m args meth c cc RX5 nL ret Z) (hW : XW Z h g s.heap H locs) {o : Nat} (hk : knd o = 5) {v : Int32} (hz : zb v = true) {α : Type} {K : Hp → Option α} {out : α} (hf : stp (up h o 3 v) K = some out) (hd : decode cc pc = .ok (.putfield 25, 3)) (kk : ∀ (h1 : Hp) (H1 : Heap) (locs1 : List Loc), K h1 = some out → XW Z h1 g s.heap H1 locs1 → W p l e R s m args below meth c H1 locs1 cells slots Q (F0 m (pc + 3) ls rest)) : W p l e R s m args below meth c H locs cells slots Q (F0 m pc ls (.int v :: .ref (Z.1 o) :: rest)) := by
  have hs : (wl Z h g).set o (Z.1 o, .inr (5, ([.ref (Z.1 (ix (h o 0))), .int (h o 1), .int (h o 2), .int (h o 3)]).set 3 (.int v))) = wl Z (up h o 3 v) g := by
    have h1 := k_lt hk (by decide)
    refine wl_set h1 ?_ mx_upl
    rw [mx_l (kl_C o h1 (by omega)), up_eq]
    rw [cel_k hk]
    rfl
  exact x_put C hW (wk5 hk) rfl wsX5_in tyX5 tyX5_ok nmX5 3 (by decide) (ml_X5_25) rfl rfl (ty := .boolean) (by decide +kernel) (zb_n hz) (zb_f hz) (Nat.le_of_ble_eq_true rfl) hs hd (fun H1 locs1 q => kk _ H1 locs1 hf q)
theorem ml_X10_333 : Cond.fieldLink RX10 333 RX5 (TX5 3).2.1 (TX5 3).2.2.1 ∈ TW := TW_of 450 (by decide +kernel) (by decide +kernel)
theorem xg_X10_333 (C : CX p s m args meth c cc RX10 nL ret Z) (hW : XW Z h g s.heap H locs) {o : Nat} (hk : knd o = 5) (hd : decode cc pc = .ok (.getfield 333, 3)) (kk : W p l e R s m args below meth c H locs cells slots Q (F0 m (pc + 3) ls (.int (h o 3) :: rest))) : W p l e R s m args below meth c H locs cells slots Q (F0 m pc ls (.ref (Z.1 o) :: rest)) := x_get C hW (wk5 hk) rfl wsX5_in 3 (by decide) (ml_X10_333) rfl (v := .int (h o 3)) rfl hd kk
theorem xp_X10_333 (C : CX p s m args meth c cc RX10 nL ret Z) (hW : XW Z h g s.heap H locs) {o : Nat} (hk : knd o = 5) {v : Int32} (hz : zb v = true) {α : Type} {K : Hp → Option α} {out : α} (hf : stp (up h o 3 v) K = some out) (hd : decode cc pc = .ok (.putfield 333, 3)) (kk : ∀ (h1 : Hp) (H1 : Heap) (locs1 : List Loc), K h1 = some out → XW Z h1 g s.heap H1 locs1 → W p l e R s m args below meth c H1 locs1 cells slots Q (F0 m (pc + 3) ls rest)) : W p l e R s m args below meth c H locs cells slots Q (F0 m pc ls (.int v :: .ref (Z.1 o) :: rest)) := by
  have hs : (wl Z h g).set o (Z.1 o, .inr (5, ([.ref (Z.1 (ix (h o 0))), .int (h o 1), .int (h o 2), .int (h o 3)]).set 3 (.int v))) = wl Z (up h o 3 v) g := by
    have h1 := k_lt hk (by decide)
    refine wl_set h1 ?_ mx_upl
    rw [mx_l (kl_C o h1 (by omega)), up_eq]
    rw [cel_k hk]
    rfl
  exact x_put C hW (wk5 hk) rfl wsX5_in tyX5 tyX5_ok nmX5 3 (by decide) (ml_X10_333) rfl rfl (ty := .boolean) (by decide +kernel) (zb_n hz) (zb_f hz) (Nat.le_of_ble_eq_true rfl) hs hd (fun H1 locs1 q => kk _ H1 locs1 hf q)
theorem ml_X2_11 : Cond.fieldLink RX2 11 RX2 (TX2 0).2.1 (TX2 0).2.2.1 ∈ TW := TW_of 466 (by decide +kernel) (by decide +kernel)
theorem xg_X2_11 (C : CX p s m args meth c cc RX2 nL ret Z) (hW : XW Z h g s.heap H locs) {o : Nat} (hk : knd o = 2) (hd : decode cc pc = .ok (.getfield 11, 3)) (kk : W p l e R s m args below meth c H locs cells slots Q (F0 m (pc + 3) ls (.ref (Z.1 17) :: rest))) : W p l e R s m args below meth c H locs cells slots Q (F0 m pc ls (.ref (Z.1 o) :: rest)) := x_get C hW (wk2 hk) rfl wsX2_in 0 (by decide) (ml_X2_11) rfl (v := .ref (Z.1 17)) rfl hd kk
theorem ml_X10_348 : Cond.fieldLink RX10 348 RX2 (TX2 0).2.1 (TX2 0).2.2.1 ∈ TW := TW_of 467 (by decide +kernel) (by decide +kernel)
theorem xg_X10_348 (C : CX p s m args meth c cc RX10 nL ret Z) (hW : XW Z h g s.heap H locs) {o : Nat} (hk : knd o = 2) (hd : decode cc pc = .ok (.getfield 348, 3)) (kk : W p l e R s m args below meth c H locs cells slots Q (F0 m (pc + 3) ls (.ref (Z.1 17) :: rest))) : W p l e R s m args below meth c H locs cells slots Q (F0 m pc ls (.ref (Z.1 o) :: rest)) := x_get C hW (wk2 hk) rfl wsX2_in 0 (by decide) (ml_X10_348) rfl (v := .ref (Z.1 17)) rfl hd kk
theorem ml_X2_15 : Cond.fieldLink RX2 15 RX2 (TX2 1).2.1 (TX2 1).2.2.1 ∈ TW := TW_of 468 (by decide +kernel) (by decide +kernel)
theorem xg_X2_15 (C : CX p s m args meth c cc RX2 nL ret Z) (hW : XW Z h g s.heap H locs) {o : Nat} (hk : knd o = 2) (hd : decode cc pc = .ok (.getfield 15, 3)) (kk : W p l e R s m args below meth c H locs cells slots Q (F0 m (pc + 3) ls (.int (h o 1) :: rest))) : W p l e R s m args below meth c H locs cells slots Q (F0 m pc ls (.ref (Z.1 o) :: rest)) := x_get C hW (wk2 hk) rfl wsX2_in 1 (by decide) (ml_X2_15) rfl (v := .int (h o 1)) rfl hd kk
theorem xp_X2_15 (C : CX p s m args meth c cc RX2 nL ret Z) (hW : XW Z h g s.heap H locs) {o : Nat} (hk : knd o = 2) {v : Int32} {α : Type} {K : Hp → Option α} {out : α} (hf : stp (up h o 1 v) K = some out) (hd : decode cc pc = .ok (.putfield 15, 3)) (kk : ∀ (h1 : Hp) (H1 : Heap) (locs1 : List Loc), K h1 = some out → XW Z h1 g s.heap H1 locs1 → W p l e R s m args below meth c H1 locs1 cells slots Q (F0 m (pc + 3) ls rest)) : W p l e R s m args below meth c H locs cells slots Q (F0 m pc ls (.int v :: .ref (Z.1 o) :: rest)) := by
  have hs : (wl Z h g).set o (Z.1 o, .inr (2, ([.ref (Z.1 17), .int (h o 1)]).set 1 (.int v))) = wl Z (up h o 1 v) g := by
    have h1 := k_lt hk (by decide)
    refine wl_set h1 ?_ mx_upl
    rw [mx_l (kl_C o h1 (by omega)), up_eq]
    rw [cel_k hk]
    rfl
  exact x_put C hW (wk2 hk) rfl wsX2_in tyX2 tyX2_ok nmX2 1 (by decide) (ml_X2_15) rfl rfl (ty := .int) (by decide +kernel) (rfl) (rfl) (Nat.le_of_ble_eq_true rfl) hs hd (fun H1 locs1 q => kk _ H1 locs1 hf q)
theorem ml_X10_343 : Cond.fieldLink RX10 343 RX2 (TX2 1).2.1 (TX2 1).2.2.1 ∈ TW := TW_of 469 (by decide +kernel) (by decide +kernel)
theorem xg_X10_343 (C : CX p s m args meth c cc RX10 nL ret Z) (hW : XW Z h g s.heap H locs) {o : Nat} (hk : knd o = 2) (hd : decode cc pc = .ok (.getfield 343, 3)) (kk : W p l e R s m args below meth c H locs cells slots Q (F0 m (pc + 3) ls (.int (h o 1) :: rest))) : W p l e R s m args below meth c H locs cells slots Q (F0 m pc ls (.ref (Z.1 o) :: rest)) := x_get C hW (wk2 hk) rfl wsX2_in 1 (by decide) (ml_X10_343) rfl (v := .int (h o 1)) rfl hd kk
theorem xp_X10_343 (C : CX p s m args meth c cc RX10 nL ret Z) (hW : XW Z h g s.heap H locs) {o : Nat} (hk : knd o = 2) {v : Int32} {α : Type} {K : Hp → Option α} {out : α} (hf : stp (up h o 1 v) K = some out) (hd : decode cc pc = .ok (.putfield 343, 3)) (kk : ∀ (h1 : Hp) (H1 : Heap) (locs1 : List Loc), K h1 = some out → XW Z h1 g s.heap H1 locs1 → W p l e R s m args below meth c H1 locs1 cells slots Q (F0 m (pc + 3) ls rest)) : W p l e R s m args below meth c H locs cells slots Q (F0 m pc ls (.int v :: .ref (Z.1 o) :: rest)) := by
  have hs : (wl Z h g).set o (Z.1 o, .inr (2, ([.ref (Z.1 17), .int (h o 1)]).set 1 (.int v))) = wl Z (up h o 1 v) g := by
    have h1 := k_lt hk (by decide)
    refine wl_set h1 ?_ mx_upl
    rw [mx_l (kl_C o h1 (by omega)), up_eq]
    rw [cel_k hk]
    rfl
  exact x_put C hW (wk2 hk) rfl wsX2_in tyX2 tyX2_ok nmX2 1 (by decide) (ml_X10_343) rfl rfl (ty := .int) (by decide +kernel) (rfl) (rfl) (Nat.le_of_ble_eq_true rfl) hs hd (fun H1 locs1 q => kk _ H1 locs1 hf q)
theorem ml_X10_10 : Cond.fieldLink RX10 10 RX10 (TX10 0).2.1 (TX10 0).2.2.1 ∈ TW := TW_of 479 (by decide +kernel) (by decide +kernel)
theorem xg_X10_10 (C : CX p s m args meth c cc RX10 nL ret Z) (hW : XW Z h g s.heap H locs) {o : Nat} (hk : knd o = 8) (hd : decode cc pc = .ok (.getfield 10, 3)) (kk : W p l e R s m args below meth c H locs cells slots Q (F0 m (pc + 3) ls (.ref (Z.1 1) :: rest))) : W p l e R s m args below meth c H locs cells slots Q (F0 m pc ls (.ref (Z.1 o) :: rest)) := x_get C hW (wk8 hk) rfl wsX10_in 0 (by decide) (ml_X10_10) rfl (v := .ref (Z.1 1)) rfl hd kk
theorem ml_X10_19 : Cond.fieldLink RX10 19 RX10 (TX10 1).2.1 (TX10 1).2.2.1 ∈ TW := TW_of 480 (by decide +kernel) (by decide +kernel)
theorem xg_X10_19 (C : CX p s m args meth c cc RX10 nL ret Z) (hW : XW Z h g s.heap H locs) {o : Nat} (hk : knd o = 8) (hd : decode cc pc = .ok (.getfield 19, 3)) (kk : W p l e R s m args below meth c H locs cells slots Q (F0 m (pc + 3) ls (.ref (Z.1 3) :: rest))) : W p l e R s m args below meth c H locs cells slots Q (F0 m pc ls (.ref (Z.1 o) :: rest)) := x_get C hW (wk8 hk) rfl wsX10_in 1 (by decide) (ml_X10_19) rfl (v := .ref (Z.1 3)) rfl hd kk
theorem ml_X10_26 : Cond.fieldLink RX10 26 RX10 (TX10 2).2.1 (TX10 2).2.2.1 ∈ TW := TW_of 481 (by decide +kernel) (by decide +kernel)
theorem xg_X10_26 (C : CX p s m args meth c cc RX10 nL ret Z) (hW : XW Z h g s.heap H locs) {o : Nat} (hk : knd o = 8) (hd : decode cc pc = .ok (.getfield 26, 3)) (kk : W p l e R s m args below meth c H locs cells slots Q (F0 m (pc + 3) ls (.ref (Z.1 13) :: rest))) : W p l e R s m args below meth c H locs cells slots Q (F0 m pc ls (.ref (Z.1 o) :: rest)) := x_get C hW (wk8 hk) rfl wsX10_in 2 (by decide) (ml_X10_26) rfl (v := .ref (Z.1 13)) rfl hd kk
theorem ml_X10_33 : Cond.fieldLink RX10 33 RX10 (TX10 3).2.1 (TX10 3).2.2.1 ∈ TW := TW_of 482 (by decide +kernel) (by decide +kernel)
theorem xg_X10_33 (C : CX p s m args meth c cc RX10 nL ret Z) (hW : XW Z h g s.heap H locs) {o : Nat} (hk : knd o = 8) (hd : decode cc pc = .ok (.getfield 33, 3)) (kk : W p l e R s m args below meth c H locs cells slots Q (F0 m (pc + 3) ls (.ref (Z.1 15) :: rest))) : W p l e R s m args below meth c H locs cells slots Q (F0 m pc ls (.ref (Z.1 o) :: rest)) := x_get C hW (wk8 hk) rfl wsX10_in 3 (by decide) (ml_X10_33) rfl (v := .ref (Z.1 15)) rfl hd kk
theorem ml_X10_40 : Cond.fieldLink RX10 40 RX10 (TX10 4).2.1 (TX10 4).2.2.1 ∈ TW := TW_of 483 (by decide +kernel) (by decide +kernel)
theorem xg_X10_40 (C : CX p s m args meth c cc RX10 nL ret Z) (hW : XW Z h g s.heap H locs) {o : Nat} (hk : knd o = 8) (hd : decode cc pc = .ok (.getfield 40, 3)) (kk : W p l e R s m args below meth c H locs cells slots Q (F0 m (pc + 3) ls (.ref (Z.1 16) :: rest))) : W p l e R s m args below meth c H locs cells slots Q (F0 m pc ls (.ref (Z.1 o) :: rest)) := x_get C hW (wk8 hk) rfl wsX10_in 4 (by decide) (ml_X10_40) rfl (v := .ref (Z.1 16)) rfl hd kk
theorem ml_X10_47 : Cond.fieldLink RX10 47 RX10 (TX10 5).2.1 (TX10 5).2.2.1 ∈ TW := TW_of 484 (by decide +kernel) (by decide +kernel)
theorem xg_X10_47 (C : CX p s m args meth c cc RX10 nL ret Z) (hW : XW Z h g s.heap H locs) {o : Nat} (hk : knd o = 8) {α : Type} {K : Nat → Option α} {out : α} (hf : ckp (h o 5) 4 K = some out) (hd : decode cc pc = .ok (.getfield 47, 3)) (kk : ∀ r : Nat, knd r = 4 → K r = some out → W p l e R s m args below meth c H locs cells slots Q (F0 m (pc + 3) ls (.ref (Z.1 r) :: rest))) : W p l e R s m args below meth c H locs cells slots Q (F0 m pc ls (.ref (Z.1 o) :: rest)) := by
  obtain ⟨h1, h2⟩ := ckp_t hf
  exact x_get C hW (wk8 hk) rfl wsX10_in 5 (by decide) (ml_X10_47) rfl (v := .ref (Z.1 (ix (h o 5)))) rfl hd (kk _ h1 h2)
theorem xp_X10_47 (C : CX p s m args meth c cc RX10 nL ret Z) (hW : XW Z h g s.heap H locs) {o : Nat} (hk : knd o = 8) {r : Nat} (hr : knd r = 4) {α : Type} {K : Hp → Option α} {out : α} (hf : stp (up h o 5 (nI r)) K = some out) (hd : decode cc pc = .ok (.putfield 47, 3)) (kk : ∀ (h1 : Hp) (H1 : Heap) (locs1 : List Loc), K h1 = some out → XW Z h1 g s.heap H1 locs1 → W p l e R s m args below meth c H1 locs1 cells slots Q (F0 m (pc + 3) ls rest)) : W p l e R s m args below meth c H locs cells slots Q (F0 m pc ls (.ref (Z.1 r) :: .ref (Z.1 o) :: rest)) := by
  have hs : (wl Z h g).set o (Z.1 o, .inr (8, ([.ref (Z.1 1), .ref (Z.1 3), .ref (Z.1 13), .ref (Z.1 15), .ref (Z.1 16), .ref (Z.1 (ix (h o 5))), .ref (Z.1 (ix (h o 6)))]).set 5 (.ref (Z.1 r)))) = wl Z (up h o 5 (nI r)) g := by
    have h1 := k_lt hk (by decide)
    refine wl_set h1 ?_ mx_upl
    rw [mx_l (kl_C o h1 (by omega)), up_eq]
    rw [cel_k hk]
    have e1 : ix (nI r) = r := nI_clamp (Nat.lt_of_lt_of_le (k_lt hr (by decide)) (by decide))
    show (Sum.inr (8, ([.ref (Z.1 1), .ref (Z.1 3), .ref (Z.1 13), .ref (Z.1 15), .ref (Z.1 16), .ref (Z.1 (ix (nI r))), .ref (Z.1 (ix (h o 6)))] : List Value)) : va_E) = _
    rw [e1]
    rfl
  exact x_put C hW (wk8 hk) rfl wsX10_in tyX10 tyX10_ok nmX10 5 (by decide) (ml_X10_47) rfl rfl (ty := .object "TranscriptCutter$Recording") (by decide +kernel) (rfl) (rfl) (Nat.le_of_ble_eq_true rfl) hs hd (fun H1 locs1 q => kk _ H1 locs1 hf q)
theorem ml_X10_54 : Cond.fieldLink RX10 54 RX10 (TX10 6).2.1 (TX10 6).2.2.1 ∈ TW := TW_of 485 (by decide +kernel) (by decide +kernel)
theorem xg_X10_54 (C : CX p s m args meth c cc RX10 nL ret Z) (hW : XW Z h g s.heap H locs) {o : Nat} (hk : knd o = 8) {α : Type} {K : Nat → Option α} {out : α} (hf : ckp (h o 6) 6 K = some out) (hd : decode cc pc = .ok (.getfield 54, 3)) (kk : ∀ r : Nat, knd r = 6 → K r = some out → W p l e R s m args below meth c H locs cells slots Q (F0 m (pc + 3) ls (.ref (Z.1 r) :: rest))) : W p l e R s m args below meth c H locs cells slots Q (F0 m pc ls (.ref (Z.1 o) :: rest)) := by
  obtain ⟨h1, h2⟩ := ckp_t hf
  exact x_get C hW (wk8 hk) rfl wsX10_in 6 (by decide) (ml_X10_54) rfl (v := .ref (Z.1 (ix (h o 6)))) rfl hd (kk _ h1 h2)
theorem xp_X10_54 (C : CX p s m args meth c cc RX10 nL ret Z) (hW : XW Z h g s.heap H locs) {o : Nat} (hk : knd o = 8) {r : Nat} (hr : knd r = 6) {α : Type} {K : Hp → Option α} {out : α} (hf : stp (up h o 6 (nI r)) K = some out) (hd : decode cc pc = .ok (.putfield 54, 3)) (kk : ∀ (h1 : Hp) (H1 : Heap) (locs1 : List Loc), K h1 = some out → XW Z h1 g s.heap H1 locs1 → W p l e R s m args below meth c H1 locs1 cells slots Q (F0 m (pc + 3) ls rest)) : W p l e R s m args below meth c H locs cells slots Q (F0 m pc ls (.ref (Z.1 r) :: .ref (Z.1 o) :: rest)) := by
  have hs : (wl Z h g).set o (Z.1 o, .inr (8, ([.ref (Z.1 1), .ref (Z.1 3), .ref (Z.1 13), .ref (Z.1 15), .ref (Z.1 16), .ref (Z.1 (ix (h o 5))), .ref (Z.1 (ix (h o 6)))]).set 6 (.ref (Z.1 r)))) = wl Z (up h o 6 (nI r)) g := by
    have h1 := k_lt hk (by decide)
    refine wl_set h1 ?_ mx_upl
    rw [mx_l (kl_C o h1 (by omega)), up_eq]
    rw [cel_k hk]
    have e1 : ix (nI r) = r := nI_clamp (Nat.lt_of_lt_of_le (k_lt hr (by decide)) (by decide))
    show (Sum.inr (8, ([.ref (Z.1 1), .ref (Z.1 3), .ref (Z.1 13), .ref (Z.1 15), .ref (Z.1 16), .ref (Z.1 (ix (h o 5))), .ref (Z.1 (ix (nI r)))] : List Value)) : va_E) = _
    rw [e1]
    rfl
  exact x_put C hW (wk8 hk) rfl wsX10_in tyX10 tyX10_ok nmX10 6 (by decide) (ml_X10_54) rfl rfl (ty := .object "TranscriptCutter$Script") (by decide +kernel) (rfl) (rfl) (Nat.le_of_ble_eq_true rfl) hs hd (fun H1 locs1 q => kk _ H1 locs1 hf q)
theorem ml_X11_3 : Cond.fieldLink RX11 3 RX11 (TX11 0).2.1 (TX11 0).2.2.1 ∈ TW := TW_of 1395 (by decide +kernel) (by decide +kernel)
theorem xg_X11_3 (C : CX p s m args meth c cc RX11 nL ret Z) (hW : XW Z h g s.heap H locs) {o : Nat} (hk : knd o = 9) (hd : decode cc pc = .ok (.getfield 3, 3)) (kk : W p l e R s m args below meth c H locs cells slots Q (F0 m (pc + 3) ls (.int (g o 0) :: rest))) : W p l e R s m args below meth c H locs cells slots Q (F0 m pc ls (.ref (Z.1 o) :: rest)) := x_get C hW (wk9 hk) rfl wsX11_in 0 (by decide) (ml_X11_3) rfl (v := .int (g o 0)) rfl hd kk
theorem xp_X11_3 (C : CX p s m args meth c cc RX11 nL ret Z) (hW : XW Z h g s.heap H locs) {o : Nat} (hk : knd o = 9) {v : Int32} {α : Type} {K : Hp → Option α} {out : α} (hf : stp (up g o 0 v) K = some out) (hd : decode cc pc = .ok (.putfield 3, 3)) (kk : ∀ (h1 : Hp) (H1 : Heap) (locs1 : List Loc), K h1 = some out → XW Z h h1 s.heap H1 locs1 → W p l e R s m args below meth c H1 locs1 cells slots Q (F0 m (pc + 3) ls rest)) : W p l e R s m args below meth c H locs cells slots Q (F0 m pc ls (.int v :: .ref (Z.1 o) :: rest)) := by
  have hs : (wl Z h g).set o (Z.1 o, .inr (9, ([.int (g o 0), .ref (Z.1 126), .ref (Z.1 127), .int (g o 3), .ref (Z.1 128), .ref (Z.1 129), .ref (Z.1 130), .ref (Z.1 131), .ref (Z.1 132), .ref (Z.1 133), .ref (Z.1 134), .ref (Z.1 135), .ref (Z.1 136), .int (g o 13), .ref (Z.1 137), .ref (Z.1 138), .int (g o 16), .int (g o 17), .int (g o 18), .int (g o 19), .int (g o 20), .int (g o 21), .int (g o 22), .int (g o 23), .ref (Z.1 139), .ref (Z.1 140), .int (g o 26), .int (g o 27), .int (g o 28), .int (g o 29), .int (g o 30), .int (g o 31), .int (g o 32), .int (g o 33), .ref (Z.1 141), .ref (Z.1 142), .int (g o 36), .ref (Z.1 143), .int (g o 38), .int (g o 39), .int (g o 40), .ref (Z.1 144), .int (g o 42)]).set 0 (.int v))) = wl Z h (up g o 0 v) := by
    have h1 := k_lt hk (by decide)
    refine wl_set h1 ?_ mx_upr
    rw [mx_r (kl_M o h1 hk), up_eq]
    rw [cel_k hk]
    rfl
  exact x_put C hW (wk9 hk) rfl wsX11_in tyX11 tyX11_ok nmX11 0 (by decide) (ml_X11_3) rfl rfl (ty := .int) (by decide +kernel) (rfl) (rfl) (Nat.le_of_ble_eq_true rfl) hs hd (fun H1 locs1 q => kk _ H1 locs1 hf q)
theorem ml_X11_13 : Cond.fieldLink RX11 13 RX11 (TX11 1).2.1 (TX11 1).2.2.1 ∈ TW := TW_of 1396 (by decide +kernel) (by decide +kernel)
theorem xg_X11_13 (C : CX p s m args meth c cc RX11 nL ret Z) (hW : XW Z h g s.heap H locs) {o : Nat} (hk : knd o = 9) (hd : decode cc pc = .ok (.getfield 13, 3)) (kk : W p l e R s m args below meth c H locs cells slots Q (F0 m (pc + 3) ls (.ref (Z.1 126) :: rest))) : W p l e R s m args below meth c H locs cells slots Q (F0 m pc ls (.ref (Z.1 o) :: rest)) := x_get C hW (wk9 hk) rfl wsX11_in 1 (by decide) (ml_X11_13) rfl (v := .ref (Z.1 126)) rfl hd kk
theorem ml_X11_17 : Cond.fieldLink RX11 17 RX11 (TX11 2).2.1 (TX11 2).2.2.1 ∈ TW := TW_of 1397 (by decide +kernel) (by decide +kernel)
theorem xg_X11_17 (C : CX p s m args meth c cc RX11 nL ret Z) (hW : XW Z h g s.heap H locs) {o : Nat} (hk : knd o = 9) (hd : decode cc pc = .ok (.getfield 17, 3)) (kk : W p l e R s m args below meth c H locs cells slots Q (F0 m (pc + 3) ls (.ref (Z.1 127) :: rest))) : W p l e R s m args below meth c H locs cells slots Q (F0 m pc ls (.ref (Z.1 o) :: rest)) := x_get C hW (wk9 hk) rfl wsX11_in 2 (by decide) (ml_X11_17) rfl (v := .ref (Z.1 127)) rfl hd kk
theorem ml_X11_84 : Cond.fieldLink RX11 84 RX11 (TX11 3).2.1 (TX11 3).2.2.1 ∈ TW := TW_of 1398 (by decide +kernel) (by decide +kernel)
theorem xg_X11_84 (C : CX p s m args meth c cc RX11 nL ret Z) (hW : XW Z h g s.heap H locs) {o : Nat} (hk : knd o = 9) (hd : decode cc pc = .ok (.getfield 84, 3)) (kk : W p l e R s m args below meth c H locs cells slots Q (F0 m (pc + 3) ls (.int (g o 3) :: rest))) : W p l e R s m args below meth c H locs cells slots Q (F0 m pc ls (.ref (Z.1 o) :: rest)) := x_get C hW (wk9 hk) rfl wsX11_in 3 (by decide) (ml_X11_84) rfl (v := .int (g o 3)) rfl hd kk
theorem xp_X11_84 (C : CX p s m args meth c cc RX11 nL ret Z) (hW : XW Z h g s.heap H locs) {o : Nat} (hk : knd o = 9) {v : Int32} {α : Type} {K : Hp → Option α} {out : α} (hf : stp (up g o 3 v) K = some out) (hd : decode cc pc = .ok (.putfield 84, 3)) (kk : ∀ (h1 : Hp) (H1 : Heap) (locs1 : List Loc), K h1 = some out → XW Z h h1 s.heap H1 locs1 → W p l e R s m args below meth c H1 locs1 cells slots Q (F0 m (pc + 3) ls rest)) : W p l e R s m args below meth c H locs cells slots Q (F0 m pc ls (.int v :: .ref (Z.1 o) :: rest)) := by
  have hs : (wl Z h g).set o (Z.1 o, .inr (9, ([.int (g o 0), .ref (Z.1 126), .ref (Z.1 127), .int (g o 3), .ref (Z.1 128), .ref (Z.1 129), .ref (Z.1 130), .ref (Z.1 131), .ref (Z.1 132), .ref (Z.1 133), .ref (Z.1 134), .ref (Z.1 135), .ref (Z.1 136), .int (g o 13), .ref (Z.1 137), .ref (Z.1 138), .int (g o 16), .int (g o 17), .int (g o 18), .int (g o 19), .int (g o 20), .int (g o 21), .int (g o 22), .int (g o 23), .ref (Z.1 139), .ref (Z.1 140), .int (g o 26), .int (g o 27), .int (g o 28), .int (g o 29), .int (g o 30), .int (g o 31), .int (g o 32), .int (g o 33), .ref (Z.1 141), .ref (Z.1 142), .int (g o 36), .ref (Z.1 143), .int (g o 38), .int (g o 39), .int (g o 40), .ref (Z.1 144), .int (g o 42)]).set 3 (.int v))) = wl Z h (up g o 3 v) := by
    have h1 := k_lt hk (by decide)
    refine wl_set h1 ?_ mx_upr
    rw [mx_r (kl_M o h1 hk), up_eq]
    rw [cel_k hk]
    rfl
  exact x_put C hW (wk9 hk) rfl wsX11_in tyX11 tyX11_ok nmX11 3 (by decide) (ml_X11_84) rfl rfl (ty := .int) (by decide +kernel) (rfl) (rfl) (Nat.le_of_ble_eq_true rfl) hs hd (fun H1 locs1 q => kk _ H1 locs1 hf q)
theorem ml_X11_20 : Cond.fieldLink RX11 20 RX11 (TX11 4).2.1 (TX11 4).2.2.1 ∈ TW := TW_of 1399 (by decide +kernel) (by decide +kernel)
theorem xg_X11_20 (C : CX p s m args meth c cc RX11 nL ret Z) (hW : XW Z h g s.heap H locs) {o : Nat} (hk : knd o = 9) (hd : decode cc pc = .ok (.getfield 20, 3)) (kk : W p l e R s m args below meth c H locs cells slots Q (F0 m (pc + 3) ls (.ref (Z.1 128) :: rest))) : W p l e R s m args below meth c H locs cells slots Q (F0 m pc ls (.ref (Z.1 o) :: rest)) := x_get C hW (wk9 hk) rfl wsX11_in 4 (by decide) (ml_X11_20) rfl (v := .ref (Z.1 128)) rfl hd kk
theorem ml_X11_23 : Cond.fieldLink RX11 23 RX11 (TX11 5).2.1 (TX11 5).2.2.1 ∈ TW := TW_of 1400 (by decide +kernel) (by decide +kernel)
theorem xg_X11_23 (C : CX p s m args meth c cc RX11 nL ret Z) (hW : XW Z h g s.heap H locs) {o : Nat} (hk : knd o = 9) (hd : decode cc pc = .ok (.getfield 23, 3)) (kk : W p l e R s m args below meth c H locs cells slots Q (F0 m (pc + 3) ls (.ref (Z.1 129) :: rest))) : W p l e R s m args below meth c H locs cells slots Q (F0 m pc ls (.ref (Z.1 o) :: rest)) := x_get C hW (wk9 hk) rfl wsX11_in 5 (by decide) (ml_X11_23) rfl (v := .ref (Z.1 129)) rfl hd kk
theorem ml_X11_26 : Cond.fieldLink RX11 26 RX11 (TX11 6).2.1 (TX11 6).2.2.1 ∈ TW := TW_of 1401 (by decide +kernel) (by decide +kernel)
theorem xg_X11_26 (C : CX p s m args meth c cc RX11 nL ret Z) (hW : XW Z h g s.heap H locs) {o : Nat} (hk : knd o = 9) (hd : decode cc pc = .ok (.getfield 26, 3)) (kk : W p l e R s m args below meth c H locs cells slots Q (F0 m (pc + 3) ls (.ref (Z.1 130) :: rest))) : W p l e R s m args below meth c H locs cells slots Q (F0 m pc ls (.ref (Z.1 o) :: rest)) := x_get C hW (wk9 hk) rfl wsX11_in 6 (by decide) (ml_X11_26) rfl (v := .ref (Z.1 130)) rfl hd kk
theorem ml_X11_29 : Cond.fieldLink RX11 29 RX11 (TX11 7).2.1 (TX11 7).2.2.1 ∈ TW := TW_of 1402 (by decide +kernel) (by decide +kernel)
theorem xg_X11_29 (C : CX p s m args meth c cc RX11 nL ret Z) (hW : XW Z h g s.heap H locs) {o : Nat} (hk : knd o = 9) (hd : decode cc pc = .ok (.getfield 29, 3)) (kk : W p l e R s m args below meth c H locs cells slots Q (F0 m (pc + 3) ls (.ref (Z.1 131) :: rest))) : W p l e R s m args below meth c H locs cells slots Q (F0 m pc ls (.ref (Z.1 o) :: rest)) := x_get C hW (wk9 hk) rfl wsX11_in 7 (by decide) (ml_X11_29) rfl (v := .ref (Z.1 131)) rfl hd kk
theorem ml_X11_32 : Cond.fieldLink RX11 32 RX11 (TX11 8).2.1 (TX11 8).2.2.1 ∈ TW := TW_of 1403 (by decide +kernel) (by decide +kernel)
theorem xg_X11_32 (C : CX p s m args meth c cc RX11 nL ret Z) (hW : XW Z h g s.heap H locs) {o : Nat} (hk : knd o = 9) (hd : decode cc pc = .ok (.getfield 32, 3)) (kk : W p l e R s m args below meth c H locs cells slots Q (F0 m (pc + 3) ls (.ref (Z.1 132) :: rest))) : W p l e R s m args below meth c H locs cells slots Q (F0 m pc ls (.ref (Z.1 o) :: rest)) := x_get C hW (wk9 hk) rfl wsX11_in 8 (by decide) (ml_X11_32) rfl (v := .ref (Z.1 132)) rfl hd kk
theorem ml_X11_35 : Cond.fieldLink RX11 35 RX11 (TX11 9).2.1 (TX11 9).2.2.1 ∈ TW := TW_of 1404 (by decide +kernel) (by decide +kernel)
theorem xg_X11_35 (C : CX p s m args meth c cc RX11 nL ret Z) (hW : XW Z h g s.heap H locs) {o : Nat} (hk : knd o = 9) (hd : decode cc pc = .ok (.getfield 35, 3)) (kk : W p l e R s m args below meth c H locs cells slots Q (F0 m (pc + 3) ls (.ref (Z.1 133) :: rest))) : W p l e R s m args below meth c H locs cells slots Q (F0 m pc ls (.ref (Z.1 o) :: rest)) := x_get C hW (wk9 hk) rfl wsX11_in 9 (by decide) (ml_X11_35) rfl (v := .ref (Z.1 133)) rfl hd kk
theorem ml_X11_38 : Cond.fieldLink RX11 38 RX11 (TX11 10).2.1 (TX11 10).2.2.1 ∈ TW := TW_of 1405 (by decide +kernel) (by decide +kernel)
theorem xg_X11_38 (C : CX p s m args meth c cc RX11 nL ret Z) (hW : XW Z h g s.heap H locs) {o : Nat} (hk : knd o = 9) (hd : decode cc pc = .ok (.getfield 38, 3)) (kk : W p l e R s m args below meth c H locs cells slots Q (F0 m (pc + 3) ls (.ref (Z.1 134) :: rest))) : W p l e R s m args below meth c H locs cells slots Q (F0 m pc ls (.ref (Z.1 o) :: rest)) := x_get C hW (wk9 hk) rfl wsX11_in 10 (by decide) (ml_X11_38) rfl (v := .ref (Z.1 134)) rfl hd kk
theorem ml_X11_41 : Cond.fieldLink RX11 41 RX11 (TX11 11).2.1 (TX11 11).2.2.1 ∈ TW := TW_of 1406 (by decide +kernel) (by decide +kernel)
theorem xg_X11_41 (C : CX p s m args meth c cc RX11 nL ret Z) (hW : XW Z h g s.heap H locs) {o : Nat} (hk : knd o = 9) (hd : decode cc pc = .ok (.getfield 41, 3)) (kk : W p l e R s m args below meth c H locs cells slots Q (F0 m (pc + 3) ls (.ref (Z.1 135) :: rest))) : W p l e R s m args below meth c H locs cells slots Q (F0 m pc ls (.ref (Z.1 o) :: rest)) := x_get C hW (wk9 hk) rfl wsX11_in 11 (by decide) (ml_X11_41) rfl (v := .ref (Z.1 135)) rfl hd kk
theorem ml_X11_44 : Cond.fieldLink RX11 44 RX11 (TX11 12).2.1 (TX11 12).2.2.1 ∈ TW := TW_of 1407 (by decide +kernel) (by decide +kernel)
theorem xg_X11_44 (C : CX p s m args meth c cc RX11 nL ret Z) (hW : XW Z h g s.heap H locs) {o : Nat} (hk : knd o = 9) (hd : decode cc pc = .ok (.getfield 44, 3)) (kk : W p l e R s m args below meth c H locs cells slots Q (F0 m (pc + 3) ls (.ref (Z.1 136) :: rest))) : W p l e R s m args below meth c H locs cells slots Q (F0 m pc ls (.ref (Z.1 o) :: rest)) := x_get C hW (wk9 hk) rfl wsX11_in 12 (by decide) (ml_X11_44) rfl (v := .ref (Z.1 136)) rfl hd kk
theorem ml_X11_87 : Cond.fieldLink RX11 87 RX11 (TX11 13).2.1 (TX11 13).2.2.1 ∈ TW := TW_of 1408 (by decide +kernel) (by decide +kernel)
theorem xg_X11_87 (C : CX p s m args meth c cc RX11 nL ret Z) (hW : XW Z h g s.heap H locs) {o : Nat} (hk : knd o = 9) (hd : decode cc pc = .ok (.getfield 87, 3)) (kk : W p l e R s m args below meth c H locs cells slots Q (F0 m (pc + 3) ls (.int (g o 13) :: rest))) : W p l e R s m args below meth c H locs cells slots Q (F0 m pc ls (.ref (Z.1 o) :: rest)) := x_get C hW (wk9 hk) rfl wsX11_in 13 (by decide) (ml_X11_87) rfl (v := .int (g o 13)) rfl hd kk
theorem xp_X11_87 (C : CX p s m args meth c cc RX11 nL ret Z) (hW : XW Z h g s.heap H locs) {o : Nat} (hk : knd o = 9) {v : Int32} {α : Type} {K : Hp → Option α} {out : α} (hf : stp (up g o 13 v) K = some out) (hd : decode cc pc = .ok (.putfield 87, 3)) (kk : ∀ (h1 : Hp) (H1 : Heap) (locs1 : List Loc), K h1 = some out → XW Z h h1 s.heap H1 locs1 → W p l e R s m args below meth c H1 locs1 cells slots Q (F0 m (pc + 3) ls rest)) : W p l e R s m args below meth c H locs cells slots Q (F0 m pc ls (.int v :: .ref (Z.1 o) :: rest)) := by
  have hs : (wl Z h g).set o (Z.1 o, .inr (9, ([.int (g o 0), .ref (Z.1 126), .ref (Z.1 127), .int (g o 3), .ref (Z.1 128), .ref (Z.1 129), .ref (Z.1 130), .ref (Z.1 131), .ref (Z.1 132), .ref (Z.1 133), .ref (Z.1 134), .ref (Z.1 135), .ref (Z.1 136), .int (g o 13), .ref (Z.1 137), .ref (Z.1 138), .int (g o 16), .int (g o 17), .int (g o 18), .int (g o 19), .int (g o 20), .int (g o 21), .int (g o 22), .int (g o 23), .ref (Z.1 139), .ref (Z.1 140), .int (g o 26), .int (g o 27), .int (g o 28), .int (g o 29), .int (g o 30), .int (g o 31), .int (g o 32), .int (g o 33), .ref (Z.1 141), .ref (Z.1 142), .int (g o 36), .ref (Z.1 143), .int (g o 38), .int (g o 39), .int (g o 40), .ref (Z.1 144), .int (g o 42)]).set 13 (.int v))) = wl Z h (up g o 13 v) := by
    have h1 := k_lt hk (by decide)
    refine wl_set h1 ?_ mx_upr
    rw [mx_r (kl_M o h1 hk), up_eq]
    rw [cel_k hk]
    rfl
  exact x_put C hW (wk9 hk) rfl wsX11_in tyX11 tyX11_ok nmX11 13 (by decide) (ml_X11_87) rfl rfl (ty := .int) (by decide +kernel) (rfl) (rfl) (Nat.le_of_ble_eq_true rfl) hs hd (fun H1 locs1 q => kk _ H1 locs1 hf q)
theorem ml_X11_47 : Cond.fieldLink RX11 47 RX11 (TX11 14).2.1 (TX11 14).2.2.1 ∈ TW := TW_of 1409 (by decide +kernel) (by decide +kernel)
theorem xg_X11_47 (C : CX p s m args meth c cc RX11 nL ret Z) (hW : XW Z h g s.heap H locs) {o : Nat} (hk : knd o = 9) (hd : decode cc pc = .ok (.getfield 47, 3)) (kk : W p l e R s m args below meth c H locs cells slots Q (F0 m (pc + 3) ls (.ref (Z.1 137) :: rest))) : W p l e R s m args below meth c H locs cells slots Q (F0 m pc ls (.ref (Z.1 o) :: rest)) := x_get C hW (wk9 hk) rfl wsX11_in 14 (by decide) (ml_X11_47) rfl (v := .ref (Z.1 137)) rfl hd kk
theorem ml_X11_51 : Cond.fieldLink RX11 51 RX11 (TX11 15).2.1 (TX11 15).2.2.1 ∈ TW := TW_of 1410 (by decide +kernel) (by decide +kernel)
theorem xg_X11_51 (C : CX p s m args meth c cc RX11 nL ret Z) (hW : XW Z h g s.heap H locs) {o : Nat} (hk : knd o = 9) (hd : decode cc pc = .ok (.getfield 51, 3)) (kk : W p l e R s m args below meth c H locs cells slots Q (F0 m (pc + 3) ls (.ref (Z.1 138) :: rest))) : W p l e R s m args below meth c H locs cells slots Q (F0 m pc ls (.ref (Z.1 o) :: rest)) := x_get C hW (wk9 hk) rfl wsX11_in 15 (by decide) (ml_X11_51) rfl (v := .ref (Z.1 138)) rfl hd kk
theorem ml_X11_110 : Cond.fieldLink RX11 110 RX11 (TX11 16).2.1 (TX11 16).2.2.1 ∈ TW := TW_of 1411 (by decide +kernel) (by decide +kernel)
theorem xg_X11_110 (C : CX p s m args meth c cc RX11 nL ret Z) (hW : XW Z h g s.heap H locs) {o : Nat} (hk : knd o = 9) (hd : decode cc pc = .ok (.getfield 110, 3)) (kk : W p l e R s m args below meth c H locs cells slots Q (F0 m (pc + 3) ls (.int (g o 16) :: rest))) : W p l e R s m args below meth c H locs cells slots Q (F0 m pc ls (.ref (Z.1 o) :: rest)) := x_get C hW (wk9 hk) rfl wsX11_in 16 (by decide) (ml_X11_110) rfl (v := .int (g o 16)) rfl hd kk
theorem xp_X11_110 (C : CX p s m args meth c cc RX11 nL ret Z) (hW : XW Z h g s.heap H locs) {o : Nat} (hk : knd o = 9) {v : Int32} {α : Type} {K : Hp → Option α} {out : α} (hf : stp (up g o 16 v) K = some out) (hd : decode cc pc = .ok (.putfield 110, 3)) (kk : ∀ (h1 : Hp) (H1 : Heap) (locs1 : List Loc), K h1 = some out → XW Z h h1 s.heap H1 locs1 → W p l e R s m args below meth c H1 locs1 cells slots Q (F0 m (pc + 3) ls rest)) : W p l e R s m args below meth c H locs cells slots Q (F0 m pc ls (.int v :: .ref (Z.1 o) :: rest)) := by
  have hs : (wl Z h g).set o (Z.1 o, .inr (9, ([.int (g o 0), .ref (Z.1 126), .ref (Z.1 127), .int (g o 3), .ref (Z.1 128), .ref (Z.1 129), .ref (Z.1 130), .ref (Z.1 131), .ref (Z.1 132), .ref (Z.1 133), .ref (Z.1 134), .ref (Z.1 135), .ref (Z.1 136), .int (g o 13), .ref (Z.1 137), .ref (Z.1 138), .int (g o 16), .int (g o 17), .int (g o 18), .int (g o 19), .int (g o 20), .int (g o 21), .int (g o 22), .int (g o 23), .ref (Z.1 139), .ref (Z.1 140), .int (g o 26), .int (g o 27), .int (g o 28), .int (g o 29), .int (g o 30), .int (g o 31), .int (g o 32), .int (g o 33), .ref (Z.1 141), .ref (Z.1 142), .int (g o 36), .ref (Z.1 143), .int (g o 38), .int (g o 39), .int (g o 40), .ref (Z.1 144), .int (g o 42)]).set 16 (.int v))) = wl Z h (up g o 16 v) := by
    have h1 := k_lt hk (by decide)
    refine wl_set h1 ?_ mx_upr
    rw [mx_r (kl_M o h1 hk), up_eq]
    rw [cel_k hk]
    rfl
  exact x_put C hW (wk9 hk) rfl wsX11_in tyX11 tyX11_ok nmX11 16 (by decide) (ml_X11_110) rfl rfl (ty := .int) (by decide +kernel) (rfl) (rfl) (Nat.le_of_ble_eq_true rfl) hs hd (fun H1 locs1 q => kk _ H1 locs1 hf q)
theorem ml_X11_119 : Cond.fieldLink RX11 119 RX11 (TX11 17).2.1 (TX11 17).2.2.1 ∈ TW := TW_of 1412 (by decide +kernel) (by decide +kernel)
theorem xg_X11_119 (C : CX p s m args meth c cc RX11 nL ret Z) (hW : XW Z h g s.heap H locs) {o : Nat} (hk : knd o = 9) (hd : decode cc pc = .ok (.getfield 119, 3)) (kk : W p l e R s m args below meth c H locs cells slots Q (F0 m (pc + 3) ls (.int (g o 17) :: rest))) : W p l e R s m args below meth c H locs cells slots Q (F0 m pc ls (.ref (Z.1 o) :: rest)) := x_get C hW (wk9 hk) rfl wsX11_in 17 (by decide) (ml_X11_119) rfl (v := .int (g o 17)) rfl hd kk
theorem xp_X11_119 (C : CX p s m args meth c cc RX11 nL ret Z) (hW : XW Z h g s.heap H locs) {o : Nat} (hk : knd o = 9) {v : Int32} {α : Type} {K : Hp → Option α} {out : α} (hf : stp (up g o 17 v) K = some out) (hd : decode cc pc = .ok (.putfield 119, 3)) (kk : ∀ (h1 : Hp) (H1 : Heap) (locs1 : List Loc), K h1 = some out → XW Z h h1 s.heap H1 locs1 → W p l e R s m args below meth c H1 locs1 cells slots Q (F0 m (pc + 3) ls rest)) : W p l e R s m args below meth c H locs cells slots Q (F0 m pc ls (.int v :: .ref (Z.1 o) :: rest)) := by
  have hs : (wl Z h g).set o (Z.1 o, .inr (9, ([.int (g o 0), .ref (Z.1 126), .ref (Z.1 127), .int (g o 3), .ref (Z.1 128), .ref (Z.1 129), .ref (Z.1 130), .ref (Z.1 131), .ref (Z.1 132), .ref (Z.1 133), .ref (Z.1 134), .ref (Z.1 135), .ref (Z.1 136), .int (g o 13), .ref (Z.1 137), .ref (Z.1 138), .int (g o 16), .int (g o 17), .int (g o 18), .int (g o 19), .int (g o 20), .int (g o 21), .int (g o 22), .int (g o 23), .ref (Z.1 139), .ref (Z.1 140), .int (g o 26), .int (g o 27), .int (g o 28), .int (g o 29), .int (g o 30), .int (g o 31), .int (g o 32), .int (g o 33), .ref (Z.1 141), .ref (Z.1 142), .int (g o 36), .ref (Z.1 143), .int (g o 38), .int (g o 39), .int (g o 40), .ref (Z.1 144), .int (g o 42)]).set 17 (.int v))) = wl Z h (up g o 17 v) := by
    have h1 := k_lt hk (by decide)
    refine wl_set h1 ?_ mx_upr
    rw [mx_r (kl_M o h1 hk), up_eq]
    rw [cel_k hk]
    rfl
  exact x_put C hW (wk9 hk) rfl wsX11_in tyX11 tyX11_ok nmX11 17 (by decide) (ml_X11_119) rfl rfl (ty := .int) (by decide +kernel) (rfl) (rfl) (Nat.le_of_ble_eq_true rfl) hs hd (fun H1 locs1 q => kk _ H1 locs1 hf q)
theorem ml_X11_133 : Cond.fieldLink RX11 133 RX11 (TX11 18).2.1 (TX11 18).2.2.1 ∈ TW := TW_of 1413 (by decide +kernel) (by decide +kernel)
theorem xg_X11_133 (C : CX p s m args meth c cc RX11 nL ret Z) (hW : XW Z h g s.heap H locs) {o : Nat} (hk : knd o = 9) (hd : decode cc pc = .ok (.getfield 133, 3)) (kk : W p l e R s m args below meth c H locs cells slots Q (F0 m (pc + 3) ls (.int (g o 18) :: rest))) : W p l e R s m args below meth c H locs cells slots Q (F0 m pc ls (.ref (Z.1 o) :: rest)) := x_get C hW (wk9 hk) rfl wsX11_in 18 (by decide) (ml_X11_133) rfl (v := .int (g o 18)) rfl hd kk
theorem xp_X11_133 (C : CX p s m args meth c cc RX11 nL ret Z) (hW : XW Z h g s.heap H locs) {o : Nat} (hk : knd o = 9) {v : Int32} {α : Type} {K : Hp → Option α} {out : α} (hf : stp (up g o 18 v) K = some out) (hd : decode cc pc = .ok (.putfield 133, 3)) (kk : ∀ (h1 : Hp) (H1 : Heap) (locs1 : List Loc), K h1 = some out → XW Z h h1 s.heap H1 locs1 → W p l e R s m args below meth c H1 locs1 cells slots Q (F0 m (pc + 3) ls rest)) : W p l e R s m args below meth c H locs cells slots Q (F0 m pc ls (.int v :: .ref (Z.1 o) :: rest)) := by
  have hs : (wl Z h g).set o (Z.1 o, .inr (9, ([.int (g o 0), .ref (Z.1 126), .ref (Z.1 127), .int (g o 3), .ref (Z.1 128), .ref (Z.1 129), .ref (Z.1 130), .ref (Z.1 131), .ref (Z.1 132), .ref (Z.1 133), .ref (Z.1 134), .ref (Z.1 135), .ref (Z.1 136), .int (g o 13), .ref (Z.1 137), .ref (Z.1 138), .int (g o 16), .int (g o 17), .int (g o 18), .int (g o 19), .int (g o 20), .int (g o 21), .int (g o 22), .int (g o 23), .ref (Z.1 139), .ref (Z.1 140), .int (g o 26), .int (g o 27), .int (g o 28), .int (g o 29), .int (g o 30), .int (g o 31), .int (g o 32), .int (g o 33), .ref (Z.1 141), .ref (Z.1 142), .int (g o 36), .ref (Z.1 143), .int (g o 38), .int (g o 39), .int (g o 40), .ref (Z.1 144), .int (g o 42)]).set 18 (.int v))) = wl Z h (up g o 18 v) := by
    have h1 := k_lt hk (by decide)
    refine wl_set h1 ?_ mx_upr
    rw [mx_r (kl_M o h1 hk), up_eq]
    rw [cel_k hk]
    rfl
  exact x_put C hW (wk9 hk) rfl wsX11_in tyX11 tyX11_ok nmX11 18 (by decide) (ml_X11_133) rfl rfl (ty := .int) (by decide +kernel) (rfl) (rfl) (Nat.le_of_ble_eq_true rfl) hs hd (fun H1 locs1 q => kk _ H1 locs1 hf q)
theorem ml_X11_122 : Cond.fieldLink RX11 122 RX11 (TX11 19).2.1 (TX11 19).2.2.1 ∈ TW := TW_of 1414 (by decide +kernel) (by decide +kernel)
theorem xg_X11_122 (C : CX p s m args meth c cc RX11 nL ret Z) (hW : XW Z h g s.heap H locs) {o : Nat} (hk : knd o = 9) (hd : decode cc pc = .ok (.getfield 122, 3)) (kk : W p l e R s m args below meth c H locs cells slots Q (F0 m (pc + 3) ls (.int (g o 19) :: rest))) : W p l e R s m args below meth c H locs cells slots Q (F0 m pc ls (.ref (Z.1 o) :: rest)) := x_get C hW (wk9 hk) rfl wsX11_in 19 (by decide) (ml_X11_122) rfl (v := .int (g o 19)) rfl hd kk
theorem xp_X11_122 (C : CX p s m args meth c cc RX11 nL ret Z) (hW : XW Z h g s.heap H locs) {o : Nat} (hk : knd o = 9) {v : Int32} {α : Type} {K : Hp → Option α} {out : α} (hf : stp (up g o 19 v) K = some out) (hd : decode cc pc = .ok (.putfield 122, 3)) (kk : ∀ (h1 : Hp) (H1 : Heap) (locs1 : List Loc), K h1 = some out → XW Z h h1 s.heap H1 locs1 → W p l e R s m args below meth c H1 locs1 cells slots Q (F0 m (pc + 3) ls rest)) : W p l e R s m args below meth c H locs cells slots Q (F0 m pc ls (.int v :: .ref (Z.1 o) :: rest)) := by
  have hs : (wl Z h g).set o (Z.1 o, .inr (9, ([.int (g o 0), .ref (Z.1 126), .ref (Z.1 127), .int (g o 3), .ref (Z.1 128), .ref (Z.1 129), .ref (Z.1 130), .ref (Z.1 131), .ref (Z.1 132), .ref (Z.1 133), .ref (Z.1 134), .ref (Z.1 135), .ref (Z.1 136), .int (g o 13), .ref (Z.1 137), .ref (Z.1 138), .int (g o 16), .int (g o 17), .int (g o 18), .int (g o 19), .int (g o 20), .int (g o 21), .int (g o 22), .int (g o 23), .ref (Z.1 139), .ref (Z.1 140), .int (g o 26), .int (g o 27), .int (g o 28), .int (g o 29), .int (g o 30), .int (g o 31), .int (g o 32), .int (g o 33), .ref (Z.1 141), .ref (Z.1 142), .int (g o 36), .ref (Z.1 143), .int (g o 38), .int (g o 39), .int (g o 40), .ref (Z.1 144), .int (g o 42)]).set 19 (.int v))) = wl Z h (up g o 19 v) := by
    have h1 := k_lt hk (by decide)
    refine wl_set h1 ?_ mx_upr
    rw [mx_r (kl_M o h1 hk), up_eq]
    rw [cel_k hk]
    rfl
  exact x_put C hW (wk9 hk) rfl wsX11_in tyX11 tyX11_ok nmX11 19 (by decide) (ml_X11_122) rfl rfl (ty := .int) (by decide +kernel) (rfl) (rfl) (Nat.le_of_ble_eq_true rfl) hs hd (fun H1 locs1 q => kk _ H1 locs1 hf q)
theorem ml_X11_116 : Cond.fieldLink RX11 116 RX11 (TX11 20).2.1 (TX11 20).2.2.1 ∈ TW := TW_of 1415 (by decide +kernel) (by decide +kernel)
theorem xg_X11_116 (C : CX p s m args meth c cc RX11 nL ret Z) (hW : XW Z h g s.heap H locs) {o : Nat} (hk : knd o = 9) (hd : decode cc pc = .ok (.getfield 116, 3)) (kk : W p l e R s m args below meth c H locs cells slots Q (F0 m (pc + 3) ls (.int (g o 20) :: rest))) : W p l e R s m args below meth c H locs cells slots Q (F0 m pc ls (.ref (Z.1 o) :: rest)) := x_get C hW (wk9 hk) rfl wsX11_in 20 (by decide) (ml_X11_116) rfl (v := .int (g o 20)) rfl hd kk
theorem xp_X11_116 (C : CX p s m args meth c cc RX11 nL ret Z) (hW : XW Z h g s.heap H locs) {o : Nat} (hk : knd o = 9) {v : Int32} {α : Type} {K : Hp → Option α} {out : α} (hf : stp (up g o 20 v) K = some out) (hd : decode cc pc = .ok (.putfield 116, 3)) (kk : ∀ (h1 : Hp) (H1 : Heap) (locs1 : List Loc), K h1 = some out → XW Z h h1 s.heap H1 locs1 → W p l e R s m args below meth c H1 locs1 cells slots Q (F0 m (pc + 3) ls rest)) : W p l e R s m args below meth c H locs cells slots Q (F0 m pc ls (.int v :: .ref (Z.1 o) :: rest)) := by
  have hs : (wl Z h g).set o (Z.1 o, .inr (9, ([.int (g o 0), .ref (Z.1 126), .ref (Z.1 127), .int (g o 3), .ref (Z.1 128), .ref (Z.1 129), .ref (Z.1 130), .ref (Z.1 131), .ref (Z.1 132), .ref (Z.1 133), .ref (Z.1 134), .ref (Z.1 135), .ref (Z.1 136), .int (g o 13), .ref (Z.1 137), .ref (Z.1 138), .int (g o 16), .int (g o 17), .int (g o 18), .int (g o 19), .int (g o 20), .int (g o 21), .int (g o 22), .int (g o 23), .ref (Z.1 139), .ref (Z.1 140), .int (g o 26), .int (g o 27), .int (g o 28), .int (g o 29), .int (g o 30), .int (g o 31), .int (g o 32), .int (g o 33), .ref (Z.1 141), .ref (Z.1 142), .int (g o 36), .ref (Z.1 143), .int (g o 38), .int (g o 39), .int (g o 40), .ref (Z.1 144), .int (g o 42)]).set 20 (.int v))) = wl Z h (up g o 20 v) := by
    have h1 := k_lt hk (by decide)
    refine wl_set h1 ?_ mx_upr
    rw [mx_r (kl_M o h1 hk), up_eq]
    rw [cel_k hk]
    rfl
  exact x_put C hW (wk9 hk) rfl wsX11_in tyX11 tyX11_ok nmX11 20 (by decide) (ml_X11_116) rfl rfl (ty := .int) (by decide +kernel) (rfl) (rfl) (Nat.le_of_ble_eq_true rfl) hs hd (fun H1 locs1 q => kk _ H1 locs1 hf q)
theorem ml_X11_136 : Cond.fieldLink RX11 136 RX11 (TX11 21).2.1 (TX11 21).2.2.1 ∈ TW := TW_of 1416 (by decide +kernel) (by decide +kernel)
theorem xg_X11_136 (C : CX p s m args meth c cc RX11 nL ret Z) (hW : XW Z h g s.heap H locs) {o : Nat} (hk : knd o = 9) (hd : decode cc pc = .ok (.getfield 136, 3)) (kk : W p l e R s m args below meth c H locs cells slots Q (F0 m (pc + 3) ls (.int (g o 21) :: rest))) : W p l e R s m args below meth c H locs cells slots Q (F0 m pc ls (.ref (Z.1 o) :: rest)) := x_get C hW (wk9 hk) rfl wsX11_in 21 (by decide) (ml_X11_136) rfl (v := .int (g o 21)) rfl hd kk
theorem xp_X11_136 (C : CX p s m args meth c cc RX11 nL ret Z) (hW : XW Z h g s.heap H locs) {o : Nat} (hk : knd o = 9) {v : Int32} {α : Type} {K : Hp → Option α} {out : α} (hf : stp (up g o 21 v) K = some out) (hd : decode cc pc = .ok (.putfield 136, 3)) (kk : ∀ (h1 : Hp) (H1 : Heap) (locs1 : List Loc), K h1 = some out → XW Z h h1 s.heap H1 locs1 → W p l e R s m args below meth c H1 locs1 cells slots Q (F0 m (pc + 3) ls rest)) : W p l e R s m args below meth c H locs cells slots Q (F0 m pc ls (.int v :: .ref (Z.1 o) :: rest)) := by
  have hs : (wl Z h g).set o (Z.1 o, .inr (9, ([.int (g o 0), .ref (Z.1 126), .ref (Z.1 127), .int (g o 3), .ref (Z.1 128), .ref (Z.1 129), .ref (Z.1 130), .ref (Z.1 131), .ref (Z.1 132), .ref (Z.1 133), .ref (Z.1 134), .ref (Z.1 135), .ref (Z.1 136), .int (g o 13), .ref (Z.1 137), .ref (Z.1 138), .int (g o 16), .int (g o 17), .int (g o 18), .int (g o 19), .int (g o 20), .int (g o 21), .int (g o 22), .int (g o 23), .ref (Z.1 139), .ref (Z.1 140), .int (g o 26), .int (g o 27), .int (g o 28), .int (g o 29), .int (g o 30), .int (g o 31), .int (g o 32), .int (g o 33), .ref (Z.1 141), .ref (Z.1 142), .int (g o 36), .ref (Z.1 143), .int (g o 38), .int (g o 39), .int (g o 40), .ref (Z.1 144), .int (g o 42)]).set 21 (.int v))) = wl Z h (up g o 21 v) := by
    have h1 := k_lt hk (by decide)
    refine wl_set h1 ?_ mx_upr
    rw [mx_r (kl_M o h1 hk), up_eq]
    rw [cel_k hk]
    rfl
  exact x_put C hW (wk9 hk) rfl wsX11_in tyX11 tyX11_ok nmX11 21 (by decide) (ml_X11_136) rfl rfl (ty := .int) (by decide +kernel) (rfl) (rfl) (Nat.le_of_ble_eq_true rfl) hs hd (fun H1 locs1 q => kk _ H1 locs1 hf q)
theorem ml_X11_54 : Cond.fieldLink RX11 54 RX11 (TX11 22).2.1 (TX11 22).2.2.1 ∈ TW := TW_of 1417 (by decide +kernel) (by decide +kernel)
theorem xg_X11_54 (C : CX p s m args meth c cc RX11 nL ret Z) (hW : XW Z h g s.heap H locs) {o : Nat} (hk : knd o = 9) (hd : decode cc pc = .ok (.getfield 54, 3)) (kk : W p l e R s m args below meth c H locs cells slots Q (F0 m (pc + 3) ls (.int (g o 22) :: rest))) : W p l e R s m args below meth c H locs cells slots Q (F0 m pc ls (.ref (Z.1 o) :: rest)) := x_get C hW (wk9 hk) rfl wsX11_in 22 (by decide) (ml_X11_54) rfl (v := .int (g o 22)) rfl hd kk
theorem xp_X11_54 (C : CX p s m args meth c cc RX11 nL ret Z) (hW : XW Z h g s.heap H locs) {o : Nat} (hk : knd o = 9) {v : Int32} {α : Type} {K : Hp → Option α} {out : α} (hf : stp (up g o 22 v) K = some out) (hd : decode cc pc = .ok (.putfield 54, 3)) (kk : ∀ (h1 : Hp) (H1 : Heap) (locs1 : List Loc), K h1 = some out → XW Z h h1 s.heap H1 locs1 → W p l e R s m args below meth c H1 locs1 cells slots Q (F0 m (pc + 3) ls rest)) : W p l e R s m args below meth c H locs cells slots Q (F0 m pc ls (.int v :: .ref (Z.1 o) :: rest)) := by
  have hs : (wl Z h g).set o (Z.1 o, .inr (9, ([.int (g o 0), .ref (Z.1 126), .ref (Z.1 127), .int (g o 3), .ref (Z.1 128), .ref (Z.1 129), .ref (Z.1 130), .ref (Z.1 131), .ref (Z.1 132), .ref (Z.1 133), .ref (Z.1 134), .ref (Z.1 135), .ref (Z.1 136), .int (g o 13), .ref (Z.1 137), .ref (Z.1 138), .int (g o 16), .int (g o 17), .int (g o 18), .int (g o 19), .int (g o 20), .int (g o 21), .int (g o 22), .int (g o 23), .ref (Z.1 139), .ref (Z.1 140), .int (g o 26), .int (g o 27), .int (g o 28), .int (g o 29), .int (g o 30), .int (g o 31), .int (g o 32), .int (g o 33), .ref (Z.1 141), .ref (Z.1 142), .int (g o 36), .ref (Z.1 143), .int (g o 38), .int (g o 39), .int (g o 40), .ref (Z.1 144), .int (g o 42)]).set 22 (.int v))) = wl Z h (up g o 22 v) := by
    have h1 := k_lt hk (by decide)
    refine wl_set h1 ?_ mx_upr
    rw [mx_r (kl_M o h1 hk), up_eq]
    rw [cel_k hk]
    rfl
  exact x_put C hW (wk9 hk) rfl wsX11_in tyX11 tyX11_ok nmX11 22 (by decide) (ml_X11_54) rfl rfl (ty := .int) (by decide +kernel) (rfl) (rfl) (Nat.le_of_ble_eq_true rfl) hs hd (fun H1 locs1 q => kk _ H1 locs1 hf q)
theorem ml_X11_113 : Cond.fieldLink RX11 113 RX11 (TX11 23).2.1 (TX11 23).2.2.1 ∈ TW := TW_of 1418 (by decide +kernel) (by decide +kernel)
theorem xg_X11_113 (C : CX p s m args meth c cc RX11 nL ret Z) (hW : XW Z h g s.heap H locs) {o : Nat} (hk : knd o = 9) (hd : decode cc pc = .ok (.getfield 113, 3)) (kk : W p l e R s m args below meth c H locs cells slots Q (F0 m (pc + 3) ls (.int (g o 23) :: rest))) : W p l e R s m args below meth c H locs cells slots Q (F0 m pc ls (.ref (Z.1 o) :: rest)) := x_get C hW (wk9 hk) rfl wsX11_in 23 (by decide) (ml_X11_113) rfl (v := .int (g o 23)) rfl hd kk
theorem xp_X11_113 (C : CX p s m args meth c cc RX11 nL ret Z) (hW : XW Z h g s.heap H locs) {o : Nat} (hk : knd o = 9) {v : Int32} {α : Type} {K : Hp → Option α} {out : α} (hf : stp (up g o 23 v) K = some out) (hd : decode cc pc = .ok (.putfield 113, 3)) (kk : ∀ (h1 : Hp) (H1 : Heap) (locs1 : List Loc), K h1 = some out → XW Z h h1 s.heap H1 locs1 → W p l e R s m args below meth c H1 locs1 cells slots Q (F0 m (pc + 3) ls rest)) : W p l e R s m args below meth c H locs cells slots Q (F0 m pc ls (.int v :: .ref (Z.1 o) :: rest)) := by
  have hs : (wl Z h g).set o (Z.1 o, .inr (9, ([.int (g o 0), .ref (Z.1 126), .ref (Z.1 127), .int (g o 3), .ref (Z.1 128), .ref (Z.1 129), .ref (Z.1 130), .ref (Z.1 131), .ref (Z.1 132), .ref (Z.1 133), .ref (Z.1 134), .ref (Z.1 135), .ref (Z.1 136), .int (g o 13), .ref (Z.1 137), .ref (Z.1 138), .int (g o 16), .int (g o 17), .int (g o 18), .int (g o 19), .int (g o 20), .int (g o 21), .int (g o 22), .int (g o 23), .ref (Z.1 139), .ref (Z.1 140), .int (g o 26), .int (g o 27), .int (g o 28), .int (g o 29), .int (g o 30), .int (g o 31), .int (g o 32), .int (g o 33), .ref (Z.1 141), .ref (Z.1 142), .int (g o 36), .ref (Z.1 143), .int (g o 38), .int (g o 39), .int (g o 40), .ref (Z.1 144), .int (g o 42)]).set 23 (.int v))) = wl Z h (up g o 23 v) := by
    have h1 := k_lt hk (by decide)
    refine wl_set h1 ?_ mx_upr
    rw [mx_r (kl_M o h1 hk), up_eq]
    rw [cel_k hk]
    rfl
  exact x_put C hW (wk9 hk) rfl wsX11_in tyX11 tyX11_ok nmX11 23 (by decide) (ml_X11_113) rfl rfl (ty := .int) (by decide +kernel) (rfl) (rfl) (Nat.le_of_ble_eq_true rfl) hs hd (fun H1 locs1 q => kk _ H1 locs1 hf q)
theorem ml_X11_57 : Cond.fieldLink RX11 57 RX11 (TX11 24).2.1 (TX11 24).2.2.1 ∈ TW := TW_of 1419 (by decide +kernel) (by decide +kernel)
theorem xg_X11_57 (C : CX p s m args meth c cc RX11 nL ret Z) (hW : XW Z h g s.heap H locs) {o : Nat} (hk : knd o = 9) (hd : decode cc pc = .ok (.getfield 57, 3)) (kk : W p l e R s m args below meth c H locs cells slots Q (F0 m (pc + 3) ls (.ref (Z.1 139) :: rest))) : W p l e R s m args below meth c H locs cells slots Q (F0 m pc ls (.ref (Z.1 o) :: rest)) := x_get C hW (wk9 hk) rfl wsX11_in 24 (by decide) (ml_X11_57) rfl (v := .ref (Z.1 139)) rfl hd kk
theorem ml_X11_60 : Cond.fieldLink RX11 60 RX11 (TX11 25).2.1 (TX11 25).2.2.1 ∈ TW := TW_of 1420 (by decide +kernel) (by decide +kernel)
theorem xg_X11_60 (C : CX p s m args meth c cc RX11 nL ret Z) (hW : XW Z h g s.heap H locs) {o : Nat} (hk : knd o = 9) (hd : decode cc pc = .ok (.getfield 60, 3)) (kk : W p l e R s m args below meth c H locs cells slots Q (F0 m (pc + 3) ls (.ref (Z.1 140) :: rest))) : W p l e R s m args below meth c H locs cells slots Q (F0 m pc ls (.ref (Z.1 o) :: rest)) := x_get C hW (wk9 hk) rfl wsX11_in 25 (by decide) (ml_X11_60) rfl (v := .ref (Z.1 140)) rfl hd kk
theorem ml_X11_272 : Cond.fieldLink RX11 272 RX11 (TX11 26).2.1 (TX11 26).2.2.1 ∈ TW := TW_of 1421 (by decide +kernel) (by decide +kernel)
theorem xg_X11_272 (C : CX p s m args meth c cc RX11 nL ret Z) (hW : XW Z h g s.heap H locs) {o : Nat} (hk : knd o = 9) (hd : decode cc pc = .ok (.getfield 272, 3)) (kk : W p l e R s m args below meth c H locs cells slots Q (F0 m (pc + 3) ls (.int (g o 26) :: rest))) : W p l e R s m args below meth c H locs cells slots Q (F0 m pc ls (.ref (Z.1 o) :: rest)) := x_get C hW (wk9 hk) rfl wsX11_in 26 (by decide) (ml_X11_272) rfl (v := .int (g o 26)) rfl hd kk
theorem xp_X11_272 (C : CX p s m args meth c cc RX11 nL ret Z) (hW : XW Z h g s.heap H locs) {o : Nat} (hk : knd o = 9) {v : Int32} {α : Type} {K : Hp → Option α} {out : α} (hf : stp (up g o 26 v) K = some out) (hd : decode cc pc = .ok (.putfield 272, 3)) (kk : ∀ (h1 : Hp) (H1 : Heap) (locs1 : List Loc), K h1 = some out → XW Z h h1 s.heap H1 locs1 → W p l e R s m args below meth c H1 locs1 cells slots Q (F0 m (pc + 3) ls rest)) : W p l e R s m args below meth c H locs cells slots Q (F0 m pc ls (.int v :: .ref (Z.1 o) :: rest)) := by
  have hs : (wl Z h g).set o (Z.1 o, .inr (9, ([.int (g o 0), .ref (Z.1 126), .ref (Z.1 127), .int (g o 3), .ref (Z.1 128), .ref (Z.1 129), .ref (Z.1 130), .ref (Z.1 131), .ref (Z.1 132), .ref (Z.1 133), .ref (Z.1 134), .ref (Z.1 135), .ref (Z.1 136), .int (g o 13), .ref (Z.1 137), .ref (Z.1 138), .int (g o 16), .int (g o 17), .int (g o 18), .int (g o 19), .int (g o 20), .int (g o 21), .int (g o 22), .int (g o 23), .ref (Z.1 139), .ref (Z.1 140), .int (g o 26), .int (g o 27), .int (g o 28), .int (g o 29), .int (g o 30), .int (g o 31), .int (g o 32), .int (g o 33), .ref (Z.1 141), .ref (Z.1 142), .int (g o 36), .ref (Z.1 143), .int (g o 38), .int (g o 39), .int (g o 40), .ref (Z.1 144), .int (g o 42)]).set 26 (.int v))) = wl Z h (up g o 26 v) := by
    have h1 := k_lt hk (by decide)
    refine wl_set h1 ?_ mx_upr
    rw [mx_r (kl_M o h1 hk), up_eq]
    rw [cel_k hk]
    rfl
  exact x_put C hW (wk9 hk) rfl wsX11_in tyX11 tyX11_ok nmX11 26 (by decide) (ml_X11_272) rfl rfl (ty := .int) (by decide +kernel) (rfl) (rfl) (Nat.le_of_ble_eq_true rfl) hs hd (fun H1 locs1 q => kk _ H1 locs1 hf q)
theorem ml_X11_232 : Cond.fieldLink RX11 232 RX11 (TX11 27).2.1 (TX11 27).2.2.1 ∈ TW := TW_of 1422 (by decide +kernel) (by decide +kernel)
theorem xg_X11_232 (C : CX p s m args meth c cc RX11 nL ret Z) (hW : XW Z h g s.heap H locs) {o : Nat} (hk : knd o = 9) (hd : decode cc pc = .ok (.getfield 232, 3)) (kk : W p l e R s m args below meth c H locs cells slots Q (F0 m (pc + 3) ls (.int (g o 27) :: rest))) : W p l e R s m args below meth c H locs cells slots Q (F0 m pc ls (.ref (Z.1 o) :: rest)) := x_get C hW (wk9 hk) rfl wsX11_in 27 (by decide) (ml_X11_232) rfl (v := .int (g o 27)) rfl hd kk
theorem xp_X11_232 (C : CX p s m args meth c cc RX11 nL ret Z) (hW : XW Z h g s.heap H locs) {o : Nat} (hk : knd o = 9) {v : Int32} {α : Type} {K : Hp → Option α} {out : α} (hf : stp (up g o 27 v) K = some out) (hd : decode cc pc = .ok (.putfield 232, 3)) (kk : ∀ (h1 : Hp) (H1 : Heap) (locs1 : List Loc), K h1 = some out → XW Z h h1 s.heap H1 locs1 → W p l e R s m args below meth c H1 locs1 cells slots Q (F0 m (pc + 3) ls rest)) : W p l e R s m args below meth c H locs cells slots Q (F0 m pc ls (.int v :: .ref (Z.1 o) :: rest)) := by
  have hs : (wl Z h g).set o (Z.1 o, .inr (9, ([.int (g o 0), .ref (Z.1 126), .ref (Z.1 127), .int (g o 3), .ref (Z.1 128), .ref (Z.1 129), .ref (Z.1 130), .ref (Z.1 131), .ref (Z.1 132), .ref (Z.1 133), .ref (Z.1 134), .ref (Z.1 135), .ref (Z.1 136), .int (g o 13), .ref (Z.1 137), .ref (Z.1 138), .int (g o 16), .int (g o 17), .int (g o 18), .int (g o 19), .int (g o 20), .int (g o 21), .int (g o 22), .int (g o 23), .ref (Z.1 139), .ref (Z.1 140), .int (g o 26), .int (g o 27), .int (g o 28), .int (g o 29), .int (g o 30), .int (g o 31), .int (g o 32), .int (g o 33), .ref (Z.1 141), .ref (Z.1 142), .int (g o 36), .ref (Z.1 143), .int (g o 38), .int (g o 39), .int (g o 40), .ref (Z.1 144), .int (g o 42)]).set 27 (.int v))) = wl Z h (up g o 27 v) := by
    have h1 := k_lt hk (by decide)
    refine wl_set h1 ?_ mx_upr
    rw [mx_r (kl_M o h1 hk), up_eq]
    rw [cel_k hk]
    rfl
  exact x_put C hW (wk9 hk) rfl wsX11_in tyX11 tyX11_ok nmX11 27 (by decide) (ml_X11_232) rfl rfl (ty := .int) (by decide +kernel) (rfl) (rfl) (Nat.le_of_ble_eq_true rfl) hs hd (fun H1 locs1 q => kk _ H1 locs1 hf q)
theorem ml_X11_253 : Cond.fieldLink RX11 253 RX11 (TX11 28).2.1 (TX11 28).2.2.1 ∈ TW := TW_of 1423 (by decide +kernel) (by decide +kernel)
theorem xg_X11_253 (C : CX p s m args meth c cc RX11 nL ret Z) (hW : XW Z h g s.heap H locs) {o : Nat} (hk : knd o = 9) (hd : decode cc pc = .ok (.getfield 253, 3)) (kk : W p l e R s m args below meth c H locs cells slots Q (F0 m (pc + 3) ls (.int (g o 28) :: rest))) : W p l e R s m args below meth c H locs cells slots Q (F0 m pc ls (.ref (Z.1 o) :: rest)) := x_get C hW (wk9 hk) rfl wsX11_in 28 (by decide) (ml_X11_253) rfl (v := .int (g o 28)) rfl hd kk
theorem xp_X11_253 (C : CX p s m args meth c cc RX11 nL ret Z) (hW : XW Z h g s.heap H locs) {o : Nat} (hk : knd o = 9) {v : Int32} {α : Type} {K : Hp → Option α} {out : α} (hf : stp (up g o 28 v) K = some out) (hd : decode cc pc = .ok (.putfield 253, 3)) (kk : ∀ (h1 : Hp) (H1 : Heap) (locs1 : List Loc), K h1 = some out → XW Z h h1 s.heap H1 locs1 → W p l e R s m args below meth c H1 locs1 cells slots Q (F0 m (pc + 3) ls rest)) : W p l e R s m args below meth c H locs cells slots Q (F0 m pc ls (.int v :: .ref (Z.1 o) :: rest)) := by
  have hs : (wl Z h g).set o (Z.1 o, .inr (9, ([.int (g o 0), .ref (Z.1 126), .ref (Z.1 127), .int (g o 3), .ref (Z.1 128), .ref (Z.1 129), .ref (Z.1 130), .ref (Z.1 131), .ref (Z.1 132), .ref (Z.1 133), .ref (Z.1 134), .ref (Z.1 135), .ref (Z.1 136), .int (g o 13), .ref (Z.1 137), .ref (Z.1 138), .int (g o 16), .int (g o 17), .int (g o 18), .int (g o 19), .int (g o 20), .int (g o 21), .int (g o 22), .int (g o 23), .ref (Z.1 139), .ref (Z.1 140), .int (g o 26), .int (g o 27), .int (g o 28), .int (g o 29), .int (g o 30), .int (g o 31), .int (g o 32), .int (g o 33), .ref (Z.1 141), .ref (Z.1 142), .int (g o 36), .ref (Z.1 143), .int (g o 38), .int (g o 39), .int (g o 40), .ref (Z.1 144), .int (g o 42)]).set 28 (.int v))) = wl Z h (up g o 28 v) := by
    have h1 := k_lt hk (by decide)
    refine wl_set h1 ?_ mx_upr
    rw [mx_r (kl_M o h1 hk), up_eq]
    rw [cel_k hk]
    rfl
  exact x_put C hW (wk9 hk) rfl wsX11_in tyX11 tyX11_ok nmX11 28 (by decide) (ml_X11_253) rfl rfl (ty := .int) (by decide +kernel) (rfl) (rfl) (Nat.le_of_ble_eq_true rfl) hs hd (fun H1 locs1 q => kk _ H1 locs1 hf q)
theorem ml_X11_266 : Cond.fieldLink RX11 266 RX11 (TX11 29).2.1 (TX11 29).2.2.1 ∈ TW := TW_of 1424 (by decide +kernel) (by decide +kernel)
theorem xg_X11_266 (C : CX p s m args meth c cc RX11 nL ret Z) (hW : XW Z h g s.heap H locs) {o : Nat} (hk : knd o = 9) (hd : decode cc pc = .ok (.getfield 266, 3)) (kk : W p l e R s m args below meth c H locs cells slots Q (F0 m (pc + 3) ls (.int (g o 29) :: rest))) : W p l e R s m args below meth c H locs cells slots Q (F0 m pc ls (.ref (Z.1 o) :: rest)) := x_get C hW (wk9 hk) rfl wsX11_in 29 (by decide) (ml_X11_266) rfl (v := .int (g o 29)) rfl hd kk
theorem xp_X11_266 (C : CX p s m args meth c cc RX11 nL ret Z) (hW : XW Z h g s.heap H locs) {o : Nat} (hk : knd o = 9) {v : Int32} {α : Type} {K : Hp → Option α} {out : α} (hf : stp (up g o 29 v) K = some out) (hd : decode cc pc = .ok (.putfield 266, 3)) (kk : ∀ (h1 : Hp) (H1 : Heap) (locs1 : List Loc), K h1 = some out → XW Z h h1 s.heap H1 locs1 → W p l e R s m args below meth c H1 locs1 cells slots Q (F0 m (pc + 3) ls rest)) : W p l e R s m args below meth c H locs cells slots Q (F0 m pc ls (.int v :: .ref (Z.1 o) :: rest)) := by
  have hs : (wl Z h g).set o (Z.1 o, .inr (9, ([.int (g o 0), .ref (Z.1 126), .ref (Z.1 127), .int (g o 3), .ref (Z.1 128), .ref (Z.1 129), .ref (Z.1 130), .ref (Z.1 131), .ref (Z.1 132), .ref (Z.1 133), .ref (Z.1 134), .ref (Z.1 135), .ref (Z.1 136), .int (g o 13), .ref (Z.1 137), .ref (Z.1 138), .int (g o 16), .int (g o 17), .int (g o 18), .int (g o 19), .int (g o 20), .int (g o 21), .int (g o 22), .int (g o 23), .ref (Z.1 139), .ref (Z.1 140), .int (g o 26), .int (g o 27), .int (g o 28), .int (g o 29), .int (g o 30), .int (g o 31), .int (g o 32), .int (g o 33), .ref (Z.1 141), .ref (Z.1 142), .int (g o 36), .ref (Z.1 143), .int (g o 38), .int (g o 39), .int (g o 40), .ref (Z.1 144), .int (g o 42)]).set 29 (.int v))) = wl Z h (up g o 29 v) := by
    have h1 := k_lt hk (by decide)
    refine wl_set h1 ?_ mx_upr
    rw [mx_r (kl_M o h1 hk), up_eq]
    rw [cel_k hk]
    rfl
  exact x_put C hW (wk9 hk) rfl wsX11_in tyX11 tyX11_ok nmX11 29 (by decide) (ml_X11_266) rfl rfl (ty := .int) (by decide +kernel) (rfl) (rfl) (Nat.le_of_ble_eq_true rfl) hs hd (fun H1 locs1 q => kk _ H1 locs1 hf q)
theorem ml_X11_332 : Cond.fieldLink RX11 332 RX11 (TX11 30).2.1 (TX11 30).2.2.1 ∈ TW := TW_of 1425 (by decide +kernel) (by decide +kernel)
theorem xg_X11_332 (C : CX p s m args meth c cc RX11 nL ret Z) (hW : XW Z h g s.heap H locs) {o : Nat} (hk : knd o = 9) (hd : decode cc pc = .ok (.getfield 332, 3)) (kk : W p l e R s m args below meth c H locs cells slots Q (F0 m (pc + 3) ls (.int (g o 30) :: rest))) : W p l e R s m args below meth c H locs cells slots Q (F0 m pc ls (.ref (Z.1 o) :: rest)) := x_get C hW (wk9 hk) rfl wsX11_in 30 (by decide) (ml_X11_332) rfl (v := .int (g o 30)) rfl hd kk
theorem xp_X11_332 (C : CX p s m args meth c cc RX11 nL ret Z) (hW : XW Z h g s.heap H locs) {o : Nat} (hk : knd o = 9) {v : Int32} {α : Type} {K : Hp → Option α} {out : α} (hf : stp (up g o 30 v) K = some out) (hd : decode cc pc = .ok (.putfield 332, 3)) (kk : ∀ (h1 : Hp) (H1 : Heap) (locs1 : List Loc), K h1 = some out → XW Z h h1 s.heap H1 locs1 → W p l e R s m args below meth c H1 locs1 cells slots Q (F0 m (pc + 3) ls rest)) : W p l e R s m args below meth c H locs cells slots Q (F0 m pc ls (.int v :: .ref (Z.1 o) :: rest)) := by
  have hs : (wl Z h g).set o (Z.1 o, .inr (9, ([.int (g o 0), .ref (Z.1 126), .ref (Z.1 127), .int (g o 3), .ref (Z.1 128), .ref (Z.1 129), .ref (Z.1 130), .ref (Z.1 131), .ref (Z.1 132), .ref (Z.1 133), .ref (Z.1 134), .ref (Z.1 135), .ref (Z.1 136), .int (g o 13), .ref (Z.1 137), .ref (Z.1 138), .int (g o 16), .int (g o 17), .int (g o 18), .int (g o 19), .int (g o 20), .int (g o 21), .int (g o 22), .int (g o 23), .ref (Z.1 139), .ref (Z.1 140), .int (g o 26), .int (g o 27), .int (g o 28), .int (g o 29), .int (g o 30), .int (g o 31), .int (g o 32), .int (g o 33), .ref (Z.1 141), .ref (Z.1 142), .int (g o 36), .ref (Z.1 143), .int (g o 38), .int (g o 39), .int (g o 40), .ref (Z.1 144), .int (g o 42)]).set 30 (.int v))) = wl Z h (up g o 30 v) := by
    have h1 := k_lt hk (by decide)
    refine wl_set h1 ?_ mx_upr
    rw [mx_r (kl_M o h1 hk), up_eq]
    rw [cel_k hk]
    rfl
  exact x_put C hW (wk9 hk) rfl wsX11_in tyX11 tyX11_ok nmX11 30 (by decide) (ml_X11_332) rfl rfl (ty := .int) (by decide +kernel) (rfl) (rfl) (Nat.le_of_ble_eq_true rfl) hs hd (fun H1 locs1 q => kk _ H1 locs1 hf q)
theorem ml_X11_335 : Cond.fieldLink RX11 335 RX11 (TX11 31).2.1 (TX11 31).2.2.1 ∈ TW := TW_of 1426 (by decide +kernel) (by decide +kernel)
theorem xg_X11_335 (C : CX p s m args meth c cc RX11 nL ret Z) (hW : XW Z h g s.heap H locs) {o : Nat} (hk : knd o = 9) (hd : decode cc pc = .ok (.getfield 335, 3)) (kk : W p l e R s m args below meth c H locs cells slots Q (F0 m (pc + 3) ls (.int (g o 31) :: rest))) : W p l e R s m args below meth c H locs cells slots Q (F0 m pc ls (.ref (Z.1 o) :: rest)) := x_get C hW (wk9 hk) rfl wsX11_in 31 (by decide) (ml_X11_335) rfl (v := .int (g o 31)) rfl hd kk
theorem xp_X11_335 (C : CX p s m args meth c cc RX11 nL ret Z) (hW : XW Z h g s.heap H locs) {o : Nat} (hk : knd o = 9) {v : Int32} {α : Type} {K : Hp → Option α} {out : α} (hf : stp (up g o 31 v) K = some out) (hd : decode cc pc = .ok (.putfield 335, 3)) (kk : ∀ (h1 : Hp) (H1 : Heap) (locs1 : List Loc), K h1 = some out → XW Z h h1 s.heap H1 locs1 → W p l e R s m args below meth c H1 locs1 cells slots Q (F0 m (pc + 3) ls rest)) : W p l e R s m args below meth c H locs cells slots Q (F0 m pc ls (.int v :: .ref (Z.1 o) :: rest)) := by
  have hs : (wl Z h g).set o (Z.1 o, .inr (9, ([.int (g o 0), .ref (Z.1 126), .ref (Z.1 127), .int (g o 3), .ref (Z.1 128), .ref (Z.1 129), .ref (Z.1 130), .ref (Z.1 131), .ref (Z.1 132), .ref (Z.1 133), .ref (Z.1 134), .ref (Z.1 135), .ref (Z.1 136), .int (g o 13), .ref (Z.1 137), .ref (Z.1 138), .int (g o 16), .int (g o 17), .int (g o 18), .int (g o 19), .int (g o 20), .int (g o 21), .int (g o 22), .int (g o 23), .ref (Z.1 139), .ref (Z.1 140), .int (g o 26), .int (g o 27), .int (g o 28), .int (g o 29), .int (g o 30), .int (g o 31), .int (g o 32), .int (g o 33), .ref (Z.1 141), .ref (Z.1 142), .int (g o 36), .ref (Z.1 143), .int (g o 38), .int (g o 39), .int (g o 40), .ref (Z.1 144), .int (g o 42)]).set 31 (.int v))) = wl Z h (up g o 31 v) := by
    have h1 := k_lt hk (by decide)
    refine wl_set h1 ?_ mx_upr
    rw [mx_r (kl_M o h1 hk), up_eq]
    rw [cel_k hk]
    rfl
  exact x_put C hW (wk9 hk) rfl wsX11_in tyX11 tyX11_ok nmX11 31 (by decide) (ml_X11_335) rfl rfl (ty := .int) (by decide +kernel) (rfl) (rfl) (Nat.le_of_ble_eq_true rfl) hs hd (fun H1 locs1 q => kk _ H1 locs1 hf q)
theorem ml_X11_347 : Cond.fieldLink RX11 347 RX11 (TX11 32).2.1 (TX11 32).2.2.1 ∈ TW := TW_of 1427 (by decide +kernel) (by decide +kernel)
theorem xg_X11_347 (C : CX p s m args meth c cc RX11 nL ret Z) (hW : XW Z h g s.heap H locs) {o : Nat} (hk : knd o = 9) (hd : decode cc pc = .ok (.getfield 347, 3)) (kk : W p l e R s m args below meth c H locs cells slots Q (F0 m (pc + 3) ls (.int (g o 32) :: rest))) : W p l e R s m args below meth c H locs cells slots Q (F0 m pc ls (.ref (Z.1 o) :: rest)) := x_get C hW (wk9 hk) rfl wsX11_in 32 (by decide) (ml_X11_347) rfl (v := .int (g o 32)) rfl hd kk
theorem xp_X11_347 (C : CX p s m args meth c cc RX11 nL ret Z) (hW : XW Z h g s.heap H locs) {o : Nat} (hk : knd o = 9) {v : Int32} {α : Type} {K : Hp → Option α} {out : α} (hf : stp (up g o 32 v) K = some out) (hd : decode cc pc = .ok (.putfield 347, 3)) (kk : ∀ (h1 : Hp) (H1 : Heap) (locs1 : List Loc), K h1 = some out → XW Z h h1 s.heap H1 locs1 → W p l e R s m args below meth c H1 locs1 cells slots Q (F0 m (pc + 3) ls rest)) : W p l e R s m args below meth c H locs cells slots Q (F0 m pc ls (.int v :: .ref (Z.1 o) :: rest)) := by
  have hs : (wl Z h g).set o (Z.1 o, .inr (9, ([.int (g o 0), .ref (Z.1 126), .ref (Z.1 127), .int (g o 3), .ref (Z.1 128), .ref (Z.1 129), .ref (Z.1 130), .ref (Z.1 131), .ref (Z.1 132), .ref (Z.1 133), .ref (Z.1 134), .ref (Z.1 135), .ref (Z.1 136), .int (g o 13), .ref (Z.1 137), .ref (Z.1 138), .int (g o 16), .int (g o 17), .int (g o 18), .int (g o 19), .int (g o 20), .int (g o 21), .int (g o 22), .int (g o 23), .ref (Z.1 139), .ref (Z.1 140), .int (g o 26), .int (g o 27), .int (g o 28), .int (g o 29), .int (g o 30), .int (g o 31), .int (g o 32), .int (g o 33), .ref (Z.1 141), .ref (Z.1 142), .int (g o 36), .ref (Z.1 143), .int (g o 38), .int (g o 39), .int (g o 40), .ref (Z.1 144), .int (g o 42)]).set 32 (.int v))) = wl Z h (up g o 32 v) := by
    have h1 := k_lt hk (by decide)
    refine wl_set h1 ?_ mx_upr
    rw [mx_r (kl_M o h1 hk), up_eq]
    rw [cel_k hk]
    rfl
  exact x_put C hW (wk9 hk) rfl wsX11_in tyX11 tyX11_ok nmX11 32 (by decide) (ml_X11_347) rfl rfl (ty := .int) (by decide +kernel) (rfl) (rfl) (Nat.le_of_ble_eq_true rfl) hs hd (fun H1 locs1 q => kk _ H1 locs1 hf q)
theorem ml_X11_350 : Cond.fieldLink RX11 350 RX11 (TX11 33).2.1 (TX11 33).2.2.1 ∈ TW := TW_of 1428 (by decide +kernel) (by decide +kernel)
theorem xg_X11_350 (C : CX p s m args meth c cc RX11 nL ret Z) (hW : XW Z h g s.heap H locs) {o : Nat} (hk : knd o = 9) (hd : decode cc pc = .ok (.getfield 350, 3)) (kk : W p l e R s m args below meth c H locs cells slots Q (F0 m (pc + 3) ls (.int (g o 33) :: rest))) : W p l e R s m args below meth c H locs cells slots Q (F0 m pc ls (.ref (Z.1 o) :: rest)) := x_get C hW (wk9 hk) rfl wsX11_in 33 (by decide) (ml_X11_350) rfl (v := .int (g o 33)) rfl hd kk
theorem xp_X11_350 (C : CX p s m args meth c cc RX11 nL ret Z) (hW : XW Z h g s.heap H locs) {o : Nat} (hk : knd o = 9) {v : Int32} {α : Type} {K : Hp → Option α} {out : α} (hf : stp (up g o 33 v) K = some out) (hd : decode cc pc = .ok (.putfield 350, 3)) (kk : ∀ (h1 : Hp) (H1 : Heap) (locs1 : List Loc), K h1 = some out → XW Z h h1 s.heap H1 locs1 → W p l e R s m args below meth c H1 locs1 cells slots Q (F0 m (pc + 3) ls rest)) : W p l e R s m args below meth c H locs cells slots Q (F0 m pc ls (.int v :: .ref (Z.1 o) :: rest)) := by
  have hs : (wl Z h g).set o (Z.1 o, .inr (9, ([.int (g o 0), .ref (Z.1 126), .ref (Z.1 127), .int (g o 3), .ref (Z.1 128), .ref (Z.1 129), .ref (Z.1 130), .ref (Z.1 131), .ref (Z.1 132), .ref (Z.1 133), .ref (Z.1 134), .ref (Z.1 135), .ref (Z.1 136), .int (g o 13), .ref (Z.1 137), .ref (Z.1 138), .int (g o 16), .int (g o 17), .int (g o 18), .int (g o 19), .int (g o 20), .int (g o 21), .int (g o 22), .int (g o 23), .ref (Z.1 139), .ref (Z.1 140), .int (g o 26), .int (g o 27), .int (g o 28), .int (g o 29), .int (g o 30), .int (g o 31), .int (g o 32), .int (g o 33), .ref (Z.1 141), .ref (Z.1 142), .int (g o 36), .ref (Z.1 143), .int (g o 38), .int (g o 39), .int (g o 40), .ref (Z.1 144), .int (g o 42)]).set 33 (.int v))) = wl Z h (up g o 33 v) := by
    have h1 := k_lt hk (by decide)
    refine wl_set h1 ?_ mx_upr
    rw [mx_r (kl_M o h1 hk), up_eq]
    rw [cel_k hk]
    rfl
  exact x_put C hW (wk9 hk) rfl wsX11_in tyX11 tyX11_ok nmX11 33 (by decide) (ml_X11_350) rfl rfl (ty := .int) (by decide +kernel) (rfl) (rfl) (Nat.le_of_ble_eq_true rfl) hs hd (fun H1 locs1 q => kk _ H1 locs1 hf q)
theorem ml_X11_63 : Cond.fieldLink RX11 63 RX11 (TX11 34).2.1 (TX11 34).2.2.1 ∈ TW := TW_of 1429 (by decide +kernel) (by decide +kernel)
theorem xg_X11_63 (C : CX p s m args meth c cc RX11 nL ret Z) (hW : XW Z h g s.heap H locs) {o : Nat} (hk : knd o = 9) (hd : decode cc pc = .ok (.getfield 63, 3)) (kk : W p l e R s m args below meth c H locs cells slots Q (F0 m (pc + 3) ls (.ref (Z.1 141) :: rest))) : W p l e R s m args below meth c H locs cells slots Q (F0 m pc ls (.ref (Z.1 o) :: rest)) := x_get C hW (wk9 hk) rfl wsX11_in 34 (by decide) (ml_X11_63) rfl (v := .ref (Z.1 141)) rfl hd kk
theorem ml_X11_66 : Cond.fieldLink RX11 66 RX11 (TX11 35).2.1 (TX11 35).2.2.1 ∈ TW := TW_of 1430 (by decide +kernel) (by decide +kernel)
theorem xg_X11_66 (C : CX p s m args meth c cc RX11 nL ret Z) (hW : XW Z h g s.heap H locs) {o : Nat} (hk : knd o = 9) (hd : decode cc pc = .ok (.getfield 66, 3)) (kk : W p l e R s m args below meth c H locs cells slots Q (F0 m (pc + 3) ls (.ref (Z.1 142) :: rest))) : W p l e R s m args below meth c H locs cells slots Q (F0 m pc ls (.ref (Z.1 o) :: rest)) := x_get C hW (wk9 hk) rfl wsX11_in 35 (by decide) (ml_X11_66) rfl (v := .ref (Z.1 142)) rfl hd kk
theorem ml_X11_356 : Cond.fieldLink RX11 356 RX11 (TX11 36).2.1 (TX11 36).2.2.1 ∈ TW := TW_of 1431 (by decide +kernel) (by decide +kernel)
theorem xg_X11_356 (C : CX p s m args meth c cc RX11 nL ret Z) (hW : XW Z h g s.heap H locs) {o : Nat} (hk : knd o = 9) (hd : decode cc pc = .ok (.getfield 356, 3)) (kk : W p l e R s m args below meth c H locs cells slots Q (F0 m (pc + 3) ls (.int (g o 36) :: rest))) : W p l e R s m args below meth c H locs cells slots Q (F0 m pc ls (.ref (Z.1 o) :: rest)) := x_get C hW (wk9 hk) rfl wsX11_in 36 (by decide) (ml_X11_356) rfl (v := .int (g o 36)) rfl hd kk
theorem xp_X11_356 (C : CX p s m args meth c cc RX11 nL ret Z) (hW : XW Z h g s.heap H locs) {o : Nat} (hk : knd o = 9) {v : Int32} {α : Type} {K : Hp → Option α} {out : α} (hf : stp (up g o 36 v) K = some out) (hd : decode cc pc = .ok (.putfield 356, 3)) (kk : ∀ (h1 : Hp) (H1 : Heap) (locs1 : List Loc), K h1 = some out → XW Z h h1 s.heap H1 locs1 → W p l e R s m args below meth c H1 locs1 cells slots Q (F0 m (pc + 3) ls rest)) : W p l e R s m args below meth c H locs cells slots Q (F0 m pc ls (.int v :: .ref (Z.1 o) :: rest)) := by
  have hs : (wl Z h g).set o (Z.1 o, .inr (9, ([.int (g o 0), .ref (Z.1 126), .ref (Z.1 127), .int (g o 3), .ref (Z.1 128), .ref (Z.1 129), .ref (Z.1 130), .ref (Z.1 131), .ref (Z.1 132), .ref (Z.1 133), .ref (Z.1 134), .ref (Z.1 135), .ref (Z.1 136), .int (g o 13), .ref (Z.1 137), .ref (Z.1 138), .int (g o 16), .int (g o 17), .int (g o 18), .int (g o 19), .int (g o 20), .int (g o 21), .int (g o 22), .int (g o 23), .ref (Z.1 139), .ref (Z.1 140), .int (g o 26), .int (g o 27), .int (g o 28), .int (g o 29), .int (g o 30), .int (g o 31), .int (g o 32), .int (g o 33), .ref (Z.1 141), .ref (Z.1 142), .int (g o 36), .ref (Z.1 143), .int (g o 38), .int (g o 39), .int (g o 40), .ref (Z.1 144), .int (g o 42)]).set 36 (.int v))) = wl Z h (up g o 36 v) := by
    have h1 := k_lt hk (by decide)
    refine wl_set h1 ?_ mx_upr
    rw [mx_r (kl_M o h1 hk), up_eq]
    rw [cel_k hk]
    rfl
  exact x_put C hW (wk9 hk) rfl wsX11_in tyX11 tyX11_ok nmX11 36 (by decide) (ml_X11_356) rfl rfl (ty := .int) (by decide +kernel) (rfl) (rfl) (Nat.le_of_ble_eq_true rfl) hs hd (fun H1 locs1 q => kk _ H1 locs1 hf q)
theorem ml_X11_69 : Cond.fieldLink RX11 69 RX11 (TX11 37).2.1 (TX11 37).2.2.1 ∈ TW := TW_of 1432 (by decide +kernel) (by decide +kernel)
theorem xg_X11_69 (C : CX p s m args meth c cc RX11 nL ret Z) (hW : XW Z h g s.heap H locs) {o : Nat} (hk : knd o = 9) (hd : decode cc pc = .ok (.getfield 69, 3)) (kk : W p l e R s m args below meth c H locs cells slots Q (F0 m (pc + 3) ls (.ref (Z.1 143) :: rest))) : W p l e R s m args below meth c H locs cells slots Q (F0 m pc ls (.ref (Z.1 o) :: rest)) := x_get C hW (wk9 hk) rfl wsX11_in 37 (by decide) (ml_X11_69) rfl (v := .ref (Z.1 143)) rfl hd kk
theorem ml_X11_403 : Cond.fieldLink RX11 403 RX11 (TX11 38).2.1 (TX11 38).2.2.1 ∈ TW := TW_of 1433 (by decide +kernel) (by decide +kernel)
theorem xg_X11_403 (C : CX p s m args meth c cc RX11 nL ret Z) (hW : XW Z h g s.heap H locs) {o : Nat} (hk : knd o = 9) (hd : decode cc pc = .ok (.getfield 403, 3)) (kk : W p l e R s m args below meth c H locs cells slots Q (F0 m (pc + 3) ls (.int (g o 38) :: rest))) : W p l e R s m args below meth c H locs cells slots Q (F0 m pc ls (.ref (Z.1 o) :: rest)) := x_get C hW (wk9 hk) rfl wsX11_in 38 (by decide) (ml_X11_403) rfl (v := .int (g o 38)) rfl hd kk
theorem xp_X11_403 (C : CX p s m args meth c cc RX11 nL ret Z) (hW : XW Z h g s.heap H locs) {o : Nat} (hk : knd o = 9) {v : Int32} {α : Type} {K : Hp → Option α} {out : α} (hf : stp (up g o 38 v) K = some out) (hd : decode cc pc = .ok (.putfield 403, 3)) (kk : ∀ (h1 : Hp) (H1 : Heap) (locs1 : List Loc), K h1 = some out → XW Z h h1 s.heap H1 locs1 → W p l e R s m args below meth c H1 locs1 cells slots Q (F0 m (pc + 3) ls rest)) : W p l e R s m args below meth c H locs cells slots Q (F0 m pc ls (.int v :: .ref (Z.1 o) :: rest)) := by
  have hs : (wl Z h g).set o (Z.1 o, .inr (9, ([.int (g o 0), .ref (Z.1 126), .ref (Z.1 127), .int (g o 3), .ref (Z.1 128), .ref (Z.1 129), .ref (Z.1 130), .ref (Z.1 131), .ref (Z.1 132), .ref (Z.1 133), .ref (Z.1 134), .ref (Z.1 135), .ref (Z.1 136), .int (g o 13), .ref (Z.1 137), .ref (Z.1 138), .int (g o 16), .int (g o 17), .int (g o 18), .int (g o 19), .int (g o 20), .int (g o 21), .int (g o 22), .int (g o 23), .ref (Z.1 139), .ref (Z.1 140), .int (g o 26), .int (g o 27), .int (g o 28), .int (g o 29), .int (g o 30), .int (g o 31), .int (g o 32), .int (g o 33), .ref (Z.1 141), .ref (Z.1 142), .int (g o 36), .ref (Z.1 143), .int (g o 38), .int (g o 39), .int (g o 40), .ref (Z.1 144), .int (g o 42)]).set 38 (.int v))) = wl Z h (up g o 38 v) := by
    have h1 := k_lt hk (by decide)
    refine wl_set h1 ?_ mx_upr
    rw [mx_r (kl_M o h1 hk), up_eq]
    rw [cel_k hk]
    rfl
  exact x_put C hW (wk9 hk) rfl wsX11_in tyX11 tyX11_ok nmX11 38 (by decide) (ml_X11_403) rfl rfl (ty := .int) (by decide +kernel) (rfl) (rfl) (Nat.le_of_ble_eq_true rfl) hs hd (fun H1 locs1 q => kk _ H1 locs1 hf q)
theorem ml_X11_425 : Cond.fieldLink RX11 425 RX11 (TX11 39).2.1 (TX11 39).2.2.1 ∈ TW := TW_of 1434 (by decide +kernel) (by decide +kernel)
theorem xg_X11_425 (C : CX p s m args meth c cc RX11 nL ret Z) (hW : XW Z h g s.heap H locs) {o : Nat} (hk : knd o = 9) (hd : decode cc pc = .ok (.getfield 425, 3)) (kk : W p l e R s m args below meth c H locs cells slots Q (F0 m (pc + 3) ls (.int (g o 39) :: rest))) : W p l e R s m args below meth c H locs cells slots Q (F0 m pc ls (.ref (Z.1 o) :: rest)) := x_get C hW (wk9 hk) rfl wsX11_in 39 (by decide) (ml_X11_425) rfl (v := .int (g o 39)) rfl hd kk
theorem xp_X11_425 (C : CX p s m args meth c cc RX11 nL ret Z) (hW : XW Z h g s.heap H locs) {o : Nat} (hk : knd o = 9) {v : Int32} {α : Type} {K : Hp → Option α} {out : α} (hf : stp (up g o 39 v) K = some out) (hd : decode cc pc = .ok (.putfield 425, 3)) (kk : ∀ (h1 : Hp) (H1 : Heap) (locs1 : List Loc), K h1 = some out → XW Z h h1 s.heap H1 locs1 → W p l e R s m args below meth c H1 locs1 cells slots Q (F0 m (pc + 3) ls rest)) : W p l e R s m args below meth c H locs cells slots Q (F0 m pc ls (.int v :: .ref (Z.1 o) :: rest)) := by
  have hs : (wl Z h g).set o (Z.1 o, .inr (9, ([.int (g o 0), .ref (Z.1 126), .ref (Z.1 127), .int (g o 3), .ref (Z.1 128), .ref (Z.1 129), .ref (Z.1 130), .ref (Z.1 131), .ref (Z.1 132), .ref (Z.1 133), .ref (Z.1 134), .ref (Z.1 135), .ref (Z.1 136), .int (g o 13), .ref (Z.1 137), .ref (Z.1 138), .int (g o 16), .int (g o 17), .int (g o 18), .int (g o 19), .int (g o 20), .int (g o 21), .int (g o 22), .int (g o 23), .ref (Z.1 139), .ref (Z.1 140), .int (g o 26), .int (g o 27), .int (g o 28), .int (g o 29), .int (g o 30), .int (g o 31), .int (g o 32), .int (g o 33), .ref (Z.1 141), .ref (Z.1 142), .int (g o 36), .ref (Z.1 143), .int (g o 38), .int (g o 39), .int (g o 40), .ref (Z.1 144), .int (g o 42)]).set 39 (.int v))) = wl Z h (up g o 39 v) := by
    have h1 := k_lt hk (by decide)
    refine wl_set h1 ?_ mx_upr
    rw [mx_r (kl_M o h1 hk), up_eq]
    rw [cel_k hk]
    rfl
  exact x_put C hW (wk9 hk) rfl wsX11_in tyX11 tyX11_ok nmX11 39 (by decide) (ml_X11_425) rfl rfl (ty := .int) (by decide +kernel) (rfl) (rfl) (Nat.le_of_ble_eq_true rfl) hs hd (fun H1 locs1 q => kk _ H1 locs1 hf q)
theorem ml_X11_406 : Cond.fieldLink RX11 406 RX11 (TX11 40).2.1 (TX11 40).2.2.1 ∈ TW := TW_of 1435 (by decide +kernel) (by decide +kernel)
theorem xg_X11_406 (C : CX p s m args meth c cc RX11 nL ret Z) (hW : XW Z h g s.heap H locs) {o : Nat} (hk : knd o = 9) (hd : decode cc pc = .ok (.getfield 406, 3)) (kk : W p l e R s m args below meth c H locs cells slots Q (F0 m (pc + 3) ls (.int (g o 40) :: rest))) : W p l e R s m args below meth c H locs cells slots Q (F0 m pc ls (.ref (Z.1 o) :: rest)) := x_get C hW (wk9 hk) rfl wsX11_in 40 (by decide) (ml_X11_406) rfl (v := .int (g o 40)) rfl hd kk
theorem xp_X11_406 (C : CX p s m args meth c cc RX11 nL ret Z) (hW : XW Z h g s.heap H locs) {o : Nat} (hk : knd o = 9) {v : Int32} (hz : zb v = true) {α : Type} {K : Hp → Option α} {out : α} (hf : stp (up g o 40 v) K = some out) (hd : decode cc pc = .ok (.putfield 406, 3)) (kk : ∀ (h1 : Hp) (H1 : Heap) (locs1 : List Loc), K h1 = some out → XW Z h h1 s.heap H1 locs1 → W p l e R s m args below meth c H1 locs1 cells slots Q (F0 m (pc + 3) ls rest)) : W p l e R s m args below meth c H locs cells slots Q (F0 m pc ls (.int v :: .ref (Z.1 o) :: rest)) := by
  have hs : (wl Z h g).set o (Z.1 o, .inr (9, ([.int (g o 0), .ref (Z.1 126), .ref (Z.1 127), .int (g o 3), .ref (Z.1 128), .ref (Z.1 129), .ref (Z.1 130), .ref (Z.1 131), .ref (Z.1 132), .ref (Z.1 133), .ref (Z.1 134), .ref (Z.1 135), .ref (Z.1 136), .int (g o 13), .ref (Z.1 137), .ref (Z.1 138), .int (g o 16), .int (g o 17), .int (g o 18), .int (g o 19), .int (g o 20), .int (g o 21), .int (g o 22), .int (g o 23), .ref (Z.1 139), .ref (Z.1 140), .int (g o 26), .int (g o 27), .int (g o 28), .int (g o 29), .int (g o 30), .int (g o 31), .int (g o 32), .int (g o 33), .ref (Z.1 141), .ref (Z.1 142), .int (g o 36), .ref (Z.1 143), .int (g o 38), .int (g o 39), .int (g o 40), .ref (Z.1 144), .int (g o 42)]).set 40 (.int v))) = wl Z h (up g o 40 v) := by
    have h1 := k_lt hk (by decide)
    refine wl_set h1 ?_ mx_upr
    rw [mx_r (kl_M o h1 hk), up_eq]
    rw [cel_k hk]
    rfl
  exact x_put C hW (wk9 hk) rfl wsX11_in tyX11 tyX11_ok nmX11 40 (by decide) (ml_X11_406) rfl rfl (ty := .boolean) (by decide +kernel) (zb_n hz) (zb_f hz) (Nat.le_of_ble_eq_true rfl) hs hd (fun H1 locs1 q => kk _ H1 locs1 hf q)
theorem ml_X11_72 : Cond.fieldLink RX11 72 RX11 (TX11 41).2.1 (TX11 41).2.2.1 ∈ TW := TW_of 1436 (by decide +kernel) (by decide +kernel)
theorem xg_X11_72 (C : CX p s m args meth c cc RX11 nL ret Z) (hW : XW Z h g s.heap H locs) {o : Nat} (hk : knd o = 9) (hd : decode cc pc = .ok (.getfield 72, 3)) (kk : W p l e R s m args below meth c H locs cells slots Q (F0 m (pc + 3) ls (.ref (Z.1 144) :: rest))) : W p l e R s m args below meth c H locs cells slots Q (F0 m pc ls (.ref (Z.1 o) :: rest)) := x_get C hW (wk9 hk) rfl wsX11_in 41 (by decide) (ml_X11_72) rfl (v := .ref (Z.1 144)) rfl hd kk
theorem ml_X11_431 : Cond.fieldLink RX11 431 RX11 (TX11 42).2.1 (TX11 42).2.2.1 ∈ TW := TW_of 1437 (by decide +kernel) (by decide +kernel)
theorem xg_X11_431 (C : CX p s m args meth c cc RX11 nL ret Z) (hW : XW Z h g s.heap H locs) {o : Nat} (hk : knd o = 9) (hd : decode cc pc = .ok (.getfield 431, 3)) (kk : W p l e R s m args below meth c H locs cells slots Q (F0 m (pc + 3) ls (.int (g o 42) :: rest))) : W p l e R s m args below meth c H locs cells slots Q (F0 m pc ls (.ref (Z.1 o) :: rest)) := x_get C hW (wk9 hk) rfl wsX11_in 42 (by decide) (ml_X11_431) rfl (v := .int (g o 42)) rfl hd kk
theorem xp_X11_431 (C : CX p s m args meth c cc RX11 nL ret Z) (hW : XW Z h g s.heap H locs) {o : Nat} (hk : knd o = 9) {v : Int32} {α : Type} {K : Hp → Option α} {out : α} (hf : stp (up g o 42 v) K = some out) (hd : decode cc pc = .ok (.putfield 431, 3)) (kk : ∀ (h1 : Hp) (H1 : Heap) (locs1 : List Loc), K h1 = some out → XW Z h h1 s.heap H1 locs1 → W p l e R s m args below meth c H1 locs1 cells slots Q (F0 m (pc + 3) ls rest)) : W p l e R s m args below meth c H locs cells slots Q (F0 m pc ls (.int v :: .ref (Z.1 o) :: rest)) := by
  have hs : (wl Z h g).set o (Z.1 o, .inr (9, ([.int (g o 0), .ref (Z.1 126), .ref (Z.1 127), .int (g o 3), .ref (Z.1 128), .ref (Z.1 129), .ref (Z.1 130), .ref (Z.1 131), .ref (Z.1 132), .ref (Z.1 133), .ref (Z.1 134), .ref (Z.1 135), .ref (Z.1 136), .int (g o 13), .ref (Z.1 137), .ref (Z.1 138), .int (g o 16), .int (g o 17), .int (g o 18), .int (g o 19), .int (g o 20), .int (g o 21), .int (g o 22), .int (g o 23), .ref (Z.1 139), .ref (Z.1 140), .int (g o 26), .int (g o 27), .int (g o 28), .int (g o 29), .int (g o 30), .int (g o 31), .int (g o 32), .int (g o 33), .ref (Z.1 141), .ref (Z.1 142), .int (g o 36), .ref (Z.1 143), .int (g o 38), .int (g o 39), .int (g o 40), .ref (Z.1 144), .int (g o 42)]).set 42 (.int v))) = wl Z h (up g o 42 v) := by
    have h1 := k_lt hk (by decide)
    refine wl_set h1 ?_ mx_upr
    rw [mx_r (kl_M o h1 hk), up_eq]
    rw [cel_k hk]
    rfl
  exact x_put C hW (wk9 hk) rfl wsX11_in tyX11 tyX11_ok nmX11 42 (by decide) (ml_X11_431) rfl rfl (ty := .int) (by decide +kernel) (rfl) (rfl) (Nat.le_of_ble_eq_true rfl) hs hd (fun H1 locs1 q => kk _ H1 locs1 hf q)
end GP
