/-- the words of the tables that hold at every later state -/
def xtbl : List Cond := lw_tbl.filter goodWord
theorem xt_in {w : Cond} (i : Nat) (h : lw_tbl[i]? = some w) (g : goodWord w = true) : w ∈ xtbl := List.mem_filter.mpr ⟨List.mem_of_getElem? h, g⟩
theorem xt_good : GoodIn xtbl xtbl := fun w h => ⟨h, good_of_word (List.mem_filter.mp h).2⟩
def RX0 : String := "WeightedWords$Basis"
def TX0 : u_T := fun k => match k with
  | 0 => ("WeightedWords$Basis", "realm", "LWeightedWords$Realm;", true)
  | 1 => ("WeightedWords$Basis", "columns", "LWeightedWords$Span;", true)
  | 2 => ("WeightedWords$Basis", "rows", "LWeightedWords$Span;", true)
  | 3 => ("WeightedWords$Basis", "words", "[I", true)
  | 4 => ("WeightedWords$Basis", "reached", "[[I", true)
  | 5 => ("WeightedWords$Basis", "row", "[I", true)
  | 6 => ("WeightedWords$Basis", "letters", "[I", true)
  | 7 => ("WeightedWords$Basis", "here", "[I", false)
  | 8 => ("WeightedWords$Basis", "there", "[I", false)
  | 9 => ("WeightedWords$Basis", "machine", "LWeightedWords$Machine;", false)
  | _ => ("WeightedWords$Basis", "size", "I", false)
def tyX0 : Nat → FieldType := fun k => match k with
  | 0 => .object "WeightedWords$Realm"
  | 1 => .object "WeightedWords$Span"
  | 2 => .object "WeightedWords$Span"
  | 3 => .array .int
  | 4 => .array (.array .int)
  | 5 => .array .int
  | 6 => .array .int
  | 7 => .array .int
  | 8 => .array .int
  | 9 => .object "WeightedWords$Machine"
  | _ => .int
theorem nmX0 : ∀ a, a < 11 → ∀ b, b < 11 → a ≠ b → (TX0 a).2.1 ≠ (TX0 b).2.1 := by decide +kernel
theorem tyX0_ok : ∀ k, k < 11 → parseFieldDescriptor (TX0 k).2.2.1 = some (tyX0 k) := by decide +kernel
theorem inX0 : ∀ w ∈ u_ws RX0 TX0 11, w ∈ xtbl := by
  have h : u_ws RX0 TX0 11 = [363, 365, 367, 369, 371, 373, 375, 377, 379, 381, 383].filterMap (fun i => lw_tbl[i]?) := by decide +kernel
  have g : (u_ws RX0 TX0 11).all goodWord = true := by decide +kernel
  intro w hw
  have h1 := List.all_eq_true.mp g w hw
  rw [h] at hw
  obtain ⟨i, -, hi⟩ := List.mem_filterMap.mp hw
  exact xt_in i hi h1
def RX1 : String := "WeightedWords$Census"
def TX1 : u_T := fun k => match k with
  | 0 => ("WeightedWords$Census", "realm", "LWeightedWords$Realm;", true)
  | 1 => ("WeightedWords$Census", "heads", "[[I", true)
  | 2 => ("WeightedWords$Census", "tails", "[[I", true)
  | 3 => ("WeightedWords$Census", "words", "I", false)
  | 4 => ("WeightedWords$Census", "zeros", "I", false)
  | _ => ("WeightedWords$Census", "sum", "I", false)
def tyX1 : Nat → FieldType := fun k => match k with
  | 0 => .object "WeightedWords$Realm"
  | 1 => .array (.array .int)
  | 2 => .array (.array .int)
  | 3 => .int
  | 4 => .int
  | _ => .int
theorem nmX1 : ∀ a, a < 6 → ∀ b, b < 6 → a ≠ b → (TX1 a).2.1 ≠ (TX1 b).2.1 := by decide +kernel
theorem tyX1_ok : ∀ k, k < 6 → parseFieldDescriptor (TX1 k).2.2.1 = some (tyX1 k) := by decide +kernel
theorem inX1 : ∀ w ∈ u_ws RX1 TX1 6, w ∈ xtbl := by
  have h : u_ws RX1 TX1 6 = [399, 401, 403, 405, 407, 409].filterMap (fun i => lw_tbl[i]?) := by decide +kernel
  have g : (u_ws RX1 TX1 6).all goodWord = true := by decide +kernel
  intro w hw
  have h1 := List.all_eq_true.mp g w hw
  rw [h] at hw
  obtain ⟨i, -, hi⟩ := List.mem_filterMap.mp hw
  exact xt_in i hi h1
def RX2 : String := "WeightedWords$Dice"
def TX2 : u_T := fun k => match k with
  | 0 => ("WeightedWords$Dice", "prime", "I", true)
  | _ => ("WeightedWords$Dice", "seed", "I", false)
def tyX2 : Nat → FieldType := fun k => match k with
  | 0 => .int
  | _ => .int
theorem nmX2 : ∀ a, a < 2 → ∀ b, b < 2 → a ≠ b → (TX2 a).2.1 ≠ (TX2 b).2.1 := by decide +kernel
theorem tyX2_ok : ∀ k, k < 2 → parseFieldDescriptor (TX2 k).2.2.1 = some (tyX2 k) := by decide +kernel
theorem inX2 : ∀ w ∈ u_ws RX2 TX2 2, w ∈ xtbl := by
  have h : u_ws RX2 TX2 2 = [1076, 1078].filterMap (fun i => lw_tbl[i]?) := by decide +kernel
  have g : (u_ws RX2 TX2 2).all goodWord = true := by decide +kernel
  intro w hw
  have h1 := List.all_eq_true.mp g w hw
  rw [h] at hw
  obtain ⟨i, -, hi⟩ := List.mem_filterMap.mp hw
  exact xt_in i hi h1
def RX3 : String := "WeightedWords$Machine"
def TX3 : u_T := fun k => match k with
  | 0 => ("WeightedWords$Machine", "realm", "LWeightedWords$Realm;", true)
  | 1 => ("WeightedWords$Machine", "most", "I", true)
  | 2 => ("WeightedWords$Machine", "states", "I", false)
  | 3 => ("WeightedWords$Machine", "starts", "[I", true)
  | 4 => ("WeightedWords$Machine", "ends", "[I", true)
  | _ => ("WeightedWords$Machine", "weights", "[I", true)
def tyX3 : Nat → FieldType := fun k => match k with
  | 0 => .object "WeightedWords$Realm"
  | 1 => .int
  | 2 => .int
  | 3 => .array .int
  | 4 => .array .int
  | _ => .array .int
theorem nmX3 : ∀ a, a < 6 → ∀ b, b < 6 → a ≠ b → (TX3 a).2.1 ≠ (TX3 b).2.1 := by decide +kernel
theorem tyX3_ok : ∀ k, k < 6 → parseFieldDescriptor (TX3 k).2.2.1 = some (tyX3 k) := by decide +kernel
theorem inX3 : ∀ w ∈ u_ws RX3 TX3 6, w ∈ xtbl := by
  have h : u_ws RX3 TX3 6 = [178, 180, 182, 184, 186, 188].filterMap (fun i => lw_tbl[i]?) := by decide +kernel
  have g : (u_ws RX3 TX3 6).all goodWord = true := by decide +kernel
  intro w hw
  have h1 := List.all_eq_true.mp g w hw
  rw [h] at hw
  obtain ⟨i, -, hi⟩ := List.mem_filterMap.mp hw
  exact xt_in i hi h1
def RX4 : String := "WeightedWords$Reader"
def TX4 : u_T := fun k => match k with
  | 0 => ("WeightedWords$Reader", "tape", "[B", true)
  | 1 => ("WeightedWords$Reader", "length", "I", false)
  | 2 => ("WeightedWords$Reader", "place", "I", false)
  | 3 => ("WeightedWords$Reader", "token", "I", false)
  | 4 => ("WeightedWords$Reader", "from", "I", false)
  | 5 => ("WeightedWords$Reader", "number", "I", false)
  | 6 => ("WeightedWords$Reader", "draft", "LWeightedWords$Machine;", true)
  | 7 => ("WeightedWords$Reader", "told", "[Z", true)
  | 8 => ("WeightedWords$Reader", "greatestState", "I", false)
  | 9 => ("WeightedWords$Reader", "greatestLetter", "I", false)
  | 10 => ("WeightedWords$Reader", "prime", "I", false)
  | 11 => ("WeightedWords$Reader", "letters", "I", false)
  | 12 => ("WeightedWords$Reader", "states", "I", false)
  | 13 => ("WeightedWords$Reader", "refusal", "I", false)
  | _ => ("WeightedWords$Reader", "refusedAt", "I", false)
def tyX4 : Nat → FieldType := fun k => match k with
  | 0 => .array .byte
  | 1 => .int
  | 2 => .int
  | 3 => .int
  | 4 => .int
  | 5 => .int
  | 6 => .object "WeightedWords$Machine"
  | 7 => .array .boolean
  | 8 => .int
  | 9 => .int
  | 10 => .int
  | 11 => .int
  | 12 => .int
  | 13 => .int
  | _ => .int
theorem nmX4 : ∀ a, a < 15 → ∀ b, b < 15 → a ≠ b → (TX4 a).2.1 ≠ (TX4 b).2.1 := by decide +kernel
theorem tyX4_ok : ∀ k, k < 15 → parseFieldDescriptor (TX4 k).2.2.1 = some (tyX4 k) := by decide +kernel
theorem inX4 : ∀ w ∈ u_ws RX4 TX4 15, w ∈ xtbl := by
  have h : u_ws RX4 TX4 15 = [214, 216, 218, 220, 222, 224, 226, 228, 230, 232, 234, 236, 238, 240, 242].filterMap (fun i => lw_tbl[i]?) := by decide +kernel
  have g : (u_ws RX4 TX4 15).all goodWord = true := by decide +kernel
  intro w hw
  have h1 := List.all_eq_true.mp g w hw
  rw [h] at hw
  obtain ⟨i, -, hi⟩ := List.mem_filterMap.mp hw
  exact xt_in i hi h1
def RX5 : String := "WeightedWords$Realm"
def TX5 : u_T := fun k => match k with
  | 0 => ("WeightedWords$Realm", "prime", "I", false)
  | _ => ("WeightedWords$Realm", "letters", "I", false)
def tyX5 : Nat → FieldType := fun k => match k with
  | 0 => .int
  | _ => .int
theorem nmX5 : ∀ a, a < 2 → ∀ b, b < 2 → a ≠ b → (TX5 a).2.1 ≠ (TX5 b).2.1 := by decide +kernel
theorem tyX5_ok : ∀ k, k < 2 → parseFieldDescriptor (TX5 k).2.2.1 = some (tyX5 k) := by decide +kernel
theorem inX5 : ∀ w ∈ u_ws RX5 TX5 2, w ∈ xtbl := by
  have h : u_ws RX5 TX5 2 = [140, 142].filterMap (fun i => lw_tbl[i]?) := by decide +kernel
  have g : (u_ws RX5 TX5 2).all goodWord = true := by decide +kernel
  intro w hw
  have h1 := List.all_eq_true.mp g w hw
  rw [h] at hw
  obtain ⟨i, -, hi⟩ := List.mem_filterMap.mp hw
  exact xt_in i hi h1
def RX6 : String := "WeightedWords$Shelf"
def TX6 : u_T := fun k => match k with
  | 0 => ("WeightedWords$Shelf", "realm", "LWeightedWords$Realm;", true)
  | 1 => ("WeightedWords$Shelf", "cells", "[LWeightedWords$Machine;", true)
  | 2 => ("WeightedWords$Shelf", "kinds", "[I", true)
  | 3 => ("WeightedWords$Shelf", "lane", "I", false)
  | _ => ("WeightedWords$Shelf", "size", "I", false)
def tyX6 : Nat → FieldType := fun k => match k with
  | 0 => .object "WeightedWords$Realm"
  | 1 => .array (.object "WeightedWords$Machine")
  | 2 => .array .int
  | 3 => .int
  | _ => .int
theorem nmX6 : ∀ a, a < 5 → ∀ b, b < 5 → a ≠ b → (TX6 a).2.1 ≠ (TX6 b).2.1 := by decide +kernel
theorem tyX6_ok : ∀ k, k < 5 → parseFieldDescriptor (TX6 k).2.2.1 = some (tyX6 k) := by decide +kernel
theorem inX6 : ∀ w ∈ u_ws RX6 TX6 5, w ∈ xtbl := by
  have h : u_ws RX6 TX6 5 = [429, 431, 433, 435, 437].filterMap (fun i => lw_tbl[i]?) := by decide +kernel
  have g : (u_ws RX6 TX6 5).all goodWord = true := by decide +kernel
  intro w hw
  have h1 := List.all_eq_true.mp g w hw
  rw [h] at hw
  obtain ⟨i, -, hi⟩ := List.mem_filterMap.mp hw
  exact xt_in i hi h1
def RX7 : String := "WeightedWords$Span"
def TX7 : u_T := fun k => match k with
  | 0 => ("WeightedWords$Span", "realm", "LWeightedWords$Realm;", true)
  | 1 => ("WeightedWords$Span", "echelon", "[[I", true)
  | 2 => ("WeightedWords$Span", "makings", "[[I", true)
  | 3 => ("WeightedWords$Span", "pivots", "[I", true)
  | 4 => ("WeightedWords$Span", "rest", "[I", true)
  | 5 => ("WeightedWords$Span", "pivotOfRest", "I", false)
  | 6 => ("WeightedWords$Span", "parts", "[I", true)
  | 7 => ("WeightedWords$Span", "width", "I", false)
  | _ => ("WeightedWords$Span", "size", "I", false)
def tyX7 : Nat → FieldType := fun k => match k with
  | 0 => .object "WeightedWords$Realm"
  | 1 => .array (.array .int)
  | 2 => .array (.array .int)
  | 3 => .array .int
  | 4 => .array .int
  | 5 => .int
  | 6 => .array .int
  | 7 => .int
  | _ => .int
theorem nmX7 : ∀ a, a < 9 → ∀ b, b < 9 → a ≠ b → (TX7 a).2.1 ≠ (TX7 b).2.1 := by decide +kernel
theorem tyX7_ok : ∀ k, k < 9 → parseFieldDescriptor (TX7 k).2.2.1 = some (tyX7 k) := by decide +kernel
theorem inX7 : ∀ w ∈ u_ws RX7 TX7 9, w ∈ xtbl := by
  have h : u_ws RX7 TX7 9 = [325, 327, 329, 331, 333, 335, 337, 339, 341].filterMap (fun i => lw_tbl[i]?) := by decide +kernel
  have g : (u_ws RX7 TX7 9).all goodWord = true := by decide +kernel
  intro w hw
  have h1 := List.all_eq_true.mp g w hw
  rw [h] at hw
  obtain ⟨i, -, hi⟩ := List.mem_filterMap.mp hw
  exact xt_in i hi h1
def RX8 : String := "WeightedWords$Study"
def TX8 : u_T := fun k => match k with
  | 0 => ("WeightedWords$Study", "realm", "LWeightedWords$Realm;", true)
  | 1 => ("WeightedWords$Study", "teacher", "LWeightedWords$Machine;", true)
  | 2 => ("WeightedWords$Study", "guess", "LWeightedWords$Machine;", true)
  | 3 => ("WeightedWords$Study", "prefixes", "[I", true)
  | 4 => ("WeightedWords$Study", "suffixes", "[I", true)
  | 5 => ("WeightedWords$Study", "prefixCount", "I", false)
  | 6 => ("WeightedWords$Study", "suffixCount", "I", false)
  | 7 => ("WeightedWords$Study", "rounds", "I", false)
  | _ => ("WeightedWords$Study", "guessed", "Z", false)
def tyX8 : Nat → FieldType := fun k => match k with
  | 0 => .object "WeightedWords$Realm"
  | 1 => .object "WeightedWords$Machine"
  | 2 => .object "WeightedWords$Machine"
  | 3 => .array .int
  | 4 => .array .int
  | 5 => .int
  | 6 => .int
  | 7 => .int
  | _ => .boolean
theorem nmX8 : ∀ a, a < 9 → ∀ b, b < 9 → a ≠ b → (TX8 a).2.1 ≠ (TX8 b).2.1 := by decide +kernel
theorem tyX8_ok : ∀ k, k < 9 → parseFieldDescriptor (TX8 k).2.2.1 = some (tyX8 k) := by decide +kernel
theorem inX8 : ∀ w ∈ u_ws RX8 TX8 9, w ∈ xtbl := by
  have h : u_ws RX8 TX8 9 = [274, 276, 278, 280, 282, 284, 286, 288, 290].filterMap (fun i => lw_tbl[i]?) := by decide +kernel
  have g : (u_ws RX8 TX8 9).all goodWord = true := by decide +kernel
  intro w hw
  have h1 := List.all_eq_true.mp g w hw
  rw [h] at hw
  obtain ⟨i, -, hi⟩ := List.mem_filterMap.mp hw
  exact xt_in i hi h1
def RX9 : String := "WeightedWords"
def TX9 : u_T := fun k => match k with
  | 0 => ("WeightedWords", "realm", "LWeightedWords$Realm;", true)
  | 1 => ("WeightedWords", "reader", "LWeightedWords$Reader;", true)
  | 2 => ("WeightedWords", "now", "LWeightedWords$Study;", true)
  | 3 => ("WeightedWords", "images", "[LWeightedWords$Study;", true)
  | 4 => ("WeightedWords", "kept", "[Z", true)
  | 5 => ("WeightedWords", "shelves", "[LWeightedWords$Shelf;", true)
  | 6 => ("WeightedWords", "basis", "LWeightedWords$Basis;", true)
  | 7 => ("WeightedWords", "census", "LWeightedWords$Census;", true)
  | 8 => ("WeightedWords", "difference", "LWeightedWords$Machine;", true)
  | 9 => ("WeightedWords", "least", "LWeightedWords$Machine;", true)
  | 10 => ("WeightedWords", "leastWords", "[I", true)
  | 11 => ("WeightedWords", "leastKnown", "Z", false)
  | 12 => ("WeightedWords", "word", "I", false)
  | 13 => ("WeightedWords", "wordLength", "I", false)
  | _ => ("WeightedWords", "latestFault", "I", false)
def tyX9 : Nat → FieldType := fun k => match k with
  | 0 => .object "WeightedWords$Realm"
  | 1 => .object "WeightedWords$Reader"
  | 2 => .object "WeightedWords$Study"
  | 3 => .array (.object "WeightedWords$Study")
  | 4 => .array .boolean
  | 5 => .array (.object "WeightedWords$Shelf")
  | 6 => .object "WeightedWords$Basis"
  | 7 => .object "WeightedWords$Census"
  | 8 => .object "WeightedWords$Machine"
  | 9 => .object "WeightedWords$Machine"
  | 10 => .array .int
  | 11 => .boolean
  | 12 => .int
  | 13 => .int
  | _ => .int
theorem nmX9 : ∀ a, a < 15 → ∀ b, b < 15 → a ≠ b → (TX9 a).2.1 ≠ (TX9 b).2.1 := by decide +kernel
theorem tyX9_ok : ∀ k, k < 15 → parseFieldDescriptor (TX9 k).2.2.1 = some (tyX9 k) := by decide +kernel
theorem inX9 : ∀ w ∈ u_ws RX9 TX9 15, w ∈ xtbl := by
  have h : u_ws RX9 TX9 15 = [455, 457, 459, 461, 463, 465, 467, 469, 471, 473, 475, 477, 479, 481, 483].filterMap (fun i => lw_tbl[i]?) := by decide +kernel
  have g : (u_ws RX9 TX9 15).all goodWord = true := by decide +kernel
  intro w hw
  have h1 := List.all_eq_true.mp g w hw
  rw [h] at hw
  obtain ⟨i, -, hi⟩ := List.mem_filterMap.mp hw
  exact xt_in i hi h1
def RX10 : String := "WeightedWordsModel"
def TX10 : u_T := fun k => match k with
  | 0 => ("WeightedWordsModel", "page", "[I", true)
  | 1 => ("WeightedWordsModel", "prime", "I", false)
  | 2 => ("WeightedWordsModel", "letters", "I", false)
  | 3 => ("WeightedWordsModel", "isGuessed", "Z", false)
  | 4 => ("WeightedWordsModel", "now", "[I", true)
  | 5 => ("WeightedWordsModel", "then", "[I", true)
  | 6 => ("WeightedWordsModel", "equations", "[I", true)
  | 7 => ("WeightedWordsModel", "solved", "[I", true)
  | 8 => ("WeightedWordsModel", "prefixes", "[I", true)
  | 9 => ("WeightedWordsModel", "suffixes", "[I", true)
  | 10 => ("WeightedWordsModel", "prefixMany", "I", false)
  | 11 => ("WeightedWordsModel", "suffixMany", "I", false)
  | 12 => ("WeightedWordsModel", "rounds", "I", false)
  | 13 => ("WeightedWordsModel", "base", "[I", true)
  | 14 => ("WeightedWordsModel", "baseMany", "I", false)
  | 15 => ("WeightedWordsModel", "tape", "[I", true)
  | 16 => ("WeightedWordsModel", "taped", "I", false)
  | 17 => ("WeightedWordsModel", "fault", "I", false)
  | 18 => ("WeightedWordsModel", "brokenAt", "I", false)
  | 19 => ("WeightedWordsModel", "spot", "I", false)
  | 20 => ("WeightedWordsModel", "here", "I", false)
  | 21 => ("WeightedWordsModel", "token", "I", false)
  | 22 => ("WeightedWordsModel", "value", "I", false)
  | 23 => ("WeightedWordsModel", "ends", "[I", true)
  | 24 => ("WeightedWordsModel", "names", "[I", true)
  | 25 => ("WeightedWordsModel", "isTold", "[Z", true)
  | 26 => ("WeightedWordsModel", "draftPrime", "I", false)
  | 27 => ("WeightedWordsModel", "draftLetters", "I", false)
  | 28 => ("WeightedWordsModel", "greatestState", "I", false)
  | 29 => ("WeightedWordsModel", "greatestLetter", "I", false)
  | 30 => ("WeightedWordsModel", "all", "[I", true)
  | 31 => ("WeightedWordsModel", "word", "[I", true)
  | 32 => ("WeightedWordsModel", "wordLong", "I", false)
  | 33 => ("WeightedWordsModel", "spans", "[I", true)
  | 34 => ("WeightedWordsModel", "spanned", "I", false)
  | 35 => ("WeightedWordsModel", "drawn", "I", false)
  | 36 => ("WeightedWordsModel", "isKept", "[Z", true)
  | 37 => ("WeightedWordsModel", "keptTable", "[I", true)
  | 38 => ("WeightedWordsModel", "lanes", "[I", true)
  | 39 => ("WeightedWordsModel", "sizes", "[I", true)
  | _ => ("WeightedWordsModel", "sorts", "[I", true)
def tyX10 : Nat → FieldType := fun k => match k with
  | 0 => .array .int
  | 1 => .int
  | 2 => .int
  | 3 => .boolean
  | 4 => .array .int
  | 5 => .array .int
  | 6 => .array .int
  | 7 => .array .int
  | 8 => .array .int
  | 9 => .array .int
  | 10 => .int
  | 11 => .int
  | 12 => .int
  | 13 => .array .int
  | 14 => .int
  | 15 => .array .int
  | 16 => .int
  | 17 => .int
  | 18 => .int
  | 19 => .int
  | 20 => .int
  | 21 => .int
  | 22 => .int
  | 23 => .array .int
  | 24 => .array .int
  | 25 => .array .boolean
  | 26 => .int
  | 27 => .int
  | 28 => .int
  | 29 => .int
  | 30 => .array .int
  | 31 => .array .int
  | 32 => .int
  | 33 => .array .int
  | 34 => .int
  | 35 => .int
  | 36 => .array .boolean
  | 37 => .array .int
  | 38 => .array .int
  | 39 => .array .int
  | _ => .array .int
theorem nmX10 : ∀ a, a < 41 → ∀ b, b < 41 → a ≠ b → (TX10 a).2.1 ≠ (TX10 b).2.1 := by decide +kernel
theorem tyX10_ok : ∀ k, k < 41 → parseFieldDescriptor (TX10 k).2.2.1 = some (tyX10 k) := by decide +kernel
theorem inX10 : ∀ w ∈ u_ws RX10 TX10 41, w ∈ xtbl := by
  have h : u_ws RX10 TX10 41 = [1199, 1201, 1203, 1205, 1207, 1209, 1211, 1213, 1215, 1217, 1219, 1221, 1223, 1225, 1227, 1229, 1231, 1233, 1235, 1237, 1239, 1241, 1243, 1245, 1247, 1249, 1251, 1253, 1255, 1257, 1259, 1261, 1263, 1265, 1267, 1269, 1271, 1273, 1275, 1277, 1279].filterMap (fun i => lw_tbl[i]?) := by decide +kernel
  have g : (u_ws RX10 TX10 41).all goodWord = true := by decide +kernel
  intro w hw
  have h1 := List.all_eq_true.mp g w hw
  rw [h] at hw
  obtain ⟨i, -, hi⟩ := List.mem_filterMap.mp hw
  exact xt_in i hi h1
abbrev xcl : List vw_C := [(RX0, TX0, 11), (RX1, TX1, 6), (RX2, TX2, 2), (RX3, TX3, 6), (RX4, TX4, 15), (RX5, TX5, 2), (RX6, TX6, 5), (RX7, TX7, 9), (RX8, TX8, 9), (RX9, TX9, 15), (RX10, TX10, 41)]
def xft : Nat → Nat → FieldType := fun c => match c with
  | 0 => tyX0
  | 1 => tyX1
  | 2 => tyX2
  | 3 => tyX3
  | 4 => tyX4
  | 5 => tyX5
  | 6 => tyX6
  | 7 => tyX7
  | 8 => tyX8
  | 9 => tyX9
  | _ => tyX10
theorem xc_in : ∀ (ci : Nat) (r : vw_C), xcl[ci]? = some r → ∀ w ∈ u_ws r.1 r.2.1 r.2.2, w ∈ xtbl := by
  intro ci r h
  match ci, h with
  | 0, h => cases h; exact inX0
  | 1, h => cases h; exact inX1
  | 2, h => cases h; exact inX2
  | 3, h => cases h; exact inX3
  | 4, h => cases h; exact inX4
  | 5, h => cases h; exact inX5
  | 6, h => cases h; exact inX6
  | 7, h => cases h; exact inX7
  | 8, h => cases h; exact inX8
  | 9, h => cases h; exact inX9
  | 10, h => cases h; exact inX10
  | k + 11, h => simp [xcl] at h
theorem xc_ty : ∀ (ci : Nat) (r : vw_C), xcl[ci]? = some r → ∀ k, k < r.2.2 → parseFieldDescriptor (r.2.1 k).2.2.1 = some (xft ci k) := by
  intro ci r h
  match ci, h with
  | 0, h => cases h; exact tyX0_ok
  | 1, h => cases h; exact tyX1_ok
  | 2, h => cases h; exact tyX2_ok
  | 3, h => cases h; exact tyX3_ok
  | 4, h => cases h; exact tyX4_ok
  | 5, h => cases h; exact tyX5_ok
  | 6, h => cases h; exact tyX6_ok
  | 7, h => cases h; exact tyX7_ok
  | 8, h => cases h; exact tyX8_ok
  | 9, h => cases h; exact tyX9_ok
  | 10, h => cases h; exact tyX10_ok
  | k + 11, h => simp [xcl] at h
theorem xc_nm : ∀ (ci : Nat) (r : vw_C), xcl[ci]? = some r → ∀ a, a < r.2.2 → ∀ b, b < r.2.2 → a ≠ b → (r.2.1 a).2.1 ≠ (r.2.1 b).2.1 := by
  intro ci r h
  match ci, h with
  | 0, h => cases h; exact nmX0
  | 1, h => cases h; exact nmX1
  | 2, h => cases h; exact nmX2
  | 3, h => cases h; exact nmX3
  | 4, h => cases h; exact nmX4
  | 5, h => cases h; exact nmX5
  | 6, h => cases h; exact nmX6
  | 7, h => cases h; exact nmX7
  | 8, h => cases h; exact nmX8
  | 9, h => cases h; exact nmX9
  | 10, h => cases h; exact nmX10
  | k + 11, h => simp [xcl] at h
