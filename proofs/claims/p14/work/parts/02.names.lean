def R_P : String := "PointMaps"
def F_P : u_T := fun k => match k with
  | 0 => ("PointMaps", "letters", "LPointMaps$Letters;", true)
  | 1 => ("PointMaps", "all", "LPointMaps$Elements;", true)
  | 2 => ("PointMaps", "inside", "LPointMaps$Boxes;", true)
  | 3 => ("PointMaps", "sets", "LPointMaps$PointSets;", true)
  | 4 => ("PointMaps", "setWalks", "LPointMaps$Walks;", true)
  | 5 => ("PointMaps", "pairWalks", "LPointMaps$Walks;", true)
  | _ => ("PointMaps", "machine", "LPointMaps$Machine;", true)
def fy_P : Nat → FieldType := fun k => match k with
  | 0 => .object "PointMaps$Letters"
  | 1 => .object "PointMaps$Elements"
  | 2 => .object "PointMaps$Boxes"
  | 3 => .object "PointMaps$PointSets"
  | 4 => .object "PointMaps$Walks"
  | 5 => .object "PointMaps$Walks"
  | _ => .object "PointMaps$Machine"
theorem n_P : ∀ a, a < 7 → ∀ b, b < 7 → a ≠ b → (F_P a).2.1 ≠ (F_P b).2.1 := by decide +kernel
theorem ty_P : ∀ k, k < 7 → parseFieldDescriptor (F_P k).2.2.1 = some (fy_P k) := by decide +kernel
theorem i_P : ∀ w ∈ u_ws R_P F_P 7, w ∈ lw_big := by
  intro w hw
  obtain ⟨k, hk, rfl⟩ := List.mem_map.mp hw
  have hk : k < 7 := List.mem_range.mp hk
  match k, hk with
  | 0, _ => exact tb_2 77 rfl rfl
  | 1, _ => exact tb_2 79 rfl rfl
  | 2, _ => exact tb_2 81 rfl rfl
  | 3, _ => exact tb_2 83 rfl rfl
  | 4, _ => exact tb_2 85 rfl rfl
  | 5, _ => exact tb_2 87 rfl rfl
  | 6, _ => exact tb_2 89 rfl rfl
  | k + 7, h => exact absurd h (by omega)
def R_B : String := "PointMaps$Boxes"
def F_B : u_T := fun k => match k with
  | 0 => ("PointMaps$Boxes", "letters", "LPointMaps$Letters;", true)
  | 1 => ("PointMaps$Boxes", "all", "LPointMaps$Elements;", true)
  | 2 => ("PointMaps$Boxes", "steps", "LPointMaps$Steps;", true)
  | 3 => ("PointMaps$Boxes", "names", "LPointMaps$Finder;", true)
  | 4 => ("PointMaps$Boxes", "number", "[I", true)
  | 5 => ("PointMaps$Boxes", "leastIn", "[I", true)
  | 6 => ("PointMaps$Boxes", "many", "[I", true)
  | 7 => ("PointMaps$Boxes", "sizes", "[I", true)
  | 8 => ("PointMaps$Boxes", "stillIn", "[I", true)
  | 9 => ("PointMaps$Boxes", "leadsOut", "[I", true)
  | 10 => ("PointMaps$Boxes", "met", "[I", true)
  | 11 => ("PointMaps$Boxes", "queue", "[I", true)
  | 12 => ("PointMaps$Boxes", "queued", "I", false)
  | _ => ("PointMaps$Boxes", "seen", "I", false)
def fy_B : Nat → FieldType := fun k => match k with
  | 0 => .object "PointMaps$Letters"
  | 1 => .object "PointMaps$Elements"
  | 2 => .object "PointMaps$Steps"
  | 3 => .object "PointMaps$Finder"
  | 4 => .array .int
  | 5 => .array .int
  | 6 => .array .int
  | 7 => .array .int
  | 8 => .array .int
  | 9 => .array .int
  | 10 => .array .int
  | 11 => .array .int
  | 12 => .int
  | _ => .int
theorem n_B : ∀ a, a < 14 → ∀ b, b < 14 → a ≠ b → (F_B a).2.1 ≠ (F_B b).2.1 := by decide +kernel
theorem ty_B : ∀ k, k < 14 → parseFieldDescriptor (F_B k).2.2.1 = some (fy_B k) := by decide +kernel
theorem i_B : ∀ w ∈ u_ws R_B F_B 14, w ∈ lw_big := by
  intro w hw
  obtain ⟨k, hk, rfl⟩ := List.mem_map.mp hw
  have hk : k < 14 := List.mem_range.mp hk
  match k, hk with
  | 0, _ => exact tb_1 204 rfl rfl
  | 1, _ => exact tb_1 206 rfl rfl
  | 2, _ => exact tb_1 208 rfl rfl
  | 3, _ => exact tb_1 210 rfl rfl
  | 4, _ => exact tb_1 212 rfl rfl
  | 5, _ => exact tb_1 214 rfl rfl
  | 6, _ => exact tb_1 216 rfl rfl
  | 7, _ => exact tb_1 218 rfl rfl
  | 8, _ => exact tb_1 220 rfl rfl
  | 9, _ => exact tb_1 222 rfl rfl
  | 10, _ => exact tb_1 224 rfl rfl
  | 11, _ => exact tb_1 226 rfl rfl
  | 12, _ => exact tb_1 228 rfl rfl
  | 13, _ => exact tb_1 230 rfl rfl
  | k + 14, h => exact absurd h (by omega)
def R_E : String := "PointMaps$Elements"
def F_E : u_T := fun k => match k with
  | 0 => ("PointMaps$Elements", "letters", "LPointMaps$Letters;", true)
  | 1 => ("PointMaps$Elements", "maps", "[I", true)
  | 2 => ("PointMaps$Elements", "behind", "[I", true)
  | 3 => ("PointMaps$Elements", "numbers", "LPointMaps$Finder;", true)
  | 4 => ("PointMaps$Elements", "powers", "LPointMaps$Powers;", true)
  | 5 => ("PointMaps$Elements", "words", "LPointMaps$Trail;", true)
  | 6 => ("PointMaps$Elements", "many", "I", false)
  | 7 => ("PointMaps$Elements", "spent", "Z", false)
  | _ => ("PointMaps$Elements", "seen", "I", false)
def fy_E : Nat → FieldType := fun k => match k with
  | 0 => .object "PointMaps$Letters"
  | 1 => .array .int
  | 2 => .array .int
  | 3 => .object "PointMaps$Finder"
  | 4 => .object "PointMaps$Powers"
  | 5 => .object "PointMaps$Trail"
  | 6 => .int
  | 7 => .boolean
  | _ => .int
theorem n_E : ∀ a, a < 9 → ∀ b, b < 9 → a ≠ b → (F_E a).2.1 ≠ (F_E b).2.1 := by decide +kernel
theorem ty_E : ∀ k, k < 9 → parseFieldDescriptor (F_E k).2.2.1 = some (fy_E k) := by decide +kernel
theorem i_E : ∀ w ∈ u_ws R_E F_E 9, w ∈ lw_big := by
  intro w hw
  obtain ⟨k, hk, rfl⟩ := List.mem_map.mp hw
  have hk : k < 9 := List.mem_range.mp hk
  match k, hk with
  | 0, _ => exact tb_1 126 rfl rfl
  | 1, _ => exact tb_1 128 rfl rfl
  | 2, _ => exact tb_1 130 rfl rfl
  | 3, _ => exact tb_1 132 rfl rfl
  | 4, _ => exact tb_1 134 rfl rfl
  | 5, _ => exact tb_1 136 rfl rfl
  | 6, _ => exact tb_1 138 rfl rfl
  | 7, _ => exact tb_1 140 rfl rfl
  | 8, _ => exact tb_1 142 rfl rfl
  | k + 9, h => exact absurd h (by omega)
def R_F : String := "PointMaps$Finder"
def F_F : u_T := fun k => match k with
  | 0 => ("PointMaps$Finder", "keys", "[I", true)
  | _ => ("PointMaps$Finder", "numbers", "[I", true)
def fy_F : Nat → FieldType := fun k => match k with
  | 0 => .array .int
  | _ => .array .int
theorem n_F : ∀ a, a < 2 → ∀ b, b < 2 → a ≠ b → (F_F a).2.1 ≠ (F_F b).2.1 := by decide +kernel
theorem ty_F : ∀ k, k < 2 → parseFieldDescriptor (F_F k).2.2.1 = some (fy_F k) := by decide +kernel
theorem i_F : ∀ w ∈ u_ws R_F F_F 2, w ∈ lw_big := by
  intro w hw
  obtain ⟨k, hk, rfl⟩ := List.mem_map.mp hw
  have hk : k < 2 := List.mem_range.mp hk
  match k, hk with
  | 0, _ => exact tb_1 73 rfl rfl
  | 1, _ => exact tb_1 75 rfl rfl
  | k + 2, h => exact absurd h (by omega)
def R_L : String := "PointMaps$Letters"
def F_L : u_T := fun k => match k with
  | 0 => ("PointMaps$Letters", "maps", "[I", true)
  | 1 => ("PointMaps$Letters", "n", "I", false)
  | 2 => ("PointMaps$Letters", "many", "I", false)
  | _ => ("PointMaps$Letters", "changes", "I", false)
def fy_L : Nat → FieldType := fun k => match k with
  | 0 => .array .int
  | 1 => .int
  | 2 => .int
  | _ => .int
theorem n_L : ∀ a, a < 4 → ∀ b, b < 4 → a ≠ b → (F_L a).2.1 ≠ (F_L b).2.1 := by decide +kernel
theorem ty_L : ∀ k, k < 4 → parseFieldDescriptor (F_L k).2.2.1 = some (fy_L k) := by decide +kernel
theorem i_L : ∀ w ∈ u_ws R_L F_L 4, w ∈ lw_big := by
  intro w hw
  obtain ⟨k, hk, rfl⟩ := List.mem_map.mp hw
  have hk : k < 4 := List.mem_range.mp hk
  match k, hk with
  | 0, _ => exact tb_1 49 rfl rfl
  | 1, _ => exact tb_1 51 rfl rfl
  | 2, _ => exact tb_1 53 rfl rfl
  | 3, _ => exact tb_1 55 rfl rfl
  | k + 4, h => exact absurd h (by omega)
def R_A : String := "PointMaps$Machine"
def F_A : u_T := fun k => match k with
  | 0 => ("PointMaps$Machine", "letters", "LPointMaps$Letters;", true)
  | 1 => ("PointMaps$Machine", "all", "LPointMaps$Elements;", true)
  | 2 => ("PointMaps$Machine", "sets", "LPointMaps$PointSets;", true)
  | 3 => ("PointMaps$Machine", "powers", "LPointMaps$Powers;", true)
  | 4 => ("PointMaps$Machine", "known", "LPointMaps$Finder;", true)
  | 5 => ("PointMaps$Machine", "ways", "[I", true)
  | 6 => ("PointMaps$Machine", "nextWays", "[I", true)
  | 7 => ("PointMaps$Machine", "start", "I", false)
  | _ => ("PointMaps$Machine", "ends", "I", false)
def fy_A : Nat → FieldType := fun k => match k with
  | 0 => .object "PointMaps$Letters"
  | 1 => .object "PointMaps$Elements"
  | 2 => .object "PointMaps$PointSets"
  | 3 => .object "PointMaps$Powers"
  | 4 => .object "PointMaps$Finder"
  | 5 => .array .int
  | 6 => .array .int
  | 7 => .int
  | _ => .int
theorem n_A : ∀ a, a < 9 → ∀ b, b < 9 → a ≠ b → (F_A a).2.1 ≠ (F_A b).2.1 := by decide +kernel
theorem ty_A : ∀ k, k < 9 → parseFieldDescriptor (F_A k).2.2.1 = some (fy_A k) := by decide +kernel
theorem i_A : ∀ w ∈ u_ws R_A F_A 9, w ∈ lw_big := by
  intro w hw
  obtain ⟨k, hk, rfl⟩ := List.mem_map.mp hw
  have hk : k < 9 := List.mem_range.mp hk
  match k, hk with
  | 0, _ => exact tb_2 51 rfl rfl
  | 1, _ => exact tb_2 53 rfl rfl
  | 2, _ => exact tb_2 55 rfl rfl
  | 3, _ => exact tb_2 57 rfl rfl
  | 4, _ => exact tb_2 59 rfl rfl
  | 5, _ => exact tb_2 61 rfl rfl
  | 6, _ => exact tb_2 63 rfl rfl
  | 7, _ => exact tb_2 65 rfl rfl
  | 8, _ => exact tb_2 67 rfl rfl
  | k + 9, h => exact absurd h (by omega)
def R_S : String := "PointMaps$PointSets"
def F_S : u_T := fun k => match k with
  | _ => ("PointMaps$PointSets", "letters", "LPointMaps$Letters;", true)
def fy_S : Nat → FieldType := fun k => match k with
  | _ => .object "PointMaps$Letters"
theorem n_S : ∀ a, a < 1 → ∀ b, b < 1 → a ≠ b → (F_S a).2.1 ≠ (F_S b).2.1 := by decide +kernel
theorem ty_S : ∀ k, k < 1 → parseFieldDescriptor (F_S k).2.2.1 = some (fy_S k) := by decide +kernel
theorem i_S : ∀ w ∈ u_ws R_S F_S 1, w ∈ lw_big := by
  intro w hw
  obtain ⟨k, hk, rfl⟩ := List.mem_map.mp hw
  have hk : k < 1 := List.mem_range.mp hk
  match k, hk with
  | 0, _ => exact tb_2 0 rfl rfl
  | k + 1, h => exact absurd h (by omega)
def R_O : String := "PointMaps$Powers"
def F_O : u_T := fun k => match k with
  | 0 => ("PointMaps$Powers", "row", "[I", true)
  | 1 => ("PointMaps$Powers", "many", "I", false)
  | _ => ("PointMaps$Powers", "tail", "I", false)
def fy_O : Nat → FieldType := fun k => match k with
  | 0 => .array .int
  | 1 => .int
  | _ => .int
theorem n_O : ∀ a, a < 3 → ∀ b, b < 3 → a ≠ b → (F_O a).2.1 ≠ (F_O b).2.1 := by decide +kernel
theorem ty_O : ∀ k, k < 3 → parseFieldDescriptor (F_O k).2.2.1 = some (fy_O k) := by decide +kernel
theorem i_O : ∀ w ∈ u_ws R_O F_O 3, w ∈ lw_big := by
  intro w hw
  obtain ⟨k, hk, rfl⟩ := List.mem_map.mp hw
  have hk : k < 3 := List.mem_range.mp hk
  match k, hk with
  | 0, _ => exact tb_1 87 rfl rfl
  | 1, _ => exact tb_1 89 rfl rfl
  | 2, _ => exact tb_1 91 rfl rfl
  | k + 3, h => exact absurd h (by omega)
def R_T : String := "PointMaps$Steps"
def F_T : u_T := fun k => match k with
  | 0 => ("PointMaps$Steps", "to", "[I", true)
  | 1 => ("PointMaps$Steps", "tried", "[I", true)
  | 2 => ("PointMaps$Steps", "order", "[I", true)
  | 3 => ("PointMaps$Steps", "low", "[I", true)
  | 4 => ("PointMaps$Steps", "root", "[I", true)
  | 5 => ("PointMaps$Steps", "path", "[I", true)
  | 6 => ("PointMaps$Steps", "waiting", "[I", true)
  | 7 => ("PointMaps$Steps", "onPath", "I", false)
  | 8 => ("PointMaps$Steps", "onWaiting", "I", false)
  | _ => ("PointMaps$Steps", "opened", "I", false)
def fy_T : Nat → FieldType := fun k => match k with
  | 0 => .array .int
  | 1 => .array .int
  | 2 => .array .int
  | 3 => .array .int
  | 4 => .array .int
  | 5 => .array .int
  | 6 => .array .int
  | 7 => .int
  | 8 => .int
  | _ => .int
theorem n_T : ∀ a, a < 10 → ∀ b, b < 10 → a ≠ b → (F_T a).2.1 ≠ (F_T b).2.1 := by decide +kernel
theorem ty_T : ∀ k, k < 10 → parseFieldDescriptor (F_T k).2.2.1 = some (fy_T k) := by decide +kernel
theorem i_T : ∀ w ∈ u_ws R_T F_T 10, w ∈ lw_big := by
  intro w hw
  obtain ⟨k, hk, rfl⟩ := List.mem_map.mp hw
  have hk : k < 10 := List.mem_range.mp hk
  match k, hk with
  | 0, _ => exact tb_1 167 rfl rfl
  | 1, _ => exact tb_1 169 rfl rfl
  | 2, _ => exact tb_1 171 rfl rfl
  | 3, _ => exact tb_1 173 rfl rfl
  | 4, _ => exact tb_1 175 rfl rfl
  | 5, _ => exact tb_1 177 rfl rfl
  | 6, _ => exact tb_1 179 rfl rfl
  | 7, _ => exact tb_1 181 rfl rfl
  | 8, _ => exact tb_1 183 rfl rfl
  | 9, _ => exact tb_1 185 rfl rfl
  | k + 10, h => exact absurd h (by omega)
def R_R : String := "PointMaps$Trail"
def F_R : u_T := fun k => match k with
  | 0 => ("PointMaps$Trail", "earlier", "[I", true)
  | 1 => ("PointMaps$Trail", "lastLetter", "[I", true)
  | _ => ("PointMaps$Trail", "length", "[I", true)
def fy_R : Nat → FieldType := fun k => match k with
  | 0 => .array .int
  | 1 => .array .int
  | _ => .array .int
theorem n_R : ∀ a, a < 3 → ∀ b, b < 3 → a ≠ b → (F_R a).2.1 ≠ (F_R b).2.1 := by decide +kernel
theorem ty_R : ∀ k, k < 3 → parseFieldDescriptor (F_R k).2.2.1 = some (fy_R k) := by decide +kernel
theorem i_R : ∀ w ∈ u_ws R_R F_R 3, w ∈ lw_big := by
  intro w hw
  obtain ⟨k, hk, rfl⟩ := List.mem_map.mp hw
  have hk : k < 3 := List.mem_range.mp hk
  match k, hk with
  | 0, _ => exact tb_1 106 rfl rfl
  | 1, _ => exact tb_1 108 rfl rfl
  | 2, _ => exact tb_1 110 rfl rfl
  | k + 3, h => exact absurd h (by omega)
def R_K : String := "PointMaps$Walks"
def F_K : u_T := fun k => match k with
  | 0 => ("PointMaps$Walks", "letters", "LPointMaps$Letters;", true)
  | 1 => ("PointMaps$Walks", "ofPairs", "Z", true)
  | 2 => ("PointMaps$Walks", "queue", "[I", true)
  | 3 => ("PointMaps$Walks", "words", "LPointMaps$Trail;", true)
  | 4 => ("PointMaps$Walks", "many", "I", false)
  | _ => ("PointMaps$Walks", "met", "J", false)
def fy_K : Nat → FieldType := fun k => match k with
  | 0 => .object "PointMaps$Letters"
  | 1 => .boolean
  | 2 => .array .int
  | 3 => .object "PointMaps$Trail"
  | 4 => .int
  | _ => .long
theorem n_K : ∀ a, a < 6 → ∀ b, b < 6 → a ≠ b → (F_K a).2.1 ≠ (F_K b).2.1 := by decide +kernel
theorem ty_K : ∀ k, k < 6 → parseFieldDescriptor (F_K k).2.2.1 = some (fy_K k) := by decide +kernel
theorem i_K : ∀ w ∈ u_ws R_K F_K 6, w ∈ lw_big := by
  intro w hw
  obtain ⟨k, hk, rfl⟩ := List.mem_map.mp hw
  have hk : k < 6 := List.mem_range.mp hk
  match k, hk with
  | 0, _ => exact tb_2 17 rfl rfl
  | 1, _ => exact tb_2 19 rfl rfl
  | 2, _ => exact tb_2 21 rfl rfl
  | 3, _ => exact tb_2 23 rfl rfl
  | 4, _ => exact tb_2 25 rfl rfl
  | 5, _ => exact tb_2 27 rfl rfl
  | k + 6, h => exact absurd h (by omega)
def R_M : String := "PointMapsModel"
def F_M : u_T := fun k => match k with
  | 0 => ("PointMapsModel", "thrown", "I", false)
  | 1 => ("PointMapsModel", "n", "I", false)
  | 2 => ("PointMapsModel", "letters", "I", false)
  | 3 => ("PointMapsModel", "letter", "[I", true)
  | 4 => ("PointMapsModel", "start", "I", false)
  | 5 => ("PointMapsModel", "ends", "I", false)
  | 6 => ("PointMapsModel", "isLoaded", "Z", false)
  | 7 => ("PointMapsModel", "many", "I", false)
  | 8 => ("PointMapsModel", "map", "[I", true)
  | 9 => ("PointMapsModel", "index", "[I", true)
  | 10 => ("PointMapsModel", "to", "[I", true)
  | 11 => ("PointMapsModel", "ahead", "[I", true)
  | 12 => ("PointMapsModel", "length", "[I", true)
  | 13 => ("PointMapsModel", "parent", "[I", true)
  | 14 => ("PointMapsModel", "last", "[I", true)
  | 15 => ("PointMapsModel", "box", "[I", true)
  | 16 => ("PointMapsModel", "boxes", "[I", true)
  | 17 => ("PointMapsModel", "order", "[I", true)
  | 18 => ("PointMapsModel", "stack", "[I", true)
  | 19 => ("PointMapsModel", "next", "[I", true)
  | 20 => ("PointMapsModel", "num", "[I", true)
  | 21 => ("PointMapsModel", "low", "[I", true)
  | 22 => ("PointMapsModel", "isMet", "[Z", true)
  | 23 => ("PointMapsModel", "queue", "[I", true)
  | 24 => ("PointMapsModel", "from", "[I", true)
  | 25 => ("PointMapsModel", "by", "[I", true)
  | 26 => ("PointMapsModel", "heap", "[I", true)
  | 27 => ("PointMapsModel", "nextHeap", "[I", true)
  | 28 => ("PointMapsModel", "act", "[I", true)
  | 29 => ("PointMapsModel", "ways", "[J", true)
  | _ => ("PointMapsModel", "nextWays", "[J", true)
def fy_M : Nat → FieldType := fun k => match k with
  | 0 => .int
  | 1 => .int
  | 2 => .int
  | 3 => .array .int
  | 4 => .int
  | 5 => .int
  | 6 => .boolean
  | 7 => .int
  | 8 => .array .int
  | 9 => .array .int
  | 10 => .array .int
  | 11 => .array .int
  | 12 => .array .int
  | 13 => .array .int
  | 14 => .array .int
  | 15 => .array .int
  | 16 => .array .int
  | 17 => .array .int
  | 18 => .array .int
  | 19 => .array .int
  | 20 => .array .int
  | 21 => .array .int
  | 22 => .array .boolean
  | 23 => .array .int
  | 24 => .array .int
  | 25 => .array .int
  | 26 => .array .int
  | 27 => .array .int
  | 28 => .array .int
  | 29 => .array .long
  | _ => .array .long
theorem n_M : ∀ a, a < 31 → ∀ b, b < 31 → a ≠ b → (F_M a).2.1 ≠ (F_M b).2.1 := by decide +kernel
theorem ty_M : ∀ k, k < 31 → parseFieldDescriptor (F_M k).2.2.1 = some (fy_M k) := by decide +kernel
theorem i_M : ∀ w ∈ u_ws R_M F_M 31, w ∈ lw_big := by
  intro w hw
  obtain ⟨k, hk, rfl⟩ := List.mem_map.mp hw
  have hk : k < 31 := List.mem_range.mp hk
  match k, hk with
  | 0, _ => exact tb_5 104 rfl rfl
  | 1, _ => exact tb_5 106 rfl rfl
  | 2, _ => exact tb_5 108 rfl rfl
  | 3, _ => exact tb_5 110 rfl rfl
  | 4, _ => exact tb_5 112 rfl rfl
  | 5, _ => exact tb_5 114 rfl rfl
  | 6, _ => exact tb_5 116 rfl rfl
  | 7, _ => exact tb_5 118 rfl rfl
  | 8, _ => exact tb_5 120 rfl rfl
  | 9, _ => exact tb_5 122 rfl rfl
  | 10, _ => exact tb_5 124 rfl rfl
  | 11, _ => exact tb_5 126 rfl rfl
  | 12, _ => exact tb_5 128 rfl rfl
  | 13, _ => exact tb_5 130 rfl rfl
  | 14, _ => exact tb_5 132 rfl rfl
  | 15, _ => exact tb_5 134 rfl rfl
  | 16, _ => exact tb_5 136 rfl rfl
  | 17, _ => exact tb_5 138 rfl rfl
  | 18, _ => exact tb_5 140 rfl rfl
  | 19, _ => exact tb_5 142 rfl rfl
  | 20, _ => exact tb_5 144 rfl rfl
  | 21, _ => exact tb_5 146 rfl rfl
  | 22, _ => exact tb_5 148 rfl rfl
  | 23, _ => exact tb_5 150 rfl rfl
  | 24, _ => exact tb_5 152 rfl rfl
  | 25, _ => exact tb_5 154 rfl rfl
  | 26, _ => exact tb_5 156 rfl rfl
  | 27, _ => exact tb_5 158 rfl rfl
  | 28, _ => exact tb_5 160 rfl rfl
  | 29, _ => exact tb_5 162 rfl rfl
  | 30, _ => exact tb_5 164 rfl rfl
  | k + 31, h => exact absurd h (by omega)
abbrev classes : List vw_C := [(R_P, F_P, 7), (R_B, F_B, 14), (R_E, F_E, 9), (R_F, F_F, 2), (R_L, F_L, 4), (R_A, F_A, 9), (R_S, F_S, 1), (R_O, F_O, 3), (R_T, F_T, 10), (R_R, F_R, 3), (R_K, F_K, 6), (R_M, F_M, 31)]
/-- the cells: 0, 1, 2: an array of ints, booleans, longs, its length; k + 3: an object of class k, its fields: 0 an int, 3 a boolean, 1 a long, 2 a reference and to which cell -/
def kdl : List (Nat × Nat × List (Nat × Nat)) := [
  (3, 0, [(2, 1), (2, 3), (2, 15), (2, 35), (2, 36), (2, 42), (2, 48)]),
  (7, 0, [(2, 2), (0, 0), (0, 0), (0, 0)]),
  (0, 4, []),
  (5, 0, [(2, 1), (2, 4), (2, 5), (2, 6), (2, 9), (2, 11), (0, 0), (3, 0), (0, 0)]),
  (0, 1500, []),
  (0, 6000, []),
  (6, 0, [(2, 7), (2, 8)]),
  (0, 4096, []),
  (0, 4096, []),
  (10, 0, [(2, 10), (0, 0), (0, 0)]),
  (0, 16, []),
  (12, 0, [(2, 12), (2, 13), (2, 14)]),
  (0, 1500, []),
  (0, 1500, []),
  (0, 1500, []),
  (4, 0, [(2, 1), (2, 3), (2, 16), (2, 24), (2, 27), (2, 28), (2, 29), (2, 30), (2, 31), (2, 32), (2, 33), (2, 34), (0, 0), (0, 0)]),
  (11, 0, [(2, 17), (2, 18), (2, 19), (2, 20), (2, 21), (2, 22), (2, 23), (0, 0), (0, 0), (0, 0)]),
  (0, 12000, []),
  (0, 1500, []),
  (0, 1500, []),
  (0, 1500, []),
  (0, 1500, []),
  (0, 1500, []),
  (0, 1500, []),
  (6, 0, [(2, 25), (2, 26)]),
  (0, 4096, []),
  (0, 4096, []),
  (0, 6000, []),
  (0, 6000, []),
  (0, 4, []),
  (0, 1500, []),
  (0, 1500, []),
  (0, 1500, []),
  (0, 1500, []),
  (0, 1500, []),
  (9, 0, [(2, 1)]),
  (13, 0, [(2, 1), (3, 0), (2, 37), (2, 38), (0, 0), (1, 0)]),
  (0, 64, []),
  (12, 0, [(2, 39), (2, 40), (2, 41)]),
  (0, 64, []),
  (0, 64, []),
  (0, 64, []),
  (13, 0, [(2, 1), (3, 0), (2, 43), (2, 44), (0, 0), (1, 0)]),
  (0, 64, []),
  (12, 0, [(2, 45), (2, 46), (2, 47)]),
  (0, 64, []),
  (0, 64, []),
  (0, 64, []),
  (8, 0, [(2, 1), (2, 3), (2, 35), (2, 49), (2, 51), (2, 54), (2, 55), (0, 0), (0, 0)]),
  (10, 0, [(2, 50), (0, 0), (0, 0)]),
  (0, 16, []),
  (6, 0, [(2, 52), (2, 53)]),
  (0, 4096, []),
  (0, 4096, []),
  (0, 6, []),
  (0, 6, []),
  (14, 0, [(0, 0), (0, 0), (0, 0), (2, 57), (0, 0), (0, 0), (3, 0), (0, 0), (2, 58), (2, 59), (2, 60), (2, 61), (2, 62), (2, 63), (2, 64), (2, 65), (2, 66), (2, 67), (2, 68), (2, 69), (2, 70), (2, 71), (2, 72), (2, 73), (2, 74), (2, 75), (2, 76), (2, 77), (2, 78), (2, 79), (2, 80)]),
  (0, 4, []),
  (0, 1500, []),
  (0, 46656, []),
  (0, 6000, []),
  (0, 6000, []),
  (0, 1500, []),
  (0, 1500, []),
  (0, 1500, []),
  (0, 6000, []),
  (0, 4, []),
  (0, 1500, []),
  (0, 1500, []),
  (0, 1500, []),
  (0, 1500, []),
  (0, 1500, []),
  (1, 1500, []),
  (0, 1500, []),
  (0, 64, []),
  (0, 64, []),
  (0, 6, []),
  (0, 6, []),
  (0, 1500, []),
  (2, 6, []),
  (2, 6, [])]
def m_Jm_max : MethodName × ByteArray × Nat × Option FieldType × Nat × Nat := (⟨"java/lang/Math", "max", "(II)I"⟩, prog_17_method_65_code, 2, (some .int), 0, 0)
def m_P_within : MethodName × ByteArray × Nat × Option FieldType × Nat × Nat := (⟨"PointMaps", "within", "(III)Z"⟩, prog_1_method_29_code, 3, (some .boolean), 0, 0)
def m_L_beginWith : MethodName × ByteArray × Nat × Option FieldType × Nat × Nat := (⟨"PointMaps$Letters", "beginWith", "(I)V"⟩, prog_5_method_2_code, 2, none, 0, 0)
def m_A_changeStart : MethodName × ByteArray × Nat × Option FieldType × Nat × Nat := (⟨"PointMaps$Machine", "changeStart", "(I)I"⟩, prog_6_method_2_code, 3, (some .int), 0, 0)
def m_A_changeEnds : MethodName × ByteArray × Nat × Option FieldType × Nat × Nat := (⟨"PointMaps$Machine", "changeEnds", "(I)I"⟩, prog_6_method_3_code, 3, (some .int), 0, 0)
def m_P_points : MethodName × ByteArray × Nat × Option FieldType × Nat × Nat := (⟨"PointMaps", "points", "(I)I"⟩, prog_1_method_2_code, 3, (some .int), 1, 22)
def m_L_mostMaps : MethodName × ByteArray × Nat × Option FieldType × Nat × Nat := (⟨"PointMaps$Letters", "mostMaps", "()I"⟩, prog_5_method_6_code, 3, (some .int), 0, 0)
def m_Jm_floorMod : MethodName × ByteArray × Nat × Option FieldType × Nat × Nat := (⟨"java/lang/Math", "floorMod", "(II)I"⟩, prog_17_method_50_code, 3, (some .int), 0, 0)
def m_G_with : MethodName × ByteArray × Nat × Option FieldType × Nat × Nat := (⟨"PointMaps$Maps", "with", "(III)I"⟩, prog_7_method_3_code, 3, (some .int), 0, 0)
def m_Jm_floorDiv : MethodName × ByteArray × Nat × Option FieldType × Nat × Nat := (⟨"java/lang/Math", "floorDiv", "(II)I"⟩, prog_17_method_47_code, 3, (some .int), 0, 0)
def m_G_ofNumber : MethodName × ByteArray × Nat × Option FieldType × Nat × Nat := (⟨"PointMaps$Maps", "ofNumber", "(II)I"⟩, prog_7_method_9_code, 5, (some .int), 1, 22)
def m_P_put : MethodName × ByteArray × Nat × Option FieldType × Nat × Nat := (⟨"PointMaps", "put", "([III)V"⟩, prog_1_method_32_code, 3, none, 0, 0)
def m_L_add : MethodName × ByteArray × Nat × Option FieldType × Nat × Nat := (⟨"PointMaps$Letters", "add", "(I)I"⟩, prog_5_method_3_code, 2, (some .int), 1, 22)
def m_P_letter : MethodName × ByteArray × Nat × Option FieldType × Nat × Nat := (⟨"PointMaps", "letter", "(I)I"⟩, prog_1_method_3_code, 2, (some .int), 2, 46)
def m_L_removeLast : MethodName × ByteArray × Nat × Option FieldType × Nat × Nat := (⟨"PointMaps$Letters", "removeLast", "()I"⟩, prog_5_method_4_code, 1, (some .int), 0, 0)
def m_P_drop : MethodName × ByteArray × Nat × Option FieldType × Nat × Nat := (⟨"PointMaps", "drop", "()I"⟩, prog_1_method_4_code, 1, (some .int), 1, 20)
def m_Ja_fill : MethodName × ByteArray × Nat × Option FieldType × Nat × Nat := (⟨"java/util/Arrays", "fill", "([II)V"⟩, prog_19_method_103_code, 4, none, 0, 0)
def m_F_clear : MethodName × ByteArray × Nat × Option FieldType × Nat × Nat := (⟨"PointMaps$Finder", "clear", "()V"⟩, prog_4_method_2_code, 1, none, 1, 23)
def m_R_begin : MethodName × ByteArray × Nat × Option FieldType × Nat × Nat := (⟨"PointMaps$Trail", "begin", "(I)V"⟩, prog_11_method_2_code, 2, none, 1, 22)
def m_G_nothing : MethodName × ByteArray × Nat × Option FieldType × Nat × Nat := (⟨"PointMaps$Maps", "nothing", "(I)I"⟩, prog_7_method_4_code, 3, (some .int), 1, 22)
def m_P_at : MethodName × ByteArray × Nat × Option FieldType × Nat × Nat := (⟨"PointMaps", "at", "([II)I"⟩, prog_1_method_31_code, 2, (some .int), 0, 0)
def m_F_slotOf : MethodName × ByteArray × Nat × Option FieldType × Nat × Nat := (⟨"PointMaps$Finder", "slotOf", "(I)I"⟩, prog_4_method_5_code, 5, (some .int), 1, 21)
def m_F_keep : MethodName × ByteArray × Nat × Option FieldType × Nat × Nat := (⟨"PointMaps$Finder", "keep", "(II)V"⟩, prog_4_method_4_code, 4, none, 2, 45)
def m_E_meet : MethodName × ByteArray × Nat × Option FieldType × Nat × Nat := (⟨"PointMaps$Elements", "meet", "(I)V"⟩, prog_3_method_4_code, 2, none, 3, 68)
def m_E_map : MethodName × ByteArray × Nat × Option FieldType × Nat × Nat := (⟨"PointMaps$Elements", "map", "(I)I"⟩, prog_3_method_6_code, 2, (some .int), 1, 21)
def m_L_map : MethodName × ByteArray × Nat × Option FieldType × Nat × Nat := (⟨"PointMaps$Letters", "map", "(I)I"⟩, prog_5_method_5_code, 2, (some .int), 1, 21)
def m_G_goesTo : MethodName × ByteArray × Nat × Option FieldType × Nat × Nat := (⟨"PointMaps$Maps", "goesTo", "(II)I"⟩, prog_7_method_2_code, 2, (some .int), 0, 0)
def m_G_ahead : MethodName × ByteArray × Nat × Option FieldType × Nat × Nat := (⟨"PointMaps$Maps", "ahead", "(III)I"⟩, prog_7_method_5_code, 5, (some .int), 1, 21)
def m_F_look : MethodName × ByteArray × Nat × Option FieldType × Nat × Nat := (⟨"PointMaps$Finder", "look", "(I)I"⟩, prog_4_method_3_code, 3, (some .int), 2, 45)
def m_R_grow : MethodName × ByteArray × Nat × Option FieldType × Nat × Nat := (⟨"PointMaps$Trail", "grow", "(III)V"⟩, prog_11_method_3_code, 4, none, 1, 22)
def m_E_step : MethodName × ByteArray × Nat × Option FieldType × Nat × Nat := (⟨"PointMaps$Elements", "step", "(II)V"⟩, prog_3_method_3_code, 5, none, 4, 89)
def m_E_ready : MethodName × ByteArray × Nat × Option FieldType × Nat × Nat := (⟨"PointMaps$Elements", "ready", "()Z"⟩, prog_3_method_2_code, 3, (some .boolean), 5, 113)
def m_G_isStill : MethodName × ByteArray × Nat × Option FieldType × Nat × Nat := (⟨"PointMaps$Maps", "isStill", "(II)Z"⟩, prog_7_method_7_code, 2, (some .boolean), 2, 45)
def m_E_isStill : MethodName × ByteArray × Nat × Option FieldType × Nat × Nat := (⟨"PointMaps$Elements", "isStill", "(I)Z"⟩, prog_3_method_11_code, 2, (some .boolean), 3, 66)
def m_P_oneIf : MethodName × ByteArray × Nat × Option FieldType × Nat × Nat := (⟨"PointMaps", "oneIf", "(Z)I"⟩, prog_1_method_30_code, 1, (some .int), 0, 0)
def m_E_stillOnes : MethodName × ByteArray × Nat × Option FieldType × Nat × Nat := (⟨"PointMaps$Elements", "stillOnes", "()I"⟩, prog_3_method_14_code, 3, (some .int), 4, 87)
def m_G_commute : MethodName × ByteArray × Nat × Option FieldType × Nat × Nat := (⟨"PointMaps$Maps", "commute", "(III)Z"⟩, prog_7_method_6_code, 3, (some .boolean), 2, 45)
def m_L_allCommuteWith : MethodName × ByteArray × Nat × Option FieldType × Nat × Nat := (⟨"PointMaps$Letters", "allCommuteWith", "(I)Z"⟩, prog_5_method_9_code, 3, (some .boolean), 3, 67)
def m_E_central : MethodName × ByteArray × Nat × Option FieldType × Nat × Nat := (⟨"PointMaps$Elements", "central", "()I"⟩, prog_3_method_15_code, 3, (some .int), 4, 89)
def m_O_placeOf : MethodName × ByteArray × Nat × Option FieldType × Nat × Nat := (⟨"PointMaps$Powers", "placeOf", "(I)I"⟩, prog_9_method_3_code, 3, (some .int), 1, 21)
def m_O_listOf : MethodName × ByteArray × Nat × Option FieldType × Nat × Nat := (⟨"PointMaps$Powers", "listOf", "(II)V"⟩, prog_9_method_2_code, 6, none, 2, 45)
def m_O_ring : MethodName × ByteArray × Nat × Option FieldType × Nat × Nat := (⟨"PointMaps$Powers", "ring", "()I"⟩, prog_9_method_5_code, 1, (some .int), 0, 0)
def m_E_greatestRing : MethodName × ByteArray × Nat × Option FieldType × Nat × Nat := (⟨"PointMaps$Elements", "greatestRing", "()I"⟩, prog_3_method_16_code, 3, (some .int), 3, 70)
def m_P_elements : MethodName × ByteArray × Nat × Option FieldType × Nat × Nat := (⟨"PointMaps", "elements", "(I)I"⟩, prog_1_method_5_code, 2, (some .int), 6, 135)
def m_E_has : MethodName × ByteArray × Nat × Option FieldType × Nat × Nat := (⟨"PointMaps$Elements", "has", "(I)Z"⟩, prog_3_method_5_code, 2, (some .boolean), 1, 22)
def m_G_toNumber : MethodName × ByteArray × Nat × Option FieldType × Nat × Nat := (⟨"PointMaps$Maps", "toNumber", "(II)I"⟩, prog_7_method_8_code, 4, (some .int), 1, 21)
def m_G_ofSet : MethodName × ByteArray × Nat × Option FieldType × Nat × Nat := (⟨"PointMaps$Maps", "ofSet", "(II)I"⟩, prog_7_method_10_code, 4, (some .int), 1, 21)
def m_Ji_bitCount : MethodName × ByteArray × Nat × Option FieldType × Nat × Nat := (⟨"java/lang/Integer", "bitCount", "(I)I"⟩, prog_15_method_49_code, 1, (some .int), 0, 0)
def m_G_rank : MethodName × ByteArray × Nat × Option FieldType × Nat × Nat := (⟨"PointMaps$Maps", "rank", "(II)I"⟩, prog_7_method_13_code, 2, (some .int), 2, 44)
def m_E_rank : MethodName × ByteArray × Nat × Option FieldType × Nat × Nat := (⟨"PointMaps$Elements", "rank", "(I)I"⟩, prog_3_method_13_code, 2, (some .int), 3, 65)
def m_G_kernel : MethodName × ByteArray × Nat × Option FieldType × Nat × Nat := (⟨"PointMaps$Maps", "kernel", "(II)I"⟩, prog_7_method_14_code, 5, (some .int), 1, 22)
def m_R_lengthOf : MethodName × ByteArray × Nat × Option FieldType × Nat × Nat := (⟨"PointMaps$Trail", "lengthOf", "(I)I"⟩, prog_11_method_4_code, 2, (some .int), 1, 21)
def m_O_tail : MethodName × ByteArray × Nat × Option FieldType × Nat × Nat := (⟨"PointMaps$Powers", "tail", "()I"⟩, prog_9_method_4_code, 1, (some .int), 0, 0)
def m_O_stillOne : MethodName × ByteArray × Nat × Option FieldType × Nat × Nat := (⟨"PointMaps$Powers", "stillOne", "(I)I"⟩, prog_9_method_6_code, 3, (some .int), 3, 66)
def m_E_numberOf : MethodName × ByteArray × Nat × Option FieldType × Nat × Nat := (⟨"PointMaps$Elements", "numberOf", "(I)I"⟩, prog_3_method_7_code, 2, (some .int), 3, 67)
def m_E_tell : MethodName × ByteArray × Nat × Option FieldType × Nat × Nat := (⟨"PointMaps$Elements", "tell", "(II)I"⟩, prog_3_method_12_code, 3, (some .int), 4, 88)
def m_P_element : MethodName × ByteArray × Nat × Option FieldType × Nat × Nat := (⟨"PointMaps", "element", "(II)I"⟩, prog_1_method_6_code, 3, (some .int), 6, 135)
def m_R_letterAt : MethodName × ByteArray × Nat × Option FieldType × Nat × Nat := (⟨"PointMaps$Trail", "letterAt", "(II)I"⟩, prog_11_method_5_code, 6, (some .int), 2, 42)
def m_P_word : MethodName × ByteArray × Nat × Option FieldType × Nat × Nat := (⟨"PointMaps", "word", "(II)I"⟩, prog_1_method_7_code, 3, (some .int), 6, 135)
def m_P_find : MethodName × ByteArray × Nat × Option FieldType × Nat × Nat := (⟨"PointMaps", "find", "(I)I"⟩, prog_1_method_8_code, 2, (some .int), 6, 135)
def m_E_product : MethodName × ByteArray × Nat × Option FieldType × Nat × Nat := (⟨"PointMaps$Elements", "product", "(II)I"⟩, prog_3_method_10_code, 3, (some .int), 2, 45)
def m_P_done : MethodName × ByteArray × Nat × Option FieldType × Nat × Nat := (⟨"PointMaps", "done", "(II)I"⟩, prog_1_method_9_code, 3, (some .int), 6, 135)
def m_E_withLetterBehind : MethodName × ByteArray × Nat × Option FieldType × Nat × Nat := (⟨"PointMaps$Elements", "withLetterBehind", "(II)I"⟩, prog_3_method_8_code, 3, (some .int), 1, 21)
def m_T_lead : MethodName × ByteArray × Nat × Option FieldType × Nat × Nat := (⟨"PointMaps$Steps", "lead", "(III)V"⟩, prog_10_method_2_code, 4, none, 1, 22)
def m_E_withLetterAhead : MethodName × ByteArray × Nat × Option FieldType × Nat × Nat := (⟨"PointMaps$Elements", "withLetterAhead", "(II)I"⟩, prog_3_method_9_code, 3, (some .int), 3, 67)
def m_B_drawSteps : MethodName × ByteArray × Nat × Option FieldType × Nat × Nat := (⟨"PointMaps$Boxes", "drawSteps", "()V"⟩, prog_2_method_3_code, 3, none, 4, 89)
def m_T_open : MethodName × ByteArray × Nat × Option FieldType × Nat × Nat := (⟨"PointMaps$Steps", "open", "(II)V"⟩, prog_10_method_7_code, 3, none, 1, 22)
def m_T_from : MethodName × ByteArray × Nat × Option FieldType × Nat × Nat := (⟨"PointMaps$Steps", "from", "(II)I"⟩, prog_10_method_3_code, 3, (some .int), 1, 21)
def m_Jm_min : MethodName × ByteArray × Nat × Option FieldType × Nat × Nat := (⟨"java/lang/Math", "min", "(II)I"⟩, prog_17_method_69_code, 2, (some .int), 0, 0)
def m_T_lower : MethodName × ByteArray × Nat × Option FieldType × Nat × Nat := (⟨"PointMaps$Steps", "lower", "(II)V"⟩, prog_10_method_11_code, 3, none, 1, 22)
def m_T_tryWay : MethodName × ByteArray × Nat × Option FieldType × Nat × Nat := (⟨"PointMaps$Steps", "tryWay", "(III)V"⟩, prog_10_method_8_code, 4, none, 2, 44)
def m_T_takeWaiting : MethodName × ByteArray × Nat × Option FieldType × Nat × Nat := (⟨"PointMaps$Steps", "takeWaiting", "(I)V"⟩, prog_10_method_10_code, 2, none, 1, 22)
def m_T_close : MethodName × ByteArray × Nat × Option FieldType × Nat × Nat := (⟨"PointMaps$Steps", "close", "(I)V"⟩, prog_10_method_9_code, 2, none, 2, 44)
def m_T_followFrom : MethodName × ByteArray × Nat × Option FieldType × Nat × Nat := (⟨"PointMaps$Steps", "followFrom", "(III)V"⟩, prog_10_method_6_code, 7, none, 3, 67)
def m_T_findRoots : MethodName × ByteArray × Nat × Option FieldType × Nat × Nat := (⟨"PointMaps$Steps", "findRoots", "(III)V"⟩, prog_10_method_4_code, 5, none, 4, 93)
def m_B_beginNumbers : MethodName × ByteArray × Nat × Option FieldType × Nat × Nat := (⟨"PointMaps$Boxes", "beginNumbers", "(I)V"⟩, prog_2_method_6_code, 2, none, 2, 43)
def m_T_rootOf : MethodName × ByteArray × Nat × Option FieldType × Nat × Nat := (⟨"PointMaps$Steps", "rootOf", "(I)I"⟩, prog_10_method_5_code, 2, (some .int), 1, 21)
def m_B_howMany : MethodName × ByteArray × Nat × Option FieldType × Nat × Nat := (⟨"PointMaps$Boxes", "howMany", "(I)I"⟩, prog_2_method_11_code, 2, (some .int), 1, 21)
def m_B_giveNumber : MethodName × ByteArray × Nat × Option FieldType × Nat × Nat := (⟨"PointMaps$Boxes", "giveNumber", "(III)V"⟩, prog_2_method_7_code, 5, none, 3, 68)
def m_B_numberByRoots : MethodName × ByteArray × Nat × Option FieldType × Nat × Nat := (⟨"PointMaps$Boxes", "numberByRoots", "(III)V"⟩, prog_2_method_4_code, 5, none, 5, 117)
def m_B_numberOf : MethodName × ByteArray × Nat × Option FieldType × Nat × Nat := (⟨"PointMaps$Boxes", "numberOf", "(II)I"⟩, prog_2_method_12_code, 3, (some .int), 1, 21)
def m_B_numberCells : MethodName × ByteArray × Nat × Option FieldType × Nat × Nat := (⟨"PointMaps$Boxes", "numberCells", "()V"⟩, prog_2_method_5_code, 2, none, 4, 92)
def m_B_stepsOut : MethodName × ByteArray × Nat × Option FieldType × Nat × Nat := (⟨"PointMaps$Boxes", "stepsOut", "(I)Z"⟩, prog_2_method_9_code, 3, (some .boolean), 2, 43)
def m_B_sumUp : MethodName × ByteArray × Nat × Option FieldType × Nat × Nat := (⟨"PointMaps$Boxes", "sumUp", "()V"⟩, prog_2_method_8_code, 3, none, 4, 87)
def m_B_ready : MethodName × ByteArray × Nat × Option FieldType × Nat × Nat := (⟨"PointMaps$Boxes", "ready", "()Z"⟩, prog_2_method_2_code, 1, (some .boolean), 6, 141)
def m_B_regular : MethodName × ByteArray × Nat × Option FieldType × Nat × Nat := (⟨"PointMaps$Boxes", "regular", "()I"⟩, prog_2_method_15_code, 3, (some .int), 2, 42)
def m_B_leastBox : MethodName × ByteArray × Nat × Option FieldType × Nat × Nat := (⟨"PointMaps$Boxes", "leastBox", "()I"⟩, prog_2_method_16_code, 2, (some .int), 2, 42)
def m_B_size : MethodName × ByteArray × Nat × Option FieldType × Nat × Nat := (⟨"PointMaps$Boxes", "size", "(I)I"⟩, prog_2_method_14_code, 2, (some .int), 1, 21)
def m_P_boxes : MethodName × ByteArray × Nat × Option FieldType × Nat × Nat := (⟨"PointMaps", "boxes", "(I)I"⟩, prog_1_method_10_code, 2, (some .int), 7, 161)
def m_P_box : MethodName × ByteArray × Nat × Option FieldType × Nat × Nat := (⟨"PointMaps", "box", "(II)I"⟩, prog_1_method_11_code, 3, (some .int), 7, 161)
def m_B_has : MethodName × ByteArray × Nat × Option FieldType × Nat × Nat := (⟨"PointMaps$Boxes", "has", "(I)Z"⟩, prog_2_method_10_code, 2, (some .boolean), 2, 42)
def m_B_leastOf : MethodName × ByteArray × Nat × Option FieldType × Nat × Nat := (⟨"PointMaps$Boxes", "leastOf", "(II)I"⟩, prog_2_method_13_code, 3, (some .int), 1, 21)
def m_B_howManyIn : MethodName × ByteArray × Nat × Option FieldType × Nat × Nat := (⟨"PointMaps$Boxes", "howManyIn", "(II)I"⟩, prog_2_method_18_code, 5, (some .int), 2, 43)
def m_B_tell : MethodName × ByteArray × Nat × Option FieldType × Nat × Nat := (⟨"PointMaps$Boxes", "tell", "(II)I"⟩, prog_2_method_17_code, 3, (some .int), 4, 86)
def m_P_about : MethodName × ByteArray × Nat × Option FieldType × Nat × Nat := (⟨"PointMaps", "about", "(II)I"⟩, prog_1_method_12_code, 3, (some .int), 7, 161)
def m_B_meet : MethodName × ByteArray × Nat × Option FieldType × Nat × Nat := (⟨"PointMaps$Boxes", "meet", "(I)V"⟩, prog_2_method_21_code, 2, none, 1, 22)
def m_B_reach : MethodName × ByteArray × Nat × Option FieldType × Nat × Nat := (⟨"PointMaps$Boxes", "reach", "(I)I"⟩, prog_2_method_20_code, 4, (some .int), 2, 43)
def m_B_isBelow : MethodName × ByteArray × Nat × Option FieldType × Nat × Nat := (⟨"PointMaps$Boxes", "isBelow", "(II)Z"⟩, prog_2_method_19_code, 3, (some .boolean), 3, 66)
def m_P_below : MethodName × ByteArray × Nat × Option FieldType × Nat × Nat := (⟨"PointMaps", "below", "(II)I"⟩, prog_1_method_13_code, 3, (some .int), 7, 161)
def m_P_ideal : MethodName × ByteArray × Nat × Option FieldType × Nat × Nat := (⟨"PointMaps", "ideal", "(I)I"⟩, prog_1_method_14_code, 2, (some .int), 7, 161)
def m_E_commutesWithEarlierStillOnes : MethodName × ByteArray × Nat × Option FieldType × Nat × Nat := (⟨"PointMaps$Elements", "commutesWithEarlierStillOnes", "(I)Z"⟩, prog_3_method_18_code, 3, (some .boolean), 4, 87)
def m_E_stillOnesCommute : MethodName × ByteArray × Nat × Option FieldType × Nat × Nat := (⟨"PointMaps$Elements", "stillOnesCommute", "()Z"⟩, prog_3_method_17_code, 2, (some .boolean), 5, 109)
def m_P_sort : MethodName × ByteArray × Nat × Option FieldType × Nat × Nat := (⟨"PointMaps", "sort", "(I)I"⟩, prog_1_method_15_code, 2, (some .int), 7, 161)
def m_E_solves : MethodName × ByteArray × Nat × Option FieldType × Nat × Nat := (⟨"PointMaps$Elements", "solves", "(IIIZ)Z"⟩, prog_3_method_19_code, 5, (some .boolean), 3, 67)
def m_E_solutions : MethodName × ByteArray × Nat × Option FieldType × Nat × Nat := (⟨"PointMaps$Elements", "solutions", "(IIZ)I"⟩, prog_3_method_20_code, 6, (some .int), 4, 91)
def m_E_leastSolution : MethodName × ByteArray × Nat × Option FieldType × Nat × Nat := (⟨"PointMaps$Elements", "leastSolution", "(IIZ)I"⟩, prog_3_method_21_code, 5, (some .int), 4, 91)
def m_P_solve : MethodName × ByteArray × Nat × Option FieldType × Nat × Nat := (⟨"PointMaps", "solve", "(IIII)I"⟩, prog_1_method_16_code, 5, (some .int), 6, 135)
def m_L_wholeSet : MethodName × ByteArray × Nat × Option FieldType × Nat × Nat := (⟨"PointMaps$Letters", "wholeSet", "()I"⟩, prog_5_method_7_code, 1, (some .int), 0, 0)
def m_K_meet : MethodName × ByteArray × Nat × Option FieldType × Nat × Nat := (⟨"PointMaps$Walks", "meet", "(I)V"⟩, prog_12_method_4_code, 2, none, 1, 22)
def m_G_pair : MethodName × ByteArray × Nat × Option FieldType × Nat × Nat := (⟨"PointMaps$Maps", "pair", "(II)I"⟩, prog_7_method_11_code, 2, (some .int), 0, 0)
def m_G_ofPair : MethodName × ByteArray × Nat × Option FieldType × Nat × Nat := (⟨"PointMaps$Maps", "ofPair", "(II)I"⟩, prog_7_method_12_code, 2, (some .int), 1, 21)
def m_K_step : MethodName × ByteArray × Nat × Option FieldType × Nat × Nat := (⟨"PointMaps$Walks", "step", "(II)V"⟩, prog_12_method_3_code, 5, none, 2, 45)
def m_K_walkFrom : MethodName × ByteArray × Nat × Option FieldType × Nat × Nat := (⟨"PointMaps$Walks", "walkFrom", "(I)V"⟩, prog_12_method_2_code, 4, none, 3, 69)
def m_S_singles : MethodName × ByteArray × Nat × Option FieldType × Nat × Nat := (⟨"PointMaps$PointSets", "singles", "()J"⟩, prog_8_method_2_code, 4, (some .long), 0, 0)
def m_K_firstMetOf : MethodName × ByteArray × Nat × Option FieldType × Nat × Nat := (⟨"PointMaps$Walks", "firstMetOf", "(J)I"⟩, prog_12_method_6_code, 4, (some .int), 1, 21)
def m_K_wordTo : MethodName × ByteArray × Nat × Option FieldType × Nat × Nat := (⟨"PointMaps$Walks", "wordTo", "(JI)I"⟩, prog_12_method_5_code, 5, (some .int), 3, 67)
def m_P_together : MethodName × ByteArray × Nat × Option FieldType × Nat × Nat := (⟨"PointMaps", "together", "(II)I"⟩, prog_1_method_17_code, 3, (some .int), 4, 92)
def m_K_fewestBits : MethodName × ByteArray × Nat × Option FieldType × Nat × Nat := (⟨"PointMaps$Walks", "fewestBits", "()I"⟩, prog_12_method_7_code, 3, (some .int), 1, 21)
def m_P_lowest : MethodName × ByteArray × Nat × Option FieldType × Nat × Nat := (⟨"PointMaps", "lowest", "(I)I"⟩, prog_1_method_18_code, 2, (some .int), 4, 92)
def m_S_someLetterLeads : MethodName × ByteArray × Nat × Option FieldType × Nat × Nat := (⟨"PointMaps$PointSets", "someLetterLeads", "(IJ)Z"⟩, prog_8_method_5_code, 5, (some .boolean), 2, 42)
def m_S_withOneLetterAhead : MethodName × ByteArray × Nat × Option FieldType × Nat × Nat := (⟨"PointMaps$PointSets", "withOneLetterAhead", "(J)J"⟩, prog_8_method_4_code, 7, (some .long), 3, 66)
def m_S_leadingTo : MethodName × ByteArray × Nat × Option FieldType × Nat × Nat := (⟨"PointMaps$PointSets", "leadingTo", "(J)J"⟩, prog_8_method_3_code, 8, (some .long), 4, 92)
def m_Jl_bitCount : MethodName × ByteArray × Nat × Option FieldType × Nat × Nat := (⟨"java/lang/Long", "bitCount", "(J)I"⟩, prog_16_method_50_code, 2, (some .int), 0, 0)
def m_S_apartPairs : MethodName × ByteArray × Nat × Option FieldType × Nat × Nat := (⟨"PointMaps$PointSets", "apartPairs", "()I"⟩, prog_8_method_6_code, 4, (some .int), 5, 119)
def m_P_apart : MethodName × ByteArray × Nat × Option FieldType × Nat × Nat := (⟨"PointMaps", "apart", "()I"⟩, prog_1_method_19_code, 1, (some .int), 6, 142)
def m_L_hasPoint : MethodName × ByteArray × Nat × Option FieldType × Nat × Nat := (⟨"PointMaps$Letters", "hasPoint", "(I)Z"⟩, prog_5_method_8_code, 2, (some .boolean), 1, 22)
def m_S_joined : MethodName × ByteArray × Nat × Option FieldType × Nat × Nat := (⟨"PointMaps$PointSets", "joined", "(III)I"⟩, prog_8_method_9_code, 8, (some .int), 1, 22)
def m_S_joinedByLetters : MethodName × ByteArray × Nat × Option FieldType × Nat × Nat := (⟨"PointMaps$PointSets", "joinedByLetters", "(I)I"⟩, prog_8_method_8_code, 6, (some .int), 2, 49)
def m_S_leastCut : MethodName × ByteArray × Nat × Option FieldType × Nat × Nat := (⟨"PointMaps$PointSets", "leastCut", "(II)I"⟩, prog_8_method_7_code, 5, (some .int), 3, 74)
def m_P_cut : MethodName × ByteArray × Nat × Option FieldType × Nat × Nat := (⟨"PointMaps", "cut", "(II)I"⟩, prog_1_method_20_code, 3, (some .int), 4, 98)
def m_S_choices : MethodName × ByteArray × Nat × Option FieldType × Nat × Nat := (⟨"PointMaps$PointSets", "choices", "()I"⟩, prog_8_method_13_code, 3, (some .int), 0, 0)
def m_S_chosenHeaps : MethodName × ByteArray × Nat × Option FieldType × Nat × Nat := (⟨"PointMaps$PointSets", "chosenHeaps", "(I)I"⟩, prog_8_method_14_code, 5, (some .int), 1, 22)
def m_S_lettersKeep : MethodName × ByteArray × Nat × Option FieldType × Nat × Nat := (⟨"PointMaps$PointSets", "lettersKeep", "(I)Z"⟩, prog_8_method_11_code, 4, (some .boolean), 2, 45)
def m_S_allCuts : MethodName × ByteArray × Nat × Option FieldType × Nat × Nat := (⟨"PointMaps$PointSets", "allCuts", "()I"⟩, prog_8_method_10_code, 5, (some .int), 3, 68)
def m_P_cuts : MethodName × ByteArray × Nat × Option FieldType × Nat × Nat := (⟨"PointMaps", "cuts", "()I"⟩, prog_1_method_21_code, 1, (some .int), 4, 92)
def m_S_chosenTwist : MethodName × ByteArray × Nat × Option FieldType × Nat × Nat := (⟨"PointMaps$PointSets", "chosenTwist", "(I)I"⟩, prog_8_method_15_code, 6, (some .int), 1, 22)
def m_S_allTwists : MethodName × ByteArray × Nat × Option FieldType × Nat × Nat := (⟨"PointMaps$PointSets", "allTwists", "()I"⟩, prog_8_method_12_code, 4, (some .int), 4, 89)
def m_P_twists : MethodName × ByteArray × Nat × Option FieldType × Nat × Nat := (⟨"PointMaps", "twists", "()I"⟩, prog_1_method_22_code, 1, (some .int), 5, 112)
def m_P_set : MethodName × ByteArray × Nat × Option FieldType × Nat × Nat := (⟨"PointMaps", "set", "(II)I"⟩, prog_1_method_23_code, 3, (some .int), 1, 22)
def m_A_goByOneLetter : MethodName × ByteArray × Nat × Option FieldType × Nat × Nat := (⟨"PointMaps$Machine", "goByOneLetter", "()V"⟩, prog_6_method_6_code, 4, none, 2, 42)
def m_A_isEnd : MethodName × ByteArray × Nat × Option FieldType × Nat × Nat := (⟨"PointMaps$Machine", "isEnd", "(I)Z"⟩, prog_6_method_4_code, 2, (some .boolean), 0, 0)
def m_A_takenWords : MethodName × ByteArray × Nat × Option FieldType × Nat × Nat := (⟨"PointMaps$Machine", "takenWords", "(I)I"⟩, prog_6_method_5_code, 4, (some .int), 3, 65)
def m_P_taken : MethodName × ByteArray × Nat × Option FieldType × Nat × Nat := (⟨"PointMaps", "taken", "(I)I"⟩, prog_1_method_24_code, 2, (some .int), 4, 88)
def m_A_statesFromStart : MethodName × ByteArray × Nat × Option FieldType × Nat × Nat := (⟨"PointMaps$Machine", "statesFromStart", "()I"⟩, prog_6_method_8_code, 4, (some .int), 2, 44)
def m_A_unlikeEnds : MethodName × ByteArray × Nat × Option FieldType × Nat × Nat := (⟨"PointMaps$Machine", "unlikeEnds", "()J"⟩, prog_6_method_7_code, 5, (some .long), 1, 21)
def m_A_isAlike : MethodName × ByteArray × Nat × Option FieldType × Nat × Nat := (⟨"PointMaps$Machine", "isAlike", "(IIIJ)Z"⟩, prog_6_method_12_code, 6, (some .boolean), 1, 21)
def m_A_heapOf : MethodName × ByteArray × Nat × Option FieldType × Nat × Nat := (⟨"PointMaps$Machine", "heapOf", "(IIJ)I"⟩, prog_6_method_11_code, 6, (some .int), 2, 46)
def m_A_leastMachine : MethodName × ByteArray × Nat × Option FieldType × Nat × Nat := (⟨"PointMaps$Machine", "leastMachine", "()I"⟩, prog_6_method_10_code, 6, (some .int), 5, 119)
def m_A_heaps : MethodName × ByteArray × Nat × Option FieldType × Nat × Nat := (⟨"PointMaps$Machine", "heaps", "()I"⟩, prog_6_method_9_code, 4, (some .int), 6, 144)
def m_P_least : MethodName × ByteArray × Nat × Option FieldType × Nat × Nat := (⟨"PointMaps", "least", "()I"⟩, prog_1_method_25_code, 1, (some .int), 7, 167)
def m_P_parting : MethodName × ByteArray × Nat × Option FieldType × Nat × Nat := (⟨"PointMaps", "parting", "(III)I"⟩, prog_1_method_26_code, 4, (some .int), 4, 92)
def m_A_meaning : MethodName × ByteArray × Nat × Option FieldType × Nat × Nat := (⟨"PointMaps$Machine", "meaning", "(II)I"⟩, prog_6_method_13_code, 5, (some .int), 2, 44)
def m_A_isNew : MethodName × ByteArray × Nat × Option FieldType × Nat × Nat := (⟨"PointMaps$Machine", "isNew", "(I)Z"⟩, prog_6_method_15_code, 2, (some .boolean), 3, 68)
def m_A_countMeanings : MethodName × ByteArray × Nat × Option FieldType × Nat × Nat := (⟨"PointMaps$Machine", "countMeanings", "()I"⟩, prog_6_method_14_code, 4, (some .int), 6, 144)
def m_A_isStarless : MethodName × ByteArray × Nat × Option FieldType × Nat × Nat := (⟨"PointMaps$Machine", "isStarless", "()Z"⟩, prog_6_method_16_code, 3, (some .boolean), 6, 144)
def m_P_meanings : MethodName × ByteArray × Nat × Option FieldType × Nat × Nat := (⟨"PointMaps", "meanings", "(I)I"⟩, prog_1_method_27_code, 2, (some .int), 7, 167)
def m_P_count : MethodName × ByteArray × Nat × Option FieldType × Nat × Nat := (⟨"PointMaps", "count", "(I)I"⟩, prog_1_method_28_code, 2, (some .int), 0, 0)
def m_M_in : MethodName × ByteArray × Nat × Option FieldType × Nat × Nat := (⟨"PointMapsModel", "in", "(III)Z"⟩, prog_14_method_3_code, 3, (some .boolean), 0, 0)
def m_M_points : MethodName × ByteArray × Nat × Option FieldType × Nat × Nat := (⟨"PointMapsModel", "points", "(I)I"⟩, prog_14_method_7_code, 3, (some .int), 1, 22)
def m_M_power : MethodName × ByteArray × Nat × Option FieldType × Nat × Nat := (⟨"PointMapsModel", "power", "(I)I"⟩, prog_14_method_4_code, 4, (some .int), 0, 0)
def m_M_letter : MethodName × ByteArray × Nat × Option FieldType × Nat × Nat := (⟨"PointMapsModel", "letter", "(I)I"⟩, prog_14_method_8_code, 2, (some .int), 1, 23)
def m_M_drop : MethodName × ByteArray × Nat × Option FieldType × Nat × Nat := (⟨"PointMapsModel", "drop", "()I"⟩, prog_14_method_9_code, 1, (some .int), 0, 0)
def m_M_nothing : MethodName × ByteArray × Nat × Option FieldType × Nat × Nat := (⟨"PointMapsModel", "nothing", "()I"⟩, prog_14_method_10_code, 3, (some .int), 0, 0)
def m_M_goes : MethodName × ByteArray × Nat × Option FieldType × Nat × Nat := (⟨"PointMapsModel", "goes", "(II)I"⟩, prog_14_method_5_code, 3, (some .int), 1, 23)
def m_M_both : MethodName × ByteArray × Nat × Option FieldType × Nat × Nat := (⟨"PointMapsModel", "both", "(II)I"⟩, prog_14_method_6_code, 5, (some .int), 2, 45)
def m_M_step : MethodName × ByteArray × Nat × Option FieldType × Nat × Nat := (⟨"PointMapsModel", "step", "(III)I"⟩, prog_14_method_12_code, 4, (some .int), 0, 0)
def m_M_heaps : MethodName × ByteArray × Nat × Option FieldType × Nat × Nat := (⟨"PointMapsModel", "heaps", "(I)V"⟩, prog_14_method_13_code, 9, none, 1, 23)
def m_M_cells : MethodName × ByteArray × Nat × Option FieldType × Nat × Nat := (⟨"PointMapsModel", "cells", "()V"⟩, prog_14_method_14_code, 3, none, 0, 0)
def m_M_loads : MethodName × ByteArray × Nat × Option FieldType × Nat × Nat := (⟨"PointMapsModel", "loads", "()Z"⟩, prog_14_method_11_code, 4, (some .boolean), 3, 69)
def m_M_isAgain : MethodName × ByteArray × Nat × Option FieldType × Nat × Nat := (⟨"PointMapsModel", "isAgain", "(III)Z"⟩, prog_14_method_18_code, 6, (some .boolean), 3, 69)
def m_M_powers : MethodName × ByteArray × Nat × Option FieldType × Nat × Nat := (⟨"PointMapsModel", "powers", "(II)I"⟩, prog_14_method_17_code, 6, (some .int), 4, 94)
def m_M_isStill : MethodName × ByteArray × Nat × Option FieldType × Nat × Nat := (⟨"PointMapsModel", "isStill", "(I)Z"⟩, prog_14_method_15_code, 2, (some .boolean), 3, 69)
def m_M_isCentre : MethodName × ByteArray × Nat × Option FieldType × Nat × Nat := (⟨"PointMapsModel", "isCentre", "(I)Z"⟩, prog_14_method_16_code, 4, (some .boolean), 0, 0)
def m_M_elements : MethodName × ByteArray × Nat × Option FieldType × Nat × Nat := (⟨"PointMapsModel", "elements", "(I)I"⟩, prog_14_method_19_code, 5, (some .int), 5, 119)
def m_M_ones : MethodName × ByteArray × Nat × Option FieldType × Nat × Nat := (⟨"PointMapsModel", "ones", "(I)I"⟩, prog_14_method_21_code, 3, (some .int), 0, 0)
def m_M_rankOf : MethodName × ByteArray × Nat × Option FieldType × Nat × Nat := (⟨"PointMapsModel", "rankOf", "(I)I"⟩, prog_14_method_20_code, 4, (some .int), 2, 45)
def m_M_kernelOf : MethodName × ByteArray × Nat × Option FieldType × Nat × Nat := (⟨"PointMapsModel", "kernelOf", "(I)I"⟩, prog_14_method_22_code, 5, (some .int), 2, 45)
def m_M_stillOf : MethodName × ByteArray × Nat × Option FieldType × Nat × Nat := (⟨"PointMapsModel", "stillOf", "(I)I"⟩, prog_14_method_23_code, 3, (some .int), 3, 69)
def m_M_element : MethodName × ByteArray × Nat × Option FieldType × Nat × Nat := (⟨"PointMapsModel", "element", "(II)I"⟩, prog_14_method_24_code, 3, (some .int), 5, 119)
def m_M_word : MethodName × ByteArray × Nat × Option FieldType × Nat × Nat := (⟨"PointMapsModel", "word", "(II)I"⟩, prog_14_method_25_code, 4, (some .int), 4, 92)
def m_M_find : MethodName × ByteArray × Nat × Option FieldType × Nat × Nat := (⟨"PointMapsModel", "find", "(I)I"⟩, prog_14_method_26_code, 2, (some .int), 4, 92)
def m_M_done : MethodName × ByteArray × Nat × Option FieldType × Nat × Nat := (⟨"PointMapsModel", "done", "(II)I"⟩, prog_14_method_27_code, 3, (some .int), 4, 92)
def m_M_inside : MethodName × ByteArray × Nat × Option FieldType × Nat × Nat := (⟨"PointMapsModel", "inside", "(IIZ)I"⟩, prog_14_method_32_code, 7, (some .int), 4, 90)
def m_M_comes : MethodName × ByteArray × Nat × Option FieldType × Nat × Nat := (⟨"PointMapsModel", "comes", "(I)I"⟩, prog_14_method_29_code, 6, (some .int), 1, 23)
def m_M_leastOf : MethodName × ByteArray × Nat × Option FieldType × Nat × Nat := (⟨"PointMapsModel", "leastOf", "(I)I"⟩, prog_14_method_30_code, 3, (some .int), 0, 0)
def m_M_leastBox : MethodName × ByteArray × Nat × Option FieldType × Nat × Nat := (⟨"PointMapsModel", "leastBox", "()I"⟩, prog_14_method_31_code, 6, (some .int), 2, 48)
def m_M_sizeOf : MethodName × ByteArray × Nat × Option FieldType × Nat × Nat := (⟨"PointMapsModel", "sizeOf", "(I)I"⟩, prog_14_method_33_code, 4, (some .int), 0, 0)
def m_M_boxes : MethodName × ByteArray × Nat × Option FieldType × Nat × Nat := (⟨"PointMapsModel", "boxes", "(I)I"⟩, prog_14_method_34_code, 2, (some .int), 5, 116)
def m_M_box : MethodName × ByteArray × Nat × Option FieldType × Nat × Nat := (⟨"PointMapsModel", "box", "(II)I"⟩, prog_14_method_35_code, 3, (some .int), 4, 92)
def m_M_isRegular : MethodName × ByteArray × Nat × Option FieldType × Nat × Nat := (⟨"PointMapsModel", "isRegular", "(I)Z"⟩, prog_14_method_28_code, 4, (some .boolean), 4, 90)
def m_M_about : MethodName × ByteArray × Nat × Option FieldType × Nat × Nat := (⟨"PointMapsModel", "about", "(II)I"⟩, prog_14_method_36_code, 3, (some .int), 5, 116)
def m_M_below : MethodName × ByteArray × Nat × Option FieldType × Nat × Nat := (⟨"PointMapsModel", "below", "(II)I"⟩, prog_14_method_37_code, 4, (some .int), 4, 92)
def m_M_ideal : MethodName × ByteArray × Nat × Option FieldType × Nat × Nat := (⟨"PointMapsModel", "ideal", "(I)I"⟩, prog_14_method_38_code, 2, (some .int), 4, 92)
def m_M_sort : MethodName × ByteArray × Nat × Option FieldType × Nat × Nat := (⟨"PointMapsModel", "sort", "(I)I"⟩, prog_14_method_39_code, 5, (some .int), 5, 116)
def m_M_solve : MethodName × ByteArray × Nat × Option FieldType × Nat × Nat := (⟨"PointMapsModel", "solve", "(IIII)I"⟩, prog_14_method_40_code, 9, (some .int), 4, 92)
def m_M_isSet : MethodName × ByteArray × Nat × Option FieldType × Nat × Nat := (⟨"PointMapsModel", "isSet", "(I)Z"⟩, prog_14_method_42_code, 2, (some .boolean), 1, 22)
def m_M_image : MethodName × ByteArray × Nat × Option FieldType × Nat × Nat := (⟨"PointMapsModel", "image", "(II)I"⟩, prog_14_method_41_code, 5, (some .int), 2, 45)
def m_M_sets : MethodName × ByteArray × Nat × Option FieldType × Nat × Nat := (⟨"PointMapsModel", "sets", "(I)I"⟩, prog_14_method_43_code, 6, (some .int), 3, 69)
def m_M_wayOf : MethodName × ByteArray × Nat × Option FieldType × Nat × Nat := (⟨"PointMapsModel", "wayOf", "(III)I"⟩, prog_14_method_44_code, 7, (some .int), 0, 0)
def m_M_together : MethodName × ByteArray × Nat × Option FieldType × Nat × Nat := (⟨"PointMapsModel", "together", "(II)I"⟩, prog_14_method_45_code, 5, (some .int), 4, 94)
def m_M_lowestOf : MethodName × ByteArray × Nat × Option FieldType × Nat × Nat := (⟨"PointMapsModel", "lowestOf", "(I)I"⟩, prog_14_method_46_code, 5, (some .int), 4, 94)
def m_M_lowest : MethodName × ByteArray × Nat × Option FieldType × Nat × Nat := (⟨"PointMapsModel", "lowest", "(I)I"⟩, prog_14_method_47_code, 2, (some .int), 5, 118)
def m_M_apart : MethodName × ByteArray × Nat × Option FieldType × Nat × Nat := (⟨"PointMapsModel", "apart", "()I"⟩, prog_14_method_48_code, 4, (some .int), 5, 118)
def m_M_isPoint : MethodName × ByteArray × Nat × Option FieldType × Nat × Nat := (⟨"PointMapsModel", "isPoint", "(I)Z"⟩, prog_14_method_51_code, 2, (some .boolean), 1, 22)
def m_M_joins : MethodName × ByteArray × Nat × Option FieldType × Nat × Nat := (⟨"PointMapsModel", "joins", "(II)V"⟩, prog_14_method_49_code, 6, none, 0, 0)
def m_M_told : MethodName × ByteArray × Nat × Option FieldType × Nat × Nat := (⟨"PointMapsModel", "told", "()I"⟩, prog_14_method_50_code, 3, (some .int), 0, 0)
def m_M_cut : MethodName × ByteArray × Nat × Option FieldType × Nat × Nat := (⟨"PointMapsModel", "cut", "(II)I"⟩, prog_14_method_52_code, 7, (some .int), 2, 45)
def m_M_isKept : MethodName × ByteArray × Nat × Option FieldType × Nat × Nat := (⟨"PointMapsModel", "isKept", "()Z"⟩, prog_14_method_53_code, 5, (some .boolean), 2, 45)
def m_M_cuts : MethodName × ByteArray × Nat × Option FieldType × Nat × Nat := (⟨"PointMapsModel", "cuts", "()I"⟩, prog_14_method_54_code, 6, (some .int), 3, 69)
def m_M_twists : MethodName × ByteArray × Nat × Option FieldType × Nat × Nat := (⟨"PointMapsModel", "twists", "()I"⟩, prog_14_method_55_code, 6, (some .int), 3, 69)
def m_M_set : MethodName × ByteArray × Nat × Option FieldType × Nat × Nat := (⟨"PointMapsModel", "set", "(II)I"⟩, prog_14_method_56_code, 4, (some .int), 1, 22)
def m_M_taken : MethodName × ByteArray × Nat × Option FieldType × Nat × Nat := (⟨"PointMapsModel", "taken", "(I)I"⟩, prog_14_method_57_code, 5, (some .int), 2, 45)
def m_M_reached : MethodName × ByteArray × Nat × Option FieldType × Nat × Nat := (⟨"PointMapsModel", "reached", "()I"⟩, prog_14_method_58_code, 4, (some .int), 3, 69)
def m_M_isAlike : MethodName × ByteArray × Nat × Option FieldType × Nat × Nat := (⟨"PointMapsModel", "isAlike", "(II)Z"⟩, prog_14_method_60_code, 5, (some .boolean), 2, 45)
def m_M_alike : MethodName × ByteArray × Nat × Option FieldType × Nat × Nat := (⟨"PointMapsModel", "alike", "(I)I"⟩, prog_14_method_59_code, 6, (some .int), 3, 69)
def m_M_least : MethodName × ByteArray × Nat × Option FieldType × Nat × Nat := (⟨"PointMapsModel", "least", "()I"⟩, prog_14_method_61_code, 1, (some .int), 4, 94)
def m_M_isParted : MethodName × ByteArray × Nat × Option FieldType × Nat × Nat := (⟨"PointMapsModel", "isParted", "(I)Z"⟩, prog_14_method_62_code, 2, (some .boolean), 0, 0)
def m_M_parting : MethodName × ByteArray × Nat × Option FieldType × Nat × Nat := (⟨"PointMapsModel", "parting", "(III)I"⟩, prog_14_method_63_code, 9, (some .int), 2, 45)
def m_M_meaning : MethodName × ByteArray × Nat × Option FieldType × Nat × Nat := (⟨"PointMapsModel", "meaning", "(II)I"⟩, prog_14_method_64_code, 7, (some .int), 2, 45)
def m_M_meanings : MethodName × ByteArray × Nat × Option FieldType × Nat × Nat := (⟨"PointMapsModel", "meanings", "(I)I"⟩, prog_14_method_65_code, 9, (some .int), 4, 94)
def m_M_count : MethodName × ByteArray × Nat × Option FieldType × Nat × Nat := (⟨"PointMapsModel", "count", "(I)I"⟩, prog_14_method_66_code, 2, (some .int), 0, 0)
