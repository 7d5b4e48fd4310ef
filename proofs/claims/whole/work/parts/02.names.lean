def kF0 : u_T := fun k => match k with
  | 0 => ("TwoCamps", "people", "LTwoCamps$People;", true)
  | 1 => ("TwoCamps", "keptPeople", "LTwoCamps$People;", true)
  | 2 => ("TwoCamps", "feelings", "LTwoCamps$Feelings;", true)
  | 3 => ("TwoCamps", "keptFeelings", "LTwoCamps$Feelings;", true)
  | 4 => ("TwoCamps", "kept", "Z", false)
  | 5 => ("TwoCamps", "keptRule", "I", false)
  | 6 => ("TwoCamps", "tape", "LTwoCamps$Tape;", true)
  | 7 => ("TwoCamps", "law", "LTwoCamps$Law;", true)
  | 8 => ("TwoCamps", "textReader", "LTwoCamps$TextReader;", true)
  | 9 => ("TwoCamps", "streetReader", "LTwoCamps$StreetReader;", true)
  | 10 => ("TwoCamps", "campings", "[LTwoCamps$Camping;", true)
  | 11 => ("TwoCamps", "campingCount", "I", false)
  | 12 => ("TwoCamps", "moved", "LTwoCamps$Camping;", true)
  | 13 => ("TwoCamps", "net", "LTwoCamps$Net;", true)
  | 14 => ("TwoCamps", "best", "LTwoCamps$Best;", true)
  | _ => ("TwoCamps", "sheets", "[LTwoCamps$Sheet;", true)
def kT0 : Nat → FieldType := fun k => match k with
  | 0 => .object "TwoCamps$People"
  | 1 => .object "TwoCamps$People"
  | 2 => .object "TwoCamps$Feelings"
  | 3 => .object "TwoCamps$Feelings"
  | 4 => .boolean
  | 5 => .int
  | 6 => .object "TwoCamps$Tape"
  | 7 => .object "TwoCamps$Law"
  | 8 => .object "TwoCamps$TextReader"
  | 9 => .object "TwoCamps$StreetReader"
  | 10 => .array (.object "TwoCamps$Camping")
  | 11 => .int
  | 12 => .object "TwoCamps$Camping"
  | 13 => .object "TwoCamps$Net"
  | 14 => .object "TwoCamps$Best"
  | _ => .array (.object "TwoCamps$Sheet")
set_option maxRecDepth 20000 in
theorem kI0 : ∀ w ∈ u_ws "TwoCamps" kF0 16, w ∈ am_T := tb_lays [388, 390, 392, 394, 396, 398, 400, 402, 404, 406, 408, 410, 412, 414, 416, 418] (by decide +kernel)
theorem kN0 : ∀ a, a < 16 → ∀ b, b < 16 → a ≠ b → (kF0 a).2.1 ≠ (kF0 b).2.1 := by decide +kernel
theorem kO0 : ∀ k, k < 16 → parseFieldDescriptor (kF0 k).2.2.1 = some (kT0 k) := by decide +kernel
def kF1 : u_T := fun k => match k with
  | 0 => ("TwoCamps$People", "size", "I", false)
  | 1 => ("TwoCamps$People", "prices", "[I", true)
  | _ => ("TwoCamps$People", "leads", "[I", true)
def kT1 : Nat → FieldType := fun k => match k with
  | 0 => .int
  | 1 => .array .int
  | _ => .array .int
set_option maxRecDepth 20000 in
theorem kI1 : ∀ w ∈ u_ws "TwoCamps$People" kF1 3, w ∈ am_T := tb_lays [47, 49, 51] (by decide +kernel)
theorem kN1 : ∀ a, a < 3 → ∀ b, b < 3 → a ≠ b → (kF1 a).2.1 ≠ (kF1 b).2.1 := by decide +kernel
theorem kO1 : ∀ k, k < 3 → parseFieldDescriptor (kF1 k).2.2.1 = some (kT1 k) := by decide +kernel
def kF2 : u_T := fun k => match k with
  | 0 => ("TwoCamps$Feelings", "size", "I", false)
  | 1 => ("TwoCamps$Feelings", "lesser", "[I", true)
  | 2 => ("TwoCamps$Feelings", "greater", "[I", true)
  | 3 => ("TwoCamps$Feelings", "signs", "[I", true)
  | 4 => ("TwoCamps$Feelings", "strengths", "[I", true)
  | 5 => ("TwoCamps$Feelings", "kinds", "[I", true)
  | 6 => ("TwoCamps$Feelings", "numbers", "[I", true)
  | _ => ("TwoCamps$Feelings", "keptSigns", "[I", true)
def kT2 : Nat → FieldType := fun k => match k with
  | 0 => .int
  | 1 => .array .int
  | 2 => .array .int
  | 3 => .array .int
  | 4 => .array .int
  | 5 => .array .int
  | 6 => .array .int
  | _ => .array .int
set_option maxRecDepth 20000 in
theorem kI2 : ∀ w ∈ u_ws "TwoCamps$Feelings" kF2 8, w ∈ am_T := tb_lays [91, 93, 95, 97, 99, 101, 103, 105] (by decide +kernel)
theorem kN2 : ∀ a, a < 8 → ∀ b, b < 8 → a ≠ b → (kF2 a).2.1 ≠ (kF2 b).2.1 := by decide +kernel
theorem kO2 : ∀ k, k < 8 → parseFieldDescriptor (kF2 k).2.2.1 = some (kT2 k) := by decide +kernel
def kF3 : u_T := fun k => match k with
  | 0 => ("TwoCamps$Tape", "size", "I", false)
  | _ => ("TwoCamps$Tape", "bytes", "[I", true)
def kT3 : Nat → FieldType := fun k => match k with
  | 0 => .int
  | _ => .array .int
set_option maxRecDepth 20000 in
theorem kI3 : ∀ w ∈ u_ws "TwoCamps$Tape" kF3 2, w ∈ am_T := tb_lays [118, 120] (by decide +kernel)
theorem kN3 : ∀ a, a < 2 → ∀ b, b < 2 → a ≠ b → (kF3 a).2.1 ≠ (kF3 b).2.1 := by decide +kernel
theorem kO3 : ∀ k, k < 2 → parseFieldDescriptor (kF3 k).2.2.1 = some (kT3 k) := by decide +kernel
def kF4 : u_T := fun k => match k with
  | 0 => ("TwoCamps$Law", "feelings", "LTwoCamps$Feelings;", true)
  | 1 => ("TwoCamps$Law", "texts", "[LTwoCamps$Text;", true)
  | 2 => ("TwoCamps$Law", "textCount", "I", false)
  | 3 => ("TwoCamps$Law", "rule", "I", false)
  | 4 => ("TwoCamps$Law", "costs", "[I", true)
  | 5 => ("TwoCamps$Law", "lets", "[Z", true)
  | 6 => ("TwoCamps$Law", "stack", "[I", true)
  | _ => ("TwoCamps$Law", "top", "I", false)
def kT4 : Nat → FieldType := fun k => match k with
  | 0 => .object "TwoCamps$Feelings"
  | 1 => .array (.object "TwoCamps$Text")
  | 2 => .int
  | 3 => .int
  | 4 => .array .int
  | 5 => .array .boolean
  | 6 => .array .int
  | _ => .int
set_option maxRecDepth 20000 in
theorem kI4 : ∀ w ∈ u_ws "TwoCamps$Law" kF4 8, w ∈ am_T := tb_lays [172, 174, 176, 178, 180, 182, 184, 186] (by decide +kernel)
theorem kN4 : ∀ a, a < 8 → ∀ b, b < 8 → a ≠ b → (kF4 a).2.1 ≠ (kF4 b).2.1 := by decide +kernel
theorem kO4 : ∀ k, k < 8 → parseFieldDescriptor (kF4 k).2.2.1 = some (kT4 k) := by decide +kernel
def kF5 : u_T := fun k => match k with
  | 0 => ("TwoCamps$Text", "tokens", "[I", true)
  | 1 => ("TwoCamps$Text", "size", "I", false)
  | _ => ("TwoCamps$Text", "half", "I", false)
def kT5 : Nat → FieldType := fun k => match k with
  | 0 => .array .int
  | 1 => .int
  | _ => .int
set_option maxRecDepth 20000 in
theorem kI5 : ∀ w ∈ u_ws "TwoCamps$Text" kF5 3, w ∈ am_T := tb_lays [142, 144, 146] (by decide +kernel)
theorem kN5 : ∀ a, a < 3 → ∀ b, b < 3 → a ≠ b → (kF5 a).2.1 ≠ (kF5 b).2.1 := by decide +kernel
theorem kO5 : ∀ k, k < 3 → parseFieldDescriptor (kF5 k).2.2.1 = some (kT5 k) := by decide +kernel
def kF6 : u_T := fun k => match k with
  | 0 => ("TwoCamps$TextReader", "tape", "LTwoCamps$Tape;", true)
  | 1 => ("TwoCamps$TextReader", "tokens", "[I", true)
  | 2 => ("TwoCamps$TextReader", "places", "[I", true)
  | 3 => ("TwoCamps$TextReader", "at", "I", false)
  | 4 => ("TwoCamps$TextReader", "token", "I", false)
  | _ => ("TwoCamps$TextReader", "read", "LTwoCamps$Text;", true)
def kT6 : Nat → FieldType := fun k => match k with
  | 0 => .object "TwoCamps$Tape"
  | 1 => .array .int
  | 2 => .array .int
  | 3 => .int
  | 4 => .int
  | _ => .object "TwoCamps$Text"
set_option maxRecDepth 20000 in
theorem kI6 : ∀ w ∈ u_ws "TwoCamps$TextReader" kF6 6, w ∈ am_T := tb_lays [204, 206, 208, 210, 212, 214] (by decide +kernel)
theorem kN6 : ∀ a, a < 6 → ∀ b, b < 6 → a ≠ b → (kF6 a).2.1 ≠ (kF6 b).2.1 := by decide +kernel
theorem kO6 : ∀ k, k < 6 → parseFieldDescriptor (kF6 k).2.2.1 = some (kT6 k) := by decide +kernel
def kF7 : u_T := fun k => match k with
  | 0 => ("TwoCamps$StreetReader", "tape", "LTwoCamps$Tape;", true)
  | 1 => ("TwoCamps$StreetReader", "people", "LTwoCamps$People;", true)
  | 2 => ("TwoCamps$StreetReader", "feelings", "LTwoCamps$Feelings;", true)
  | 3 => ("TwoCamps$StreetReader", "place", "I", false)
  | 4 => ("TwoCamps$StreetReader", "first", "I", false)
  | 5 => ("TwoCamps$StreetReader", "second", "I", false)
  | 6 => ("TwoCamps$StreetReader", "sign", "I", false)
  | 7 => ("TwoCamps$StreetReader", "strength", "I", false)
  | _ => ("TwoCamps$StreetReader", "kind", "I", false)
def kT7 : Nat → FieldType := fun k => match k with
  | 0 => .object "TwoCamps$Tape"
  | 1 => .object "TwoCamps$People"
  | 2 => .object "TwoCamps$Feelings"
  | 3 => .int
  | 4 => .int
  | 5 => .int
  | 6 => .int
  | 7 => .int
  | _ => .int
set_option maxRecDepth 20000 in
theorem kI7 : ∀ w ∈ u_ws "TwoCamps$StreetReader" kF7 9, w ∈ am_T := tb_lays [233, 235, 237, 239, 241, 243, 245, 247, 249] (by decide +kernel)
theorem kN7 : ∀ a, a < 9 → ∀ b, b < 9 → a ≠ b → (kF7 a).2.1 ≠ (kF7 b).2.1 := by decide +kernel
theorem kO7 : ∀ k, k < 9 → parseFieldDescriptor (kF7 k).2.2.1 = some (kT7 k) := by decide +kernel
def kF8 : u_T := fun k => match k with
  | 0 => ("TwoCamps$Camping", "people", "LTwoCamps$People;", true)
  | 1 => ("TwoCamps$Camping", "feelings", "LTwoCamps$Feelings;", true)
  | 2 => ("TwoCamps$Camping", "law", "LTwoCamps$Law;", true)
  | 3 => ("TwoCamps$Camping", "kind", "I", false)
  | 4 => ("TwoCamps$Camping", "size", "I", false)
  | _ => ("TwoCamps$Camping", "camps", "[I", true)
def kT8 : Nat → FieldType := fun k => match k with
  | 0 => .object "TwoCamps$People"
  | 1 => .object "TwoCamps$Feelings"
  | 2 => .object "TwoCamps$Law"
  | 3 => .int
  | 4 => .int
  | _ => .array .int
set_option maxRecDepth 20000 in
theorem kI8 : ∀ w ∈ u_ws "TwoCamps$Camping" kF8 6, w ∈ am_T := tb_lays [267, 269, 271, 273, 275, 277] (by decide +kernel)
theorem kN8 : ∀ a, a < 6 → ∀ b, b < 6 → a ≠ b → (kF8 a).2.1 ≠ (kF8 b).2.1 := by decide +kernel
theorem kO8 : ∀ k, k < 6 → parseFieldDescriptor (kF8 k).2.2.1 = some (kT8 k) := by decide +kernel
def kF9 : u_T := fun k => match k with
  | 0 => ("TwoCamps$Net", "people", "LTwoCamps$People;", true)
  | 1 => ("TwoCamps$Net", "feelings", "LTwoCamps$Feelings;", true)
  | 2 => ("TwoCamps$Net", "ringLength", "I", false)
  | 3 => ("TwoCamps$Net", "ringRow", "[I", true)
  | 4 => ("TwoCamps$Net", "queue", "[I", true)
  | 5 => ("TwoCamps$Net", "queued", "I", false)
  | 6 => ("TwoCamps$Net", "before", "[I", true)
  | _ => ("TwoCamps$Net", "steps", "[I", true)
def kT9 : Nat → FieldType := fun k => match k with
  | 0 => .object "TwoCamps$People"
  | 1 => .object "TwoCamps$Feelings"
  | 2 => .int
  | 3 => .array .int
  | 4 => .array .int
  | 5 => .int
  | 6 => .array .int
  | _ => .array .int
set_option maxRecDepth 20000 in
theorem kI9 : ∀ w ∈ u_ws "TwoCamps$Net" kF9 8, w ∈ am_T := tb_lays [296, 298, 300, 302, 304, 306, 308, 310] (by decide +kernel)
theorem kN9 : ∀ a, a < 8 → ∀ b, b < 8 → a ≠ b → (kF9 a).2.1 ≠ (kF9 b).2.1 := by decide +kernel
theorem kO9 : ∀ k, k < 8 → parseFieldDescriptor (kF9 k).2.2.1 = some (kT9 k) := by decide +kernel
def kF10 : u_T := fun k => match k with
  | 0 => ("TwoCamps$Best", "people", "LTwoCamps$People;", true)
  | 1 => ("TwoCamps$Best", "feelings", "LTwoCamps$Feelings;", true)
  | 2 => ("TwoCamps$Best", "law", "LTwoCamps$Law;", true)
  | 3 => ("TwoCamps$Best", "sum", "I", false)
  | 4 => ("TwoCamps$Best", "size", "I", false)
  | 5 => ("TwoCamps$Best", "row", "[I", true)
  | 6 => ("TwoCamps$Best", "camps", "[I", true)
  | 7 => ("TwoCamps$Best", "mostCamps", "I", false)
  | _ => ("TwoCamps$Best", "leastSpread", "I", false)
def kT10 : Nat → FieldType := fun k => match k with
  | 0 => .object "TwoCamps$People"
  | 1 => .object "TwoCamps$Feelings"
  | 2 => .object "TwoCamps$Law"
  | 3 => .int
  | 4 => .int
  | 5 => .array .int
  | 6 => .array .int
  | 7 => .int
  | _ => .int
set_option maxRecDepth 20000 in
theorem kI10 : ∀ w ∈ u_ws "TwoCamps$Best" kF10 9, w ∈ am_T := tb_lays [331, 333, 335, 337, 339, 341, 343, 345, 347] (by decide +kernel)
theorem kN10 : ∀ a, a < 9 → ∀ b, b < 9 → a ≠ b → (kF10 a).2.1 ≠ (kF10 b).2.1 := by decide +kernel
theorem kO10 : ∀ k, k < 9 → parseFieldDescriptor (kF10 k).2.2.1 = some (kT10 k) := by decide +kernel
def kF11 : u_T := fun k => match k with
  | 0 => ("TwoCamps$Sheet", "sort", "I", false)
  | 1 => ("TwoCamps$Sheet", "size", "I", false)
  | _ => ("TwoCamps$Sheet", "cells", "[I", true)
def kT11 : Nat → FieldType := fun k => match k with
  | 0 => .int
  | 1 => .int
  | _ => .array .int
set_option maxRecDepth 20000 in
theorem kI11 : ∀ w ∈ u_ws "TwoCamps$Sheet" kF11 3, w ∈ am_T := tb_lays [365, 367, 369] (by decide +kernel)
theorem kN11 : ∀ a, a < 3 → ∀ b, b < 3 → a ≠ b → (kF11 a).2.1 ≠ (kF11 b).2.1 := by decide +kernel
theorem kO11 : ∀ k, k < 3 → parseFieldDescriptor (kF11 k).2.2.1 = some (kT11 k) := by decide +kernel
def kF12 : u_T := fun k => match k with
  | 0 => ("TwoCampsModel", "thrown", "I", false)
  | 1 => ("TwoCampsModel", "texts", "[I", true)
  | 2 => ("TwoCampsModel", "textSize", "[I", true)
  | 3 => ("TwoCampsModel", "textCount", "I", false)
  | 4 => ("TwoCampsModel", "rule", "I", false)
  | 5 => ("TwoCampsModel", "tape", "[I", true)
  | 6 => ("TwoCampsModel", "taped", "I", false)
  | 7 => ("TwoCampsModel", "price", "[I", true)
  | 8 => ("TwoCampsModel", "led", "[I", true)
  | 9 => ("TwoCampsModel", "people", "I", false)
  | 10 => ("TwoCampsModel", "first", "[I", true)
  | 11 => ("TwoCampsModel", "second", "[I", true)
  | 12 => ("TwoCampsModel", "sign", "[I", true)
  | 13 => ("TwoCampsModel", "strength", "[I", true)
  | 14 => ("TwoCampsModel", "kin", "[I", true)
  | 15 => ("TwoCampsModel", "fixed", "[I", true)
  | 16 => ("TwoCampsModel", "feelings", "I", false)
  | 17 => ("TwoCampsModel", "from", "I", false)
  | 18 => ("TwoCampsModel", "size", "I", false)
  | 19 => ("TwoCampsModel", "token", "I", false)
  | 20 => ("TwoCampsModel", "tokenAt", "I", false)
  | 21 => ("TwoCampsModel", "tokenWorth", "J", false)
  | 22 => ("TwoCampsModel", "here", "I", false)
  | 23 => ("TwoCampsModel", "open", "I", false)
  | 24 => ("TwoCampsModel", "bad", "Z", false)
  | 25 => ("TwoCampsModel", "fault", "I", false)
  | 26 => ("TwoCampsModel", "about", "I", false)
  | 27 => ("TwoCampsModel", "place", "I", false)
  | 28 => ("TwoCampsModel", "wrong", "Z", false)
  | 29 => ("TwoCampsModel", "campKind", "[I", true)
  | 30 => ("TwoCampsModel", "campMany", "[I", true)
  | 31 => ("TwoCampsModel", "campOf", "[I", true)
  | 32 => ("TwoCampsModel", "campings", "I", false)
  | 33 => ("TwoCampsModel", "camp", "[I", true)
  | 34 => ("TwoCampsModel", "peaceful", "I", false)
  | 35 => ("TwoCampsModel", "line", "[I", true)
  | 36 => ("TwoCampsModel", "foundBy", "[I", true)
  | 37 => ("TwoCampsModel", "far", "[I", true)
  | 38 => ("TwoCampsModel", "ringRow", "[I", true)
  | 39 => ("TwoCampsModel", "costs", "[I", true)
  | 40 => ("TwoCampsModel", "mays", "[Z", true)
  | 41 => ("TwoCampsModel", "sums", "[I", true)
  | 42 => ("TwoCampsModel", "leastMany", "I", false)
  | 43 => ("TwoCampsModel", "keptSign", "[I", true)
  | 44 => ("TwoCampsModel", "image", "[I", true)
  | 45 => ("TwoCampsModel", "hasImage", "Z", false)
  | 46 => ("TwoCampsModel", "imagePeople", "I", false)
  | 47 => ("TwoCampsModel", "imageFeelings", "I", false)
  | 48 => ("TwoCampsModel", "imageRule", "I", false)
  | 49 => ("TwoCampsModel", "isThere", "[Z", true)
  | 50 => ("TwoCampsModel", "sorts", "[I", true)
  | 51 => ("TwoCampsModel", "sheetSize", "[I", true)
  | _ => ("TwoCampsModel", "items", "[I", true)
def kT12 : Nat → FieldType := fun k => match k with
  | 0 => .int
  | 1 => .array .int
  | 2 => .array .int
  | 3 => .int
  | 4 => .int
  | 5 => .array .int
  | 6 => .int
  | 7 => .array .int
  | 8 => .array .int
  | 9 => .int
  | 10 => .array .int
  | 11 => .array .int
  | 12 => .array .int
  | 13 => .array .int
  | 14 => .array .int
  | 15 => .array .int
  | 16 => .int
  | 17 => .int
  | 18 => .int
  | 19 => .int
  | 20 => .int
  | 21 => .long
  | 22 => .int
  | 23 => .int
  | 24 => .boolean
  | 25 => .int
  | 26 => .int
  | 27 => .int
  | 28 => .boolean
  | 29 => .array .int
  | 30 => .array .int
  | 31 => .array .int
  | 32 => .int
  | 33 => .array .int
  | 34 => .int
  | 35 => .array .int
  | 36 => .array .int
  | 37 => .array .int
  | 38 => .array .int
  | 39 => .array .int
  | 40 => .array .boolean
  | 41 => .array .int
  | 42 => .int
  | 43 => .array .int
  | 44 => .array .int
  | 45 => .boolean
  | 46 => .int
  | 47 => .int
  | 48 => .int
  | 49 => .array .boolean
  | 50 => .array .int
  | 51 => .array .int
  | _ => .array .int
set_option maxRecDepth 20000 in
theorem kI12 : ∀ w ∈ u_ws "TwoCampsModel" kF12 53, w ∈ am_T := tb_lays [1186, 1188, 1190, 1192, 1194, 1196, 1198, 1200, 1202, 1204, 1206, 1208, 1210, 1212, 1214, 1216, 1218, 1220, 1222, 1224, 1226, 1228, 1230, 1232, 1234, 1236, 1238, 1240, 1242, 1244, 1246, 1248, 1250, 1252, 1254, 1256, 1258, 1260, 1262, 1264, 1266, 1268, 1270, 1272, 1274, 1276, 1278, 1280, 1282, 1284, 1286, 1288, 1290] (by decide +kernel)
theorem kN12 : ∀ a, a < 53 → ∀ b, b < 53 → a ≠ b → (kF12 a).2.1 ≠ (kF12 b).2.1 := by decide +kernel
theorem kO12 : ∀ k, k < 53 → parseFieldDescriptor (kF12 k).2.2.1 = some (kT12 k) := by decide +kernel
abbrev classes : List vw_C := [("TwoCamps", kF0, 16), ("TwoCamps$People", kF1, 3), ("TwoCamps$Feelings", kF2, 8), ("TwoCamps$Tape", kF3, 2), ("TwoCamps$Law", kF4, 8), ("TwoCamps$Text", kF5, 3), ("TwoCamps$TextReader", kF6, 6), ("TwoCamps$StreetReader", kF7, 9), ("TwoCamps$Camping", kF8, 6), ("TwoCamps$Net", kF9, 8), ("TwoCamps$Best", kF10, 9), ("TwoCamps$Sheet", kF11, 3), ("TwoCampsModel", kF12, 53)]
def kT : Nat → Nat → FieldType := fun ci => match ci with
  | 0 => kT0
  | 1 => kT1
  | 2 => kT2
  | 3 => kT3
  | 4 => kT4
  | 5 => kT5
  | 6 => kT6
  | 7 => kT7
  | 8 => kT8
  | 9 => kT9
  | 10 => kT10
  | 11 => kT11
  | _ => kT12
theorem k_all {ci : Nat} {q : vw_C} (h : classes[ci]? = some q) : (∀ w ∈ u_ws q.1 q.2.1 q.2.2, w ∈ am_T) ∧ (∀ a, a < q.2.2 → ∀ b, b < q.2.2 → a ≠ b → (q.2.1 a).2.1 ≠ (q.2.1 b).2.1) ∧ (∀ k, k < q.2.2 → parseFieldDescriptor (q.2.1 k).2.2.1 = some (kT ci k)) := by
  match ci, h with
  | 0, h => cases h; exact ⟨kI0, kN0, kO0⟩
  | 1, h => cases h; exact ⟨kI1, kN1, kO1⟩
  | 2, h => cases h; exact ⟨kI2, kN2, kO2⟩
  | 3, h => cases h; exact ⟨kI3, kN3, kO3⟩
  | 4, h => cases h; exact ⟨kI4, kN4, kO4⟩
  | 5, h => cases h; exact ⟨kI5, kN5, kO5⟩
  | 6, h => cases h; exact ⟨kI6, kN6, kO6⟩
  | 7, h => cases h; exact ⟨kI7, kN7, kO7⟩
  | 8, h => cases h; exact ⟨kI8, kN8, kO8⟩
  | 9, h => cases h; exact ⟨kI9, kN9, kO9⟩
  | 10, h => cases h; exact ⟨kI10, kN10, kO10⟩
  | 11, h => cases h; exact ⟨kI11, kN11, kO11⟩
  | 12, h => cases h; exact ⟨kI12, kN12, kO12⟩
  | n + 13, h => simp [classes] at h
/-- the cells by their names: kind (0 ints, 1 booleans, 2 3 4 rows of Campings, Texts, Sheets, 5 + class), length, codes (0 an int, 1 the long, n + 2 the cell n) -/
def am_sh : List (Nat × Nat × List Nat) := [(5, 0, [3, 6, 9, 17, 0, 0, 25, 27, 44, 49, 50, 0, 71, 73, 78, 81]), (6, 0, [0, 4, 5]), (0, 9, []), (0, 9, []), (6, 0, [0, 7, 8]), (0, 9, []), (0, 9, []), (7, 0, [0, 10, 11, 12, 13, 14, 15, 16]), (0, 36, []), (0, 36, []), (0, 36, []), (0, 36, []), (0, 36, []), (0, 81, []), (0, 36, []), (7, 0, [0, 18, 19, 20, 21, 22, 23, 24]), (0, 36, []), (0, 36, []), (0, 36, []), (0, 36, []), (0, 36, []), (0, 81, []), (0, 36, []), (8, 0, [0, 26]), (0, 160, []), (9, 0, [9, 28, 0, 0, 29, 30, 31, 0]), (3, 6, [30, 32, 34, 36, 38, 40]), (0, 36, []), (1, 36, []), (0, 160, []), (10, 0, [33, 0, 0]), (0, 160, []), (10, 0, [35, 0, 0]), (0, 160, []), (10, 0, [37, 0, 0]), (0, 160, []), (10, 0, [39, 0, 0]), (0, 160, []), (10, 0, [41, 0, 0]), (0, 160, []), (10, 0, [43, 0, 0]), (0, 160, []), (11, 0, [25, 45, 46, 0, 0, 47]), (0, 161, []), (0, 161, []), (10, 0, [48, 0, 0]), (0, 160, []), (12, 0, [25, 3, 9, 0, 0, 0, 0, 0, 0]), (2, 10, [49, 51, 53, 55, 57, 59, 61, 63, 65, 67]), (13, 0, [3, 9, 27, 0, 0, 52]), (0, 9, []), (13, 0, [3, 9, 27, 0, 0, 54]), (0, 9, []), (13, 0, [3, 9, 27, 0, 0, 56]), (0, 9, []), (13, 0, [3, 9, 27, 0, 0, 58]), (0, 9, []), (13, 0, [3, 9, 27, 0, 0, 60]), (0, 9, []), (13, 0, [3, 9, 27, 0, 0, 62]), (0, 9, []), (13, 0, [3, 9, 27, 0, 0, 64]), (0, 9, []), (13, 0, [3, 9, 27, 0, 0, 66]), (0, 9, []), (13, 0, [3, 9, 27, 0, 0, 68]), (0, 9, []), (13, 0, [3, 9, 27, 0, 0, 70]), (0, 9, []), (13, 0, [3, 9, 27, 0, 0, 72]), (0, 9, []), (14, 0, [3, 9, 0, 74, 75, 0, 76, 77]), (0, 18, []), (0, 18, []), (0, 18, []), (0, 18, []), (15, 0, [3, 9, 27, 0, 0, 79, 80, 0, 0]), (0, 256, []), (0, 9, []), (4, 4, [80, 82, 84, 86]), (16, 0, [0, 0, 83]), (0, 40, []), (16, 0, [0, 0, 85]), (0, 40, []), (16, 0, [0, 0, 87]), (0, 40, []), (16, 0, [0, 0, 89]), (0, 40, []), (17, 0, [0, 91, 92, 0, 0, 93, 0, 94, 95, 0, 96, 97, 98, 99, 100, 101, 0, 0, 0, 0, 0, 1, 0, 0, 0, 0, 0, 0, 0, 102, 103, 104, 0, 105, 0, 106, 107, 108, 109, 110, 111, 112, 0, 113, 114, 0, 0, 0, 0, 115, 116, 117, 118]), (0, 960, []), (0, 6, []), (0, 160, []), (0, 9, []), (0, 9, []), (0, 36, []), (0, 36, []), (0, 36, []), (0, 36, []), (0, 36, []), (0, 36, []), (0, 10, []), (0, 10, []), (0, 90, []), (0, 9, []), (0, 18, []), (0, 18, []), (0, 18, []), (0, 18, []), (0, 36, []), (1, 36, []), (0, 512, []), (0, 36, []), (0, 234, []), (1, 4, []), (0, 4, []), (0, 4, []), (0, 160, [])]
def am_N : Nat := 117
theorem am_shN : am_sh.length = am_N := by decide +kernel
