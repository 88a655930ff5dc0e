/-! NAMES: classes, fields, methods; by program out of the printed names -/
def mc_R : Nat → String
  | 0 => "StepOwed$Homing"
  | 1 => "StepOwed$Law"
  | 2 => "StepOwed$Person"
  | 3 => "StepOwed$Resting"
  | 4 => "StepOwed$Rich"
  | 5 => "StepOwed$Rows"
  | 6 => "StepOwed$Shy"
  | 7 => "StepOwed$Swift"
  | 8 => "StepOwed$Told"
  | 9 => "StepOwed$Walker"
  | 10 => "StepOwed$World"
  | 11 => "StepOwed"
  | 12 => "StepOwedModel"
  | _ => ""
def mc_F : Nat → List (String × String × String × Bool)
  | 0 => [("StepOwed$Walker", "number", "I", true)]
  | 1 => [("StepOwed$Law", "clauses", "I", false), ("StepOwed$Law", "words", "[I", true), ("StepOwed$Law", "amounts", "[I", true), ("StepOwed$Law", "starts", "[I", true), ("StepOwed$Law", "ends", "[I", true), ("StepOwed$Law", "code", "[I", true), ("StepOwed$Law", "size", "I", false), ("StepOwed$Law", "text", "[I", true), ("StepOwed$Law", "length", "I", false), ("StepOwed$Law", "at", "I", false), ("StepOwed$Law", "number", "I", false)]
  | 2 => [("StepOwed$Person", "number", "I", true), ("StepOwed$Person", "kind", "LStepOwed$Walker;", false), ("StepOwed$Person", "v", "I", false), ("StepOwed$Person", "home", "I", false), ("StepOwed$Person", "at", "I", false), ("StepOwed$Person", "purse", "I", false), ("StepOwed$Person", "debts", "I", false), ("StepOwed$Person", "ways", "[I", true), ("StepOwed$Person", "creditors", "[I", true), ("StepOwed$Person", "sums", "[I", true), ("StepOwed$Person", "next", "I", false), ("StepOwed$Person", "earned", "I", false), ("StepOwed$Person", "stays", "Z", false)]
  | 3 => [("StepOwed$Walker", "number", "I", true)]
  | 4 => [("StepOwed$Walker", "number", "I", true)]
  | 5 => [("StepOwed$Rows", "items", "[I", true), ("StepOwed$Rows", "size", "I", false), ("StepOwed$Rows", "told", "I", false)]
  | 6 => [("StepOwed$Walker", "number", "I", true)]
  | 7 => [("StepOwed$Walker", "number", "I", true)]
  | 8 => [("StepOwed$Walker", "number", "I", true)]
  | 9 => [("StepOwed$Walker", "number", "I", true)]
  | 10 => [("StepOwed$World", "law", "LStepOwed$Law;", true), ("StepOwed$World", "wide", "I", false), ("StepOwed$World", "high", "I", false), ("StepOwed$World", "walls", "[Z", true), ("StepOwed$World", "people", "[LStepOwed$Person;", true), ("StepOwed$World", "count", "I", false), ("StepOwed$World", "today", "I", false), ("StepOwed$World", "facts", "[I", true)]
  | 11 => [("StepOwed", "tape", "LStepOwed$Rows;", true), ("StepOwed", "tracks", "LStepOwed$Rows;", true), ("StepOwed", "book", "LStepOwed$Rows;", true), ("StepOwed", "trace", "LStepOwed$Rows;", true), ("StepOwed", "draft", "LStepOwed$Law;", true), ("StepOwed", "world", "LStepOwed$World;", true), ("StepOwed", "trial", "LStepOwed$World;", true), ("StepOwed", "laws", "I", false), ("StepOwed", "imageTape", "LStepOwed$Rows;", true), ("StepOwed", "imageTracks", "LStepOwed$Rows;", true), ("StepOwed", "imageBook", "LStepOwed$Rows;", true), ("StepOwed", "imageWorld", "LStepOwed$World;", true), ("StepOwed", "imageLaws", "I", false), ("StepOwed", "hasImage", "Z", false)]
  | 12 => [("StepOwedModel", "thrown", "I", false), ("StepOwedModel", "s", "[I", true), ("StepOwedModel", "image", "[I", true), ("StepOwedModel", "frame", "[I", true), ("StepOwedModel", "hasImage", "Z", false), ("StepOwedModel", "act", "I", false), ("StepOwedModel", "place", "I", false), ("StepOwedModel", "end", "I", false), ("StepOwedModel", "isWrong", "Z", false), ("StepOwedModel", "open", "I", false), ("StepOwedModel", "by", "[I", true), ("StepOwedModel", "truths", "[Z", true), ("StepOwedModel", "rests", "Z", false), ("StepOwedModel", "earned", "I", false), ("StepOwedModel", "tos", "[I", true), ("StepOwedModel", "earns", "[I", true), ("StepOwedModel", "staying", "[Z", true), ("StepOwedModel", "trying", "[I", true), ("StepOwedModel", "bestOrder", "[I", true), ("StepOwedModel", "bestFree", "I", false), ("StepOwedModel", "bodies", "[I", true), ("StepOwedModel", "ran", "I", false), ("StepOwedModel", "kind", "I", false), ("StepOwedModel", "number", "I", false), ("StepOwedModel", "tellsV", "I", false)]
  | _ => []
def mc_T (ci : Nat) : u_T := fun k => (mc_F ci).getD k ("", "", "", false)
def mc_N (ci : Nat) : Nat := (mc_F ci).length
def mc_tys : Nat → List FieldType
  | 0 => [.int]
  | 1 => [.int, (.array .int), (.array .int), (.array .int), (.array .int), (.array .int), .int, (.array .int), .int, .int, .int]
  | 2 => [.int, (.object "StepOwed$Walker"), .int, .int, .int, .int, .int, (.array .int), (.array .int), (.array .int), .int, .int, .boolean]
  | 3 => [.int]
  | 4 => [.int]
  | 5 => [(.array .int), .int, .int]
  | 6 => [.int]
  | 7 => [.int]
  | 8 => [.int]
  | 9 => [.int]
  | 10 => [(.object "StepOwed$Law"), .int, .int, (.array .boolean), (.array (.object "StepOwed$Person")), .int, .int, (.array .int)]
  | 11 => [(.object "StepOwed$Rows"), (.object "StepOwed$Rows"), (.object "StepOwed$Rows"), (.object "StepOwed$Rows"), (.object "StepOwed$Law"), (.object "StepOwed$World"), (.object "StepOwed$World"), .int, (.object "StepOwed$Rows"), (.object "StepOwed$Rows"), (.object "StepOwed$Rows"), (.object "StepOwed$World"), .int, .boolean]
  | 12 => [.int, (.array .int), (.array .int), (.array .int), .boolean, .int, .int, .int, .boolean, .int, (.array .int), (.array .boolean), .boolean, .int, (.array .int), (.array .int), (.array .boolean), (.array .int), (.array .int), .int, (.array .int), .int, .int, .int, .int]
  | _ => []
def mc_ty (ci k : Nat) : FieldType := (mc_tys ci).getD k .int
/-- whether the field holds a reference -/
def mc_rk (ci k : Nat) : Bool := match mc_ty ci k with
  | .int => false
  | .boolean => false
  | _ => true
def mc_cls : List vw_C := [(mc_R 0, mc_T 0, mc_N 0), (mc_R 1, mc_T 1, mc_N 1), (mc_R 2, mc_T 2, mc_N 2), (mc_R 3, mc_T 3, mc_N 3), (mc_R 4, mc_T 4, mc_N 4), (mc_R 5, mc_T 5, mc_N 5), (mc_R 6, mc_T 6, mc_N 6), (mc_R 7, mc_T 7, mc_N 7), (mc_R 8, mc_T 8, mc_N 8), (mc_R 9, mc_T 9, mc_N 9), (mc_R 10, mc_T 10, mc_N 10), (mc_R 11, mc_T 11, mc_N 11), (mc_R 12, mc_T 12, mc_N 12)]
theorem mc_cls_at : ∀ ci, ci < 13 → mc_cls[ci]? = some (mc_R ci, mc_T ci, mc_N ci)
  | 0, _ => rfl
  | 1, _ => rfl
  | 2, _ => rfl
  | 3, _ => rfl
  | 4, _ => rfl
  | 5, _ => rfl
  | 6, _ => rfl
  | 7, _ => rfl
  | 8, _ => rfl
  | 9, _ => rfl
  | 10, _ => rfl
  | 11, _ => rfl
  | 12, _ => rfl
  | n + 13, h => absurd h (by omega)
def mu_tb : List Cond := lw_tbl.filter goodWord
theorem mu_tb_in {w : Cond} (h : w ∈ lw_tbl) (g : goodWord w = true) : w ∈ mu_tb := List.mem_filter.mpr ⟨h, g⟩
theorem mu_tb_good : GoodIn mu_tb mu_tb := fun w h => ⟨h, good_of_word (List.mem_filter.mp h).2⟩
theorem mc_lay0 : ∀ w ∈ u_ws (mc_R 0) (mc_T 0) (mc_N 0), w ∈ mu_tb := by
  intro w hw
  have h : w ∈ ([u_lay (mc_R 0) (mc_T 0) 0] : List Cond) := hw
  simp only [List.mem_cons, List.not_mem_nil, or_false] at h
  rcases h with rfl
  · exact mu_tb_in (List.mem_of_getElem? (i := 591) (by decide +kernel)) (by decide +kernel)
theorem mc_lay1 : ∀ w ∈ u_ws (mc_R 1) (mc_T 1) (mc_N 1), w ∈ mu_tb := by
  intro w hw
  have h : w ∈ ([u_lay (mc_R 1) (mc_T 1) 0, u_lay (mc_R 1) (mc_T 1) 1, u_lay (mc_R 1) (mc_T 1) 2, u_lay (mc_R 1) (mc_T 1) 3, u_lay (mc_R 1) (mc_T 1) 4, u_lay (mc_R 1) (mc_T 1) 5, u_lay (mc_R 1) (mc_T 1) 6, u_lay (mc_R 1) (mc_T 1) 7, u_lay (mc_R 1) (mc_T 1) 8, u_lay (mc_R 1) (mc_T 1) 9, u_lay (mc_R 1) (mc_T 1) 10] : List Cond) := hw
  simp only [List.mem_cons, List.not_mem_nil, or_false] at h
  rcases h with rfl | rfl | rfl | rfl | rfl | rfl | rfl | rfl | rfl | rfl | rfl
  · exact mu_tb_in (List.mem_of_getElem? (i := 148) (by decide +kernel)) (by decide +kernel)
  · exact mu_tb_in (List.mem_of_getElem? (i := 150) (by decide +kernel)) (by decide +kernel)
  · exact mu_tb_in (List.mem_of_getElem? (i := 152) (by decide +kernel)) (by decide +kernel)
  · exact mu_tb_in (List.mem_of_getElem? (i := 154) (by decide +kernel)) (by decide +kernel)
  · exact mu_tb_in (List.mem_of_getElem? (i := 156) (by decide +kernel)) (by decide +kernel)
  · exact mu_tb_in (List.mem_of_getElem? (i := 158) (by decide +kernel)) (by decide +kernel)
  · exact mu_tb_in (List.mem_of_getElem? (i := 160) (by decide +kernel)) (by decide +kernel)
  · exact mu_tb_in (List.mem_of_getElem? (i := 162) (by decide +kernel)) (by decide +kernel)
  · exact mu_tb_in (List.mem_of_getElem? (i := 164) (by decide +kernel)) (by decide +kernel)
  · exact mu_tb_in (List.mem_of_getElem? (i := 166) (by decide +kernel)) (by decide +kernel)
  · exact mu_tb_in (List.mem_of_getElem? (i := 168) (by decide +kernel)) (by decide +kernel)
theorem mc_lay2 : ∀ w ∈ u_ws (mc_R 2) (mc_T 2) (mc_N 2), w ∈ mu_tb := by
  intro w hw
  have h : w ∈ ([u_lay (mc_R 2) (mc_T 2) 0, u_lay (mc_R 2) (mc_T 2) 1, u_lay (mc_R 2) (mc_T 2) 2, u_lay (mc_R 2) (mc_T 2) 3, u_lay (mc_R 2) (mc_T 2) 4, u_lay (mc_R 2) (mc_T 2) 5, u_lay (mc_R 2) (mc_T 2) 6, u_lay (mc_R 2) (mc_T 2) 7, u_lay (mc_R 2) (mc_T 2) 8, u_lay (mc_R 2) (mc_T 2) 9, u_lay (mc_R 2) (mc_T 2) 10, u_lay (mc_R 2) (mc_T 2) 11, u_lay (mc_R 2) (mc_T 2) 12] : List Cond) := hw
  simp only [List.mem_cons, List.not_mem_nil, or_false] at h
  rcases h with rfl | rfl | rfl | rfl | rfl | rfl | rfl | rfl | rfl | rfl | rfl | rfl | rfl
  · exact mu_tb_in (List.mem_of_getElem? (i := 235) (by decide +kernel)) (by decide +kernel)
  · exact mu_tb_in (List.mem_of_getElem? (i := 237) (by decide +kernel)) (by decide +kernel)
  · exact mu_tb_in (List.mem_of_getElem? (i := 239) (by decide +kernel)) (by decide +kernel)
  · exact mu_tb_in (List.mem_of_getElem? (i := 241) (by decide +kernel)) (by decide +kernel)
  · exact mu_tb_in (List.mem_of_getElem? (i := 243) (by decide +kernel)) (by decide +kernel)
  · exact mu_tb_in (List.mem_of_getElem? (i := 245) (by decide +kernel)) (by decide +kernel)
  · exact mu_tb_in (List.mem_of_getElem? (i := 247) (by decide +kernel)) (by decide +kernel)
  · exact mu_tb_in (List.mem_of_getElem? (i := 249) (by decide +kernel)) (by decide +kernel)
  · exact mu_tb_in (List.mem_of_getElem? (i := 251) (by decide +kernel)) (by decide +kernel)
  · exact mu_tb_in (List.mem_of_getElem? (i := 253) (by decide +kernel)) (by decide +kernel)
  · exact mu_tb_in (List.mem_of_getElem? (i := 255) (by decide +kernel)) (by decide +kernel)
  · exact mu_tb_in (List.mem_of_getElem? (i := 257) (by decide +kernel)) (by decide +kernel)
  · exact mu_tb_in (List.mem_of_getElem? (i := 259) (by decide +kernel)) (by decide +kernel)
theorem mc_lay3 : ∀ w ∈ u_ws (mc_R 3) (mc_T 3) (mc_N 3), w ∈ mu_tb := by
  intro w hw
  have h : w ∈ ([u_lay (mc_R 3) (mc_T 3) 0] : List Cond) := hw
  simp only [List.mem_cons, List.not_mem_nil, or_false] at h
  rcases h with rfl
  · exact mu_tb_in (List.mem_of_getElem? (i := 607) (by decide +kernel)) (by decide +kernel)
theorem mc_lay4 : ∀ w ∈ u_ws (mc_R 4) (mc_T 4) (mc_N 4), w ∈ mu_tb := by
  intro w hw
  have h : w ∈ ([u_lay (mc_R 4) (mc_T 4) 0] : List Cond) := hw
  simp only [List.mem_cons, List.not_mem_nil, or_false] at h
  rcases h with rfl
  · exact mu_tb_in (List.mem_of_getElem? (i := 599) (by decide +kernel)) (by decide +kernel)
theorem mc_lay5 : ∀ w ∈ u_ws (mc_R 5) (mc_T 5) (mc_N 5), w ∈ mu_tb := by
  intro w hw
  have h : w ∈ ([u_lay (mc_R 5) (mc_T 5) 0, u_lay (mc_R 5) (mc_T 5) 1, u_lay (mc_R 5) (mc_T 5) 2] : List Cond) := hw
  simp only [List.mem_cons, List.not_mem_nil, or_false] at h
  rcases h with rfl | rfl | rfl
  · exact mu_tb_in (List.mem_of_getElem? (i := 123) (by decide +kernel)) (by decide +kernel)
  · exact mu_tb_in (List.mem_of_getElem? (i := 125) (by decide +kernel)) (by decide +kernel)
  · exact mu_tb_in (List.mem_of_getElem? (i := 127) (by decide +kernel)) (by decide +kernel)
theorem mc_lay6 : ∀ w ∈ u_ws (mc_R 6) (mc_T 6) (mc_N 6), w ∈ mu_tb := by
  intro w hw
  have h : w ∈ ([u_lay (mc_R 6) (mc_T 6) 0] : List Cond) := hw
  simp only [List.mem_cons, List.not_mem_nil, or_false] at h
  rcases h with rfl
  · exact mu_tb_in (List.mem_of_getElem? (i := 583) (by decide +kernel)) (by decide +kernel)
theorem mc_lay7 : ∀ w ∈ u_ws (mc_R 7) (mc_T 7) (mc_N 7), w ∈ mu_tb := by
  intro w hw
  have h : w ∈ ([u_lay (mc_R 7) (mc_T 7) 0] : List Cond) := hw
  simp only [List.mem_cons, List.not_mem_nil, or_false] at h
  rcases h with rfl
  · exact mu_tb_in (List.mem_of_getElem? (i := 575) (by decide +kernel)) (by decide +kernel)
theorem mc_lay8 : ∀ w ∈ u_ws (mc_R 8) (mc_T 8) (mc_N 8), w ∈ mu_tb := by
  intro w hw
  have h : w ∈ ([u_lay (mc_R 8) (mc_T 8) 0] : List Cond) := hw
  simp only [List.mem_cons, List.not_mem_nil, or_false] at h
  rcases h with rfl
  · exact mu_tb_in (List.mem_of_getElem? (i := 615) (by decide +kernel)) (by decide +kernel)
theorem mc_lay9 : ∀ w ∈ u_ws (mc_R 9) (mc_T 9) (mc_N 9), w ∈ mu_tb := by
  intro w hw
  have h : w ∈ ([u_lay (mc_R 9) (mc_T 9) 0] : List Cond) := hw
  simp only [List.mem_cons, List.not_mem_nil, or_false] at h
  rcases h with rfl
  · exact mu_tb_in (List.mem_of_getElem? (i := 195) (by decide +kernel)) (by decide +kernel)
theorem mc_lay10 : ∀ w ∈ u_ws (mc_R 10) (mc_T 10) (mc_N 10), w ∈ mu_tb := by
  intro w hw
  have h : w ∈ ([u_lay (mc_R 10) (mc_T 10) 0, u_lay (mc_R 10) (mc_T 10) 1, u_lay (mc_R 10) (mc_T 10) 2, u_lay (mc_R 10) (mc_T 10) 3, u_lay (mc_R 10) (mc_T 10) 4, u_lay (mc_R 10) (mc_T 10) 5, u_lay (mc_R 10) (mc_T 10) 6, u_lay (mc_R 10) (mc_T 10) 7] : List Cond) := hw
  simp only [List.mem_cons, List.not_mem_nil, or_false] at h
  rcases h with rfl | rfl | rfl | rfl | rfl | rfl | rfl | rfl
  · exact mu_tb_in (List.mem_of_getElem? (i := 273) (by decide +kernel)) (by decide +kernel)
  · exact mu_tb_in (List.mem_of_getElem? (i := 275) (by decide +kernel)) (by decide +kernel)
  · exact mu_tb_in (List.mem_of_getElem? (i := 277) (by decide +kernel)) (by decide +kernel)
  · exact mu_tb_in (List.mem_of_getElem? (i := 279) (by decide +kernel)) (by decide +kernel)
  · exact mu_tb_in (List.mem_of_getElem? (i := 281) (by decide +kernel)) (by decide +kernel)
  · exact mu_tb_in (List.mem_of_getElem? (i := 283) (by decide +kernel)) (by decide +kernel)
  · exact mu_tb_in (List.mem_of_getElem? (i := 285) (by decide +kernel)) (by decide +kernel)
  · exact mu_tb_in (List.mem_of_getElem? (i := 287) (by decide +kernel)) (by decide +kernel)
theorem mc_lay11 : ∀ w ∈ u_ws (mc_R 11) (mc_T 11) (mc_N 11), w ∈ mu_tb := by
  intro w hw
  have h : w ∈ ([u_lay (mc_R 11) (mc_T 11) 0, u_lay (mc_R 11) (mc_T 11) 1, u_lay (mc_R 11) (mc_T 11) 2, u_lay (mc_R 11) (mc_T 11) 3, u_lay (mc_R 11) (mc_T 11) 4, u_lay (mc_R 11) (mc_T 11) 5, u_lay (mc_R 11) (mc_T 11) 6, u_lay (mc_R 11) (mc_T 11) 7, u_lay (mc_R 11) (mc_T 11) 8, u_lay (mc_R 11) (mc_T 11) 9, u_lay (mc_R 11) (mc_T 11) 10, u_lay (mc_R 11) (mc_T 11) 11, u_lay (mc_R 11) (mc_T 11) 12, u_lay (mc_R 11) (mc_T 11) 13] : List Cond) := hw
  simp only [List.mem_cons, List.not_mem_nil, or_false] at h
  rcases h with rfl | rfl | rfl | rfl | rfl | rfl | rfl | rfl | rfl | rfl | rfl | rfl | rfl | rfl
  · exact mu_tb_in (List.mem_of_getElem? (i := 304) (by decide +kernel)) (by decide +kernel)
  · exact mu_tb_in (List.mem_of_getElem? (i := 306) (by decide +kernel)) (by decide +kernel)
  · exact mu_tb_in (List.mem_of_getElem? (i := 308) (by decide +kernel)) (by decide +kernel)
  · exact mu_tb_in (List.mem_of_getElem? (i := 310) (by decide +kernel)) (by decide +kernel)
  · exact mu_tb_in (List.mem_of_getElem? (i := 312) (by decide +kernel)) (by decide +kernel)
  · exact mu_tb_in (List.mem_of_getElem? (i := 314) (by decide +kernel)) (by decide +kernel)
  · exact mu_tb_in (List.mem_of_getElem? (i := 316) (by decide +kernel)) (by decide +kernel)
  · exact mu_tb_in (List.mem_of_getElem? (i := 318) (by decide +kernel)) (by decide +kernel)
  · exact mu_tb_in (List.mem_of_getElem? (i := 320) (by decide +kernel)) (by decide +kernel)
  · exact mu_tb_in (List.mem_of_getElem? (i := 322) (by decide +kernel)) (by decide +kernel)
  · exact mu_tb_in (List.mem_of_getElem? (i := 324) (by decide +kernel)) (by decide +kernel)
  · exact mu_tb_in (List.mem_of_getElem? (i := 326) (by decide +kernel)) (by decide +kernel)
  · exact mu_tb_in (List.mem_of_getElem? (i := 328) (by decide +kernel)) (by decide +kernel)
  · exact mu_tb_in (List.mem_of_getElem? (i := 330) (by decide +kernel)) (by decide +kernel)
theorem mc_lay12 : ∀ w ∈ u_ws (mc_R 12) (mc_T 12) (mc_N 12), w ∈ mu_tb := by
  intro w hw
  have h : w ∈ ([u_lay (mc_R 12) (mc_T 12) 0, u_lay (mc_R 12) (mc_T 12) 1, u_lay (mc_R 12) (mc_T 12) 2, u_lay (mc_R 12) (mc_T 12) 3, u_lay (mc_R 12) (mc_T 12) 4, u_lay (mc_R 12) (mc_T 12) 5, u_lay (mc_R 12) (mc_T 12) 6, u_lay (mc_R 12) (mc_T 12) 7, u_lay (mc_R 12) (mc_T 12) 8, u_lay (mc_R 12) (mc_T 12) 9, u_lay (mc_R 12) (mc_T 12) 10, u_lay (mc_R 12) (mc_T 12) 11, u_lay (mc_R 12) (mc_T 12) 12, u_lay (mc_R 12) (mc_T 12) 13, u_lay (mc_R 12) (mc_T 12) 14, u_lay (mc_R 12) (mc_T 12) 15, u_lay (mc_R 12) (mc_T 12) 16, u_lay (mc_R 12) (mc_T 12) 17, u_lay (mc_R 12) (mc_T 12) 18, u_lay (mc_R 12) (mc_T 12) 19, u_lay (mc_R 12) (mc_T 12) 20, u_lay (mc_R 12) (mc_T 12) 21, u_lay (mc_R 12) (mc_T 12) 22, u_lay (mc_R 12) (mc_T 12) 23, u_lay (mc_R 12) (mc_T 12) 24] : List Cond) := hw
  simp only [List.mem_cons, List.not_mem_nil, or_false] at h
  rcases h with rfl | rfl | rfl | rfl | rfl | rfl | rfl | rfl | rfl | rfl | rfl | rfl | rfl | rfl | rfl | rfl | rfl | rfl | rfl | rfl | rfl | rfl | rfl | rfl | rfl
  · exact mu_tb_in (List.mem_of_getElem? (i := 1120) (by decide +kernel)) (by decide +kernel)
  · exact mu_tb_in (List.mem_of_getElem? (i := 1122) (by decide +kernel)) (by decide +kernel)
  · exact mu_tb_in (List.mem_of_getElem? (i := 1124) (by decide +kernel)) (by decide +kernel)
  · exact mu_tb_in (List.mem_of_getElem? (i := 1126) (by decide +kernel)) (by decide +kernel)
  · exact mu_tb_in (List.mem_of_getElem? (i := 1128) (by decide +kernel)) (by decide +kernel)
  · exact mu_tb_in (List.mem_of_getElem? (i := 1130) (by decide +kernel)) (by decide +kernel)
  · exact mu_tb_in (List.mem_of_getElem? (i := 1132) (by decide +kernel)) (by decide +kernel)
  · exact mu_tb_in (List.mem_of_getElem? (i := 1134) (by decide +kernel)) (by decide +kernel)
  · exact mu_tb_in (List.mem_of_getElem? (i := 1136) (by decide +kernel)) (by decide +kernel)
  · exact mu_tb_in (List.mem_of_getElem? (i := 1138) (by decide +kernel)) (by decide +kernel)
  · exact mu_tb_in (List.mem_of_getElem? (i := 1140) (by decide +kernel)) (by decide +kernel)
  · exact mu_tb_in (List.mem_of_getElem? (i := 1142) (by decide +kernel)) (by decide +kernel)
  · exact mu_tb_in (List.mem_of_getElem? (i := 1144) (by decide +kernel)) (by decide +kernel)
  · exact mu_tb_in (List.mem_of_getElem? (i := 1146) (by decide +kernel)) (by decide +kernel)
  · exact mu_tb_in (List.mem_of_getElem? (i := 1148) (by decide +kernel)) (by decide +kernel)
  · exact mu_tb_in (List.mem_of_getElem? (i := 1150) (by decide +kernel)) (by decide +kernel)
  · exact mu_tb_in (List.mem_of_getElem? (i := 1152) (by decide +kernel)) (by decide +kernel)
  · exact mu_tb_in (List.mem_of_getElem? (i := 1154) (by decide +kernel)) (by decide +kernel)
  · exact mu_tb_in (List.mem_of_getElem? (i := 1156) (by decide +kernel)) (by decide +kernel)
  · exact mu_tb_in (List.mem_of_getElem? (i := 1158) (by decide +kernel)) (by decide +kernel)
  · exact mu_tb_in (List.mem_of_getElem? (i := 1160) (by decide +kernel)) (by decide +kernel)
  · exact mu_tb_in (List.mem_of_getElem? (i := 1162) (by decide +kernel)) (by decide +kernel)
  · exact mu_tb_in (List.mem_of_getElem? (i := 1164) (by decide +kernel)) (by decide +kernel)
  · exact mu_tb_in (List.mem_of_getElem? (i := 1166) (by decide +kernel)) (by decide +kernel)
  · exact mu_tb_in (List.mem_of_getElem? (i := 1168) (by decide +kernel)) (by decide +kernel)
theorem mc_lay : ∀ ci, ci < 13 → ∀ w ∈ u_ws (mc_R ci) (mc_T ci) (mc_N ci), w ∈ mu_tb
  | 0, _ => mc_lay0
  | 1, _ => mc_lay1
  | 2, _ => mc_lay2
  | 3, _ => mc_lay3
  | 4, _ => mc_lay4
  | 5, _ => mc_lay5
  | 6, _ => mc_lay6
  | 7, _ => mc_lay7
  | 8, _ => mc_lay8
  | 9, _ => mc_lay9
  | 10, _ => mc_lay10
  | 11, _ => mc_lay11
  | 12, _ => mc_lay12
  | n + 13, h => absurd h (by omega)
theorem mc_ty_ok : ∀ ci, ci < 13 → ∀ k, k < mc_N ci → parseFieldDescriptor (mc_T ci k).2.2.1 = some (mc_ty ci k) := by decide +kernel
theorem mc_nm_ok : ∀ ci, ci < 13 → ∀ a, a < mc_N ci → ∀ b, b < mc_N ci → a ≠ b → (mc_T ci a).2.1 ≠ (mc_T ci b).2.1 := by decide +kernel
abbrev mu_Mi : Type := MethodName × ByteArray × Nat × Option FieldType
def mu_mi0 : List mu_Mi := [(⟨"", "", ""⟩, ⟨#[]⟩, 0, none),
  (⟨"StepOwed$Homing", "<init>", "(I)V"⟩, prog_2_method_1_code, 2, none),
  (⟨"StepOwed$Homing", "tells", "(LStepOwed$Person;ILStepOwed$Rows;)I"⟩, prog_2_method_2_code, 4, (some .int)),
  (⟨"StepOwed$Law", "<init>", "()V"⟩, prog_3_method_1_code, 1, none),
  (⟨"StepOwed$Law", "read", "(LStepOwed$Rows;)I"⟩, prog_3_method_3_code, 4, (some .int)),
  (⟨"StepOwed$Law", "readClause", "()Z"⟩, prog_3_method_4_code, 3, (some .boolean)),
  (⟨"StepOwed$Law", "sign", "()I"⟩, prog_3_method_11_code, 1, (some .int)),
  (⟨"StepOwed$Law", "takeWord", "(Ljava/lang/String;)Z"⟩, prog_3_method_13_code, 3, (some .boolean)),
  (⟨"StepOwed$Law", "take", "(C)Z"⟩, prog_3_method_12_code, 2, (some .boolean)),
  (⟨"StepOwed$Law", "readNumber", "()Z"⟩, prog_3_method_9_code, 1, (some .boolean)),
  (⟨"StepOwed$Law", "isDigit", "(I)Z"⟩, prog_3_method_10_code, 1, (some .boolean)),
  (⟨"StepOwed$Law", "readAny", "(I)Z"⟩, prog_3_method_6_code, 5, (some .boolean)),
  (⟨"StepOwed$Law", "readOne", "(I)Z"⟩, prog_3_method_7_code, 3, (some .boolean)),
  (⟨"StepOwed$Law", "write", "(I)V"⟩, prog_3_method_14_code, 2, none),
  (⟨"StepOwed$Law", "readTest", "()Z"⟩, prog_3_method_8_code, 3, (some .boolean)),
  (⟨"StepOwed$Law", "keepClause", "(III)Z"⟩, prog_3_method_5_code, 4, (some .boolean)),
  (⟨"StepOwed$Law", "copyFrom", "(LStepOwed$Law;)V"⟩, prog_3_method_2_code, 2, none),
  (⟨"StepOwed$Law", "comesOdd", "()Z"⟩, prog_3_method_17_code, 3, (some .boolean)),
  (⟨"StepOwed$Law", "rests", "([I)Z"⟩, prog_3_method_16_code, 3, (some .boolean)),
  (⟨"StepOwed$Law", "holds", "(I[I)Z"⟩, prog_3_method_18_code, 7, (some .boolean)),
  (⟨"StepOwed$Law", "passes", "(I[I)Z"⟩, prog_3_method_19_code, 5, (some .boolean)),
  (⟨"StepOwed$Law", "earns", "([I)I"⟩, prog_3_method_15_code, 4, (some .int)),
  (⟨"StepOwed$Person", "<init>", "(I)V"⟩, prog_4_method_1_code, 2, none),
  (⟨"StepOwed$Person", "settle", "(LStepOwed$Walker;III)V"⟩, prog_4_method_2_code, 6, none),
  (⟨"StepOwed$Person", "creditorAt", "(I)I"⟩, prog_4_method_5_code, 2, (some .int)),
  (⟨"StepOwed$Person", "isDebt", "(I)Z"⟩, prog_4_method_4_code, 2, (some .boolean)),
  (⟨"StepOwed$Person", "placeOfDebt", "(I)I"⟩, prog_4_method_7_code, 3, (some .int)),
  (⟨"StepOwed$Person", "sumAt", "(I)I"⟩, prog_4_method_6_code, 2, (some .int)),
  (⟨"StepOwed$Person", "oweBehind", "(II)V"⟩, prog_4_method_9_code, 4, none),
  (⟨"StepOwed$Person", "insertDebt", "(III)V"⟩, prog_4_method_11_code, 5, none),
  (⟨"StepOwed$Person", "setSum", "(II)V"⟩, prog_4_method_12_code, 3, none),
  (⟨"StepOwed$Person", "dropDebt", "(I)V"⟩, prog_4_method_13_code, 3, none),
  (⟨"StepOwed$Person", "take", "(I)V"⟩, prog_4_method_15_code, 2, none),
  (⟨"StepOwed$Person", "payFirst", "()I"⟩, prog_4_method_14_code, 2, (some .int)),
  (⟨"StepOwed$Person", "copyFrom", "(LStepOwed$Person;)V"⟩, prog_4_method_3_code, 2, none),
  (⟨"StepOwed$Person", "owesTogether", "()I"⟩, prog_4_method_8_code, 3, (some .int)),
  (⟨"StepOwed$Person", "owesAs", "(LStepOwed$Person;)Z"⟩, prog_4_method_16_code, 3, (some .boolean)),
  (⟨"StepOwed$Person", "oweAhead", "(II)V"⟩, prog_4_method_10_code, 3, none),
  (⟨"StepOwed$Person", "takeInOrder", "(LStepOwed$Person;I)Z"⟩, prog_4_method_19_code, 5, (some .boolean)),
  (⟨"StepOwed$Person", "placeInOrder", "(II)I"⟩, prog_4_method_17_code, 4, (some .int)),
  (⟨"StepOwed$Person", "placeOfRank", "(I)I"⟩, prog_4_method_18_code, 5, (some .int)),
  (⟨"StepOwed$Resting", "<init>", "(I)V"⟩, prog_5_method_1_code, 2, none),
  (⟨"StepOwed$Resting", "steps", "(LStepOwed$Person;I)I"⟩, prog_5_method_2_code, 4, (some .int)),
  (⟨"StepOwed$Resting", "goes", "(LStepOwed$Person;ILStepOwed$Rows;)I"⟩, prog_5_method_3_code, 4, (some .int)),
  (⟨"StepOwed$Rich", "<init>", "(I)V"⟩, prog_6_method_1_code, 2, none),
  (⟨"StepOwed$Rich", "steps", "(LStepOwed$Person;I)I"⟩, prog_6_method_2_code, 3, (some .int)),
  (⟨"StepOwed$Rich", "tells", "(LStepOwed$Person;ILStepOwed$Rows;)I"⟩, prog_6_method_3_code, 4, (some .int)),
  (⟨"StepOwed$Rows", "<init>", "(I)V"⟩, prog_7_method_1_code, 2, none),
  (⟨"StepOwed$Rows", "isFull", "()Z"⟩, prog_7_method_2_code, 1, (some .boolean)),
  (⟨"StepOwed$Rows", "add", "(I)V"⟩, prog_7_method_3_code, 2, none),
  (⟨"StepOwed$Rows", "itemAt", "(I)I"⟩, prog_7_method_4_code, 2, (some .int)),
  (⟨"StepOwed$Rows", "clear", "()V"⟩, prog_7_method_5_code, 1, none),
  (⟨"StepOwed$Rows", "copyFrom", "(LStepOwed$Rows;)V"⟩, prog_7_method_6_code, 3, none),
  (⟨"StepOwed$Shy", "<init>", "(I)V"⟩, prog_8_method_1_code, 2, none),
  (⟨"StepOwed$Shy", "takesShorterSide", "()Z"⟩, prog_8_method_2_code, 1, (some .boolean)),
  (⟨"StepOwed$Shy", "pays", "(LStepOwed$Person;ILStepOwed$Rows;)I"⟩, prog_8_method_3_code, 4, (some .int)),
  (⟨"StepOwed$Swift", "<init>", "(I)V"⟩, prog_9_method_1_code, 2, none),
  (⟨"StepOwed$Swift", "steps", "(LStepOwed$Person;I)I"⟩, prog_9_method_2_code, 3, (some .int))]
def mu_mi1 : List mu_Mi := [(⟨"StepOwed$Swift", "goes", "(LStepOwed$Person;ILStepOwed$Rows;)I"⟩, prog_9_method_3_code, 4, (some .int)),
  (⟨"StepOwed$Told", "<init>", "(I)V"⟩, prog_10_method_1_code, 2, none),
  (⟨"StepOwed$Told", "keepsRow", "(LStepOwed$Person;)Z"⟩, prog_10_method_2_code, 2, (some .boolean)),
  (⟨"StepOwed$Told", "pays", "(LStepOwed$Person;ILStepOwed$Rows;)I"⟩, prog_10_method_3_code, 4, (some .int)),
  (⟨"StepOwed$Walker", "<init>", "(I)V"⟩, prog_11_method_1_code, 2, none),
  (⟨"StepOwed$Walker", "steps", "(LStepOwed$Person;I)I"⟩, prog_11_method_2_code, 3, (some .int)),
  (⟨"StepOwed$Walker", "keepsRow", "(LStepOwed$Person;)Z"⟩, prog_11_method_4_code, 2, (some .boolean)),
  (⟨"StepOwed$Walker", "takesShorterSide", "()Z"⟩, prog_11_method_3_code, 1, (some .boolean)),
  (⟨"StepOwed$Walker", "goes", "(LStepOwed$Person;ILStepOwed$Rows;)I"⟩, prog_11_method_5_code, 4, (some .int)),
  (⟨"StepOwed$Walker", "pays", "(LStepOwed$Person;ILStepOwed$Rows;)I"⟩, prog_11_method_6_code, 4, (some .int)),
  (⟨"StepOwed$Walker", "tells", "(LStepOwed$Person;ILStepOwed$Rows;)I"⟩, prog_11_method_7_code, 4, (some .int)),
  (⟨"StepOwed$World", "<init>", "()V"⟩, prog_12_method_1_code, 2, none),
  (⟨"StepOwed$World", "cells", "()I"⟩, prog_12_method_3_code, 1, (some .int)),
  (⟨"StepOwed$World", "layOut", "(II)V"⟩, prog_12_method_5_code, 4, none),
  (⟨"StepOwed$World", "isCell", "(I)Z"⟩, prog_12_method_4_code, 2, (some .boolean)),
  (⟨"StepOwed$World", "isTaken", "(I)Z"⟩, prog_12_method_8_code, 3, (some .boolean)),
  (⟨"StepOwed$World", "hasWall", "(I)Z"⟩, prog_12_method_6_code, 2, (some .boolean)),
  (⟨"StepOwed$World", "setWall", "(IZ)V"⟩, prog_12_method_7_code, 3, none),
  (⟨"StepOwed$World", "settle", "(LStepOwed$Walker;III)I"⟩, prog_12_method_14_code, 5, (some .int)),
  (⟨"StepOwed$World", "personAt", "(I)LStepOwed$Person;"⟩, prog_12_method_13_code, 2, (some (.object "StepOwed$Person"))),
  (⟨"StepOwed$World", "isPerson", "(I)Z"⟩, prog_12_method_12_code, 2, (some .boolean)),
  (⟨"StepOwed$World", "aimOf", "(LStepOwed$Person;)I"⟩, prog_12_method_22_code, 3, (some .int)),
  (⟨"StepOwed$World", "firstDebtorsCell", "(LStepOwed$Person;)I"⟩, prog_12_method_23_code, 3, (some .int)),
  (⟨"StepOwed$World", "stepsOf", "(LStepOwed$Person;)I"⟩, prog_12_method_21_code, 2, (some .int)),
  (⟨"StepOwed$World", "factsOf", "(LStepOwed$Person;)[I"⟩, prog_12_method_19_code, 2, (some (.array .int))),
  (⟨"StepOwed$World", "xOf", "(I)I"⟩, prog_12_method_9_code, 2, (some .int)),
  (⟨"StepOwed$World", "yOf", "(I)I"⟩, prog_12_method_10_code, 2, (some .int)),
  (⟨"StepOwed$World", "earnsOf", "(LStepOwed$Person;)I"⟩, prog_12_method_20_code, 2, (some .int)),
  (⟨"StepOwed$World", "goOneDay", "()V"⟩, prog_12_method_25_code, 3, none),
  (⟨"StepOwed$World", "cellAfter", "(LStepOwed$Person;II)I"⟩, prog_12_method_28_code, 6, (some .int)),
  (⟨"StepOwed$World", "beside", "(II)I"⟩, prog_12_method_29_code, 5, (some .int)),
  (⟨"StepOwed$World", "cellOr", "(III)I"⟩, prog_12_method_11_code, 5, (some .int)),
  (⟨"StepOwed$World", "stepToward", "(IIZ)I"⟩, prog_12_method_30_code, 12, (some .int)),
  (⟨"StepOwed$World", "nearer", "(II)I"⟩, prog_12_method_31_code, 2, (some .int)),
  (⟨"StepOwed$World", "keepCrossingApart", "()V"⟩, prog_12_method_26_code, 5, none),
  (⟨"StepOwed$World", "payDebts", "(LStepOwed$Person;)V"⟩, prog_12_method_27_code, 4, none),
  (⟨"StepOwed$World", "copyFrom", "(LStepOwed$World;)V"⟩, prog_12_method_2_code, 3, none),
  (⟨"StepOwed$World", "goDays", "(I)V"⟩, prog_12_method_24_code, 3, none),
  (⟨"StepOwed$World", "areAllAtOneCell", "()Z"⟩, prog_12_method_15_code, 2, (some .boolean)),
  (⟨"StepOwed$World", "isAs", "(LStepOwed$World;Z)Z"⟩, prog_12_method_16_code, 6, (some .boolean)),
  (⟨"StepOwed$World", "owedTo", "(I)I"⟩, prog_12_method_18_code, 5, (some .int)),
  (⟨"StepOwed$World", "pursesTogether", "()I"⟩, prog_12_method_17_code, 3, (some .int)),
  (⟨"StepOwed", "<init>", "()V"⟩, prog_1_method_1_code, 1, none),
  (⟨"StepOwed", "feed", "(I)I"⟩, prog_1_method_2_code, 2, (some .int)),
  (⟨"StepOwed", "law", "()I"⟩, prog_1_method_3_code, 2, (some .int)),
  (⟨"StepOwed", "valley", "(II)I"⟩, prog_1_method_4_code, 4, (some .int)),
  (⟨"StepOwed", "isSide", "(I)Z"⟩, prog_1_method_34_code, 1, (some .boolean)),
  (⟨"StepOwed", "wall", "(IZ)I"⟩, prog_1_method_5_code, 4, (some .int)),
  (⟨"StepOwed", "person", "(IIII)I"⟩, prog_1_method_6_code, 5, (some .int)),
  (⟨"StepOwed", "isKind", "(I)Z"⟩, prog_1_method_33_code, 1, (some .boolean)),
  (⟨"StepOwed", "kindOf", "(I)LStepOwed$Walker;"⟩, prog_1_method_37_code, 1, (some (.object "StepOwed$Walker"))),
  (⟨"StepOwed", "of", "(II)I"⟩, prog_1_method_7_code, 4, (some .int)),
  (⟨"StepOwed", "owe", "(III)I"⟩, prog_1_method_8_code, 5, (some .int)),
  (⟨"StepOwed", "row", "(III)I"⟩, prog_1_method_9_code, 6, (some .int)),
  (⟨"StepOwed", "now", "()I"⟩, prog_1_method_10_code, 1, (some .int)),
  (⟨"StepOwed", "day", "()I"⟩, prog_1_method_11_code, 1, (some .int)),
  (⟨"StepOwed", "on", "(III)I"⟩, prog_1_method_12_code, 5, (some .int)),
  (⟨"StepOwed", "isAhead", "(I)Z"⟩, prog_1_method_35_code, 1, (some .boolean))]
def mu_mi2 : List mu_Mi := [(⟨"StepOwed", "meet", "(II)I"⟩, prog_1_method_13_code, 3, (some .int)),
  (⟨"StepOwed", "firstDay", "(III)I"⟩, prog_1_method_39_code, 5, (some .int)),
  (⟨"StepOwed", "isSo", "(III)Z"⟩, prog_1_method_40_code, 6, (some .boolean)),
  (⟨"StepOwed", "free", "(I)I"⟩, prog_1_method_14_code, 2, (some .int)),
  (⟨"StepOwed", "spot", "()I"⟩, prog_1_method_15_code, 1, (some .int)),
  (⟨"StepOwed", "again", "(I)I"⟩, prog_1_method_16_code, 3, (some .int)),
  (⟨"StepOwed", "whom", "(III)I"⟩, prog_1_method_17_code, 8, (some .int)),
  (⟨"StepOwed", "tryOwing", "(II)Z"⟩, prog_1_method_41_code, 5, (some .boolean)),
  (⟨"StepOwed", "isSooner", "(II)Z"⟩, prog_1_method_36_code, 2, (some .boolean)),
  (⟨"StepOwed", "order", "(II)I"⟩, prog_1_method_18_code, 8, (some .int)),
  (⟨"StepOwed", "tryOrder", "(LStepOwed$Person;I)Z"⟩, prog_1_method_42_code, 4, (some .boolean)),
  (⟨"StepOwed", "late", "(II)I"⟩, prog_1_method_19_code, 5, (some .int)),
  (⟨"StepOwed", "sit", "(III)I"⟩, prog_1_method_20_code, 8, (some .int)),
  (⟨"StepOwed", "owedWhenAt", "(III)I"⟩, prog_1_method_43_code, 5, (some .int)),
  (⟨"StepOwed", "track", "(I)I"⟩, prog_1_method_21_code, 2, (some .int)),
  (⟨"StepOwed", "owed", "(I)I"⟩, prog_1_method_22_code, 4, (some .int)),
  (⟨"StepOwed", "goesByTracks", "(II)Z"⟩, prog_1_method_44_code, 5, (some .boolean)),
  (⟨"StepOwed", "odds", "(IIII)J"⟩, prog_1_method_23_code, 9, (some .long)),
  (⟨"StepOwed", "partOf", "(III)J"⟩, prog_1_method_45_code, 4, (some .long)),
  (⟨"StepOwed", "mean", "(II)J"⟩, prog_1_method_24_code, 3, (some .long)),
  (⟨"StepOwed", "book", "(III)I"⟩, prog_1_method_25_code, 4, (some .int)),
  (⟨"StepOwed", "looked", "()I"⟩, prog_1_method_26_code, 4, (some .int)),
  (⟨"StepOwed", "act", "(III)I"⟩, prog_1_method_27_code, 5, (some .int)),
  (⟨"StepOwed", "trace", "(I)I"⟩, prog_1_method_28_code, 2, (some .int)),
  (⟨"StepOwed", "as", "(II)I"⟩, prog_1_method_29_code, 4, (some .int)),
  (⟨"StepOwed", "isUnder", "(LStepOwed$Walker;I)Z"⟩, prog_1_method_38_code, 2, (some .boolean)),
  (⟨"StepOwed", "image", "()I"⟩, prog_1_method_30_code, 1, (some .int)),
  (⟨"StepOwed", "undo", "()I"⟩, prog_1_method_31_code, 1, (some .int)),
  (⟨"StepOwed", "count", "(I)I"⟩, prog_1_method_32_code, 2, (some .int)),
  (⟨"StepOwedModel", "<init>", "()V"⟩, prog_14_method_1_code, 1, none),
  (⟨"StepOwedModel", "feed", "(I)I"⟩, prog_14_method_9_code, 2, (some .int)),
  (⟨"StepOwedModel", "in", "(III)Z"⟩, prog_14_method_3_code, 3, (some .boolean)),
  (⟨"StepOwedModel", "law", "()I"⟩, prog_14_method_20_code, 2, (some .int)),
  (⟨"StepOwedModel", "clauseHere", "()V"⟩, prog_14_method_19_code, 3, none),
  (⟨"StepOwedModel", "here", "()I"⟩, prog_14_method_10_code, 1, (some .int)),
  (⟨"StepOwedModel", "spells", "(Ljava/lang/String;)V"⟩, prog_14_method_12_code, 3, none),
  (⟨"StepOwedModel", "must", "(I)V"⟩, prog_14_method_11_code, 2, none),
  (⟨"StepOwedModel", "figures", "()I"⟩, prog_14_method_13_code, 3, (some .int)),
  (⟨"StepOwedModel", "some", "()V"⟩, prog_14_method_18_code, 1, none),
  (⟨"StepOwedModel", "every", "()V"⟩, prog_14_method_17_code, 1, none),
  (⟨"StepOwedModel", "factor", "()V"⟩, prog_14_method_16_code, 5, none),
  (⟨"StepOwedModel", "emits", "(I)V"⟩, prog_14_method_15_code, 2, none),
  (⟨"StepOwedModel", "among", "(Ljava/lang/String;)I"⟩, prog_14_method_14_code, 3, (some .int)),
  (⟨"StepOwedModel", "valley", "(II)I"⟩, prog_14_method_24_code, 4, (some .int)),
  (⟨"StepOwedModel", "cells", "()I"⟩, prog_14_method_5_code, 1, (some .int)),
  (⟨"StepOwedModel", "clears", "()V"⟩, prog_14_method_23_code, 2, none),
  (⟨"StepOwedModel", "wall", "(IZ)I"⟩, prog_14_method_26_code, 4, (some .int)),
  (⟨"StepOwedModel", "isCell", "(I)Z"⟩, prog_14_method_6_code, 2, (some .boolean)),
  (⟨"StepOwedModel", "isTaken", "(I)Z"⟩, prog_14_method_25_code, 4, (some .boolean)),
  (⟨"StepOwedModel", "person", "(IIII)I"⟩, prog_14_method_27_code, 7, (some .int)),
  (⟨"StepOwedModel", "of", "(II)I"⟩, prog_14_method_32_code, 4, (some .int)),
  (⟨"StepOwedModel", "isPerson", "(I)Z"⟩, prog_14_method_4_code, 2, (some .boolean)),
  (⟨"StepOwedModel", "aimOf", "(I)I"⟩, prog_14_method_29_code, 3, (some .int)),
  (⟨"StepOwedModel", "tellsOf", "(I)I"⟩, prog_14_method_21_code, 2, (some .int)),
  (⟨"StepOwedModel", "debtTo", "(II)I"⟩, prog_14_method_28_code, 4, (some .int)),
  (⟨"StepOwedModel", "stepsOf", "(I)I"⟩, prog_14_method_30_code, 4, (some .int)),
  (⟨"StepOwedModel", "looks", "(I)V"⟩, prog_14_method_22_code, 10, none),
  (⟨"StepOwedModel", "earnsOf", "(I)I"⟩, prog_14_method_31_code, 2, (some .int))]
def mu_mi3 : List mu_Mi := [(⟨"StepOwedModel", "owe", "(III)I"⟩, prog_14_method_35_code, 5, (some .int)),
  (⟨"StepOwedModel", "takesOut", "(II)V"⟩, prog_14_method_33_code, 4, none),
  (⟨"StepOwedModel", "puts", "(IIII)V"⟩, prog_14_method_34_code, 6, none),
  (⟨"StepOwedModel", "row", "(III)I"⟩, prog_14_method_36_code, 5, (some .int)),
  (⟨"StepOwedModel", "now", "()I"⟩, prog_14_method_37_code, 1, (some .int)),
  (⟨"StepOwedModel", "day", "()I"⟩, prog_14_method_46_code, 1, (some .int)),
  (⟨"StepOwedModel", "dayGoes", "()V"⟩, prog_14_method_45_code, 5, none),
  (⟨"StepOwedModel", "stepFrom", "(III)I"⟩, prog_14_method_41_code, 10, (some .int)),
  (⟨"StepOwedModel", "moved", "(III)I"⟩, prog_14_method_40_code, 7, (some .int)),
  (⟨"StepOwedModel", "size", "(I)I"⟩, prog_14_method_39_code, 1, (some .int)),
  (⟨"StepOwedModel", "toward", "(I)I"⟩, prog_14_method_38_code, 1, (some .int)),
  (⟨"StepOwedModel", "stays", "(I)Z"⟩, prog_14_method_43_code, 4, (some .boolean)),
  (⟨"StepOwedModel", "areSwapped", "(II)Z"⟩, prog_14_method_42_code, 3, (some .boolean)),
  (⟨"StepOwedModel", "pays", "(I)V"⟩, prog_14_method_44_code, 5, none),
  (⟨"StepOwedModel", "on", "(III)I"⟩, prog_14_method_49_code, 5, (some .int)),
  (⟨"StepOwedModel", "keeps", "()V"⟩, prog_14_method_7_code, 2, none),
  (⟨"StepOwedModel", "goes", "(I)V"⟩, prog_14_method_48_code, 3, none),
  (⟨"StepOwedModel", "sumsOf", "(I)I"⟩, prog_14_method_47_code, 4, (some .int)),
  (⟨"StepOwedModel", "goesBack", "()V"⟩, prog_14_method_8_code, 2, none),
  (⟨"StepOwedModel", "meet", "(II)I"⟩, prog_14_method_51_code, 5, (some .int)),
  (⟨"StepOwedModel", "free", "(I)I"⟩, prog_14_method_53_code, 3, (some .int)),
  (⟨"StepOwedModel", "freeFrom", "(I)I"⟩, prog_14_method_52_code, 3, (some .int)),
  (⟨"StepOwedModel", "spot", "()I"⟩, prog_14_method_54_code, 3, (some .int)),
  (⟨"StepOwedModel", "areAtOne", "()Z"⟩, prog_14_method_50_code, 3, (some .boolean)),
  (⟨"StepOwedModel", "again", "(I)I"⟩, prog_14_method_56_code, 4, (some .int)),
  (⟨"StepOwedModel", "isAsKept", "(Z)Z"⟩, prog_14_method_55_code, 5, (some .boolean)),
  (⟨"StepOwedModel", "whom", "(III)I"⟩, prog_14_method_57_code, 8, (some .int)),
  (⟨"StepOwedModel", "order", "(II)I"⟩, prog_14_method_60_code, 4, (some .int)),
  (⟨"StepOwedModel", "ordersFrom", "(IIII)V"⟩, prog_14_method_59_code, 6, none),
  (⟨"StepOwedModel", "triesOrder", "(II)V"⟩, prog_14_method_58_code, 5, none),
  (⟨"StepOwedModel", "late", "(II)I"⟩, prog_14_method_61_code, 5, (some .int)),
  (⟨"StepOwedModel", "sit", "(III)I"⟩, prog_14_method_63_code, 9, (some .int)),
  (⟨"StepOwedModel", "owedTo", "(I)I"⟩, prog_14_method_62_code, 5, (some .int)),
  (⟨"StepOwedModel", "track", "(I)I"⟩, prog_14_method_64_code, 2, (some .int)),
  (⟨"StepOwedModel", "owed", "(I)I"⟩, prog_14_method_66_code, 4, (some .int)),
  (⟨"StepOwedModel", "goesByTracks", "(I)Z"⟩, prog_14_method_65_code, 3, (some .boolean)),
  (⟨"StepOwedModel", "odds", "(IIII)J"⟩, prog_14_method_68_code, 12, (some .long)),
  (⟨"StepOwedModel", "lowest", "(JJI)J"⟩, prog_14_method_67_code, 11, (some .long)),
  (⟨"StepOwedModel", "mean", "(II)J"⟩, prog_14_method_69_code, 6, (some .long)),
  (⟨"StepOwedModel", "book", "(III)I"⟩, prog_14_method_70_code, 4, (some .int)),
  (⟨"StepOwedModel", "looked", "()I"⟩, prog_14_method_71_code, 2, (some .int)),
  (⟨"StepOwedModel", "act", "(III)I"⟩, prog_14_method_80_code, 4, (some .int)),
  (⟨"StepOwedModel", "goesActs", "(I)I"⟩, prog_14_method_75_code, 2, (some .int)),
  (⟨"StepOwedModel", "isUnder", "(II)Z"⟩, prog_14_method_73_code, 2, (some .boolean)),
  (⟨"StepOwedModel", "ranBody", "(I)V"⟩, prog_14_method_72_code, 2, none),
  (⟨"StepOwedModel", "plainGoes", "(I)I"⟩, prog_14_method_74_code, 2, (some .int)),
  (⟨"StepOwedModel", "paysActs", "(I)I"⟩, prog_14_method_77_code, 2, (some .int)),
  (⟨"StepOwedModel", "plainPays", "(I)I"⟩, prog_14_method_76_code, 2, (some .int)),
  (⟨"StepOwedModel", "tellsActs", "(I)I"⟩, prog_14_method_79_code, 3, (some .int)),
  (⟨"StepOwedModel", "plainTells", "(I)I"⟩, prog_14_method_78_code, 2, (some .int)),
  (⟨"StepOwedModel", "trace", "(I)I"⟩, prog_14_method_81_code, 2, (some .int)),
  (⟨"StepOwedModel", "as", "(II)I"⟩, prog_14_method_82_code, 3, (some .int)),
  (⟨"StepOwedModel", "image", "()I"⟩, prog_14_method_83_code, 2, (some .int)),
  (⟨"StepOwedModel", "undo", "()I"⟩, prog_14_method_84_code, 2, (some .int)),
  (⟨"StepOwedModel", "count", "(I)I"⟩, prog_14_method_85_code, 2, (some .int)),
  (⟨"StepOwedLaw", "law", "([I)Z"⟩, code, 4, (some .boolean))]
def mu_mi : List mu_Mi := mu_mi0 ++ mu_mi1 ++ mu_mi2 ++ mu_mi3
