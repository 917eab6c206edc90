/-! classes: their fields in the order of the slots -/
def gR_CastSearch : String := "SwingDesk$CastSearch"
def gF_CastSearch : u_T := fun k => match k with
  | 0 => ("SwingDesk$CastSearch", "show", "LSwingDesk$Show;", true)
  | 1 => ("SwingDesk$CastSearch", "company", "LSwingDesk$Company;", true)
  | 2 => ("SwingDesk$CastSearch", "able", "[I", true)
  | 3 => ("SwingDesk$CastSearch", "oneApart", "[I", true)
  | 4 => ("SwingDesk$CastSearch", "foesApart", "[I", true)
  | 5 => ("SwingDesk$CastSearch", "cutLosses", "[I", true)
  | 6 => ("SwingDesk$CastSearch", "coverLosses", "[I", true)
  | 7 => ("SwingDesk$CastSearch", "lifts", "[I", true)
  | 8 => ("SwingDesk$CastSearch", "put", "[I", true)
  | 9 => ("SwingDesk$CastSearch", "held", "[I", true)
  | 10 => ("SwingDesk$CastSearch", "best", "[I", true)
  | 11 => ("SwingDesk$CastSearch", "bestLoss", "I", false)
  | 12 => ("SwingDesk$CastSearch", "triesLeft", "I", false)
  | _ => ("SwingDesk$CastSearch", "isSpent", "Z", false)
def gt_CastSearch : Nat → FieldType := fun k => match k with
  | 0 => .object "SwingDesk$Show"
  | 1 => .object "SwingDesk$Company"
  | 2 => .array .int
  | 3 => .array .int
  | 4 => .array .int
  | 5 => .array .int
  | 6 => .array .int
  | 7 => .array .int
  | 8 => .array .int
  | 9 => .array .int
  | 10 => .array .int
  | 11 => .int
  | 12 => .int
  | _ => .boolean
def gR_Company : String := "SwingDesk$Company"
def gF_Company : u_T := fun k => match k with
  | 0 => ("SwingDesk$Company", "people", "I", false)
  | 1 => ("SwingDesk$Company", "today", "I", false)
  | 2 => ("SwingDesk$Company", "kinds", "[I", true)
  | 3 => ("SwingDesk$Company", "sizes", "[I", true)
  | 4 => ("SwingDesk$Company", "owned", "[I", true)
  | 5 => ("SwingDesk$Company", "didOn", "[I", true)
  | 6 => ("SwingDesk$Company", "rehearsedOn", "[I", true)
  | 7 => ("SwingDesk$Company", "foes", "[I", true)
  | _ => ("SwingDesk$Company", "outFrom", "[I", true)
def gt_Company : Nat → FieldType := fun k => match k with
  | 0 => .int
  | 1 => .int
  | 2 => .array .int
  | 3 => .array .int
  | 4 => .array .int
  | 5 => .array .int
  | 6 => .array .int
  | 7 => .array .int
  | _ => .array .int
def gR_Night : String := "SwingDesk$Night"
def gF_Night : u_T := fun k => match k with
  | 0 => ("SwingDesk$Night", "show", "LSwingDesk$Show;", true)
  | 1 => ("SwingDesk$Night", "company", "LSwingDesk$Company;", true)
  | 2 => ("SwingDesk$Night", "hasCast", "Z", false)
  | 3 => ("SwingDesk$Night", "cast", "[I", true)
  | _ => ("SwingDesk$Night", "holders", "[I", true)
def gt_Night : Nat → FieldType := fun k => match k with
  | 0 => .object "SwingDesk$Show"
  | 1 => .object "SwingDesk$Company"
  | 2 => .boolean
  | 3 => .array .int
  | _ => .array .int
def gR_PutIns : String := "SwingDesk$PutIns"
def gF_PutIns : u_T := fun k => match k with
  | 0 => ("SwingDesk$PutIns", "show", "LSwingDesk$Show;", true)
  | 1 => ("SwingDesk$PutIns", "company", "LSwingDesk$Company;", true)
  | 2 => ("SwingDesk$PutIns", "needs", "[I", true)
  | 3 => ("SwingDesk$PutIns", "steps", "[I", true)
  | 4 => ("SwingDesk$PutIns", "hours", "[I", true)
  | 5 => ("SwingDesk$PutIns", "worths", "[J", true)
  | _ => ("SwingDesk$PutIns", "states", "I", false)
def gt_PutIns : Nat → FieldType := fun k => match k with
  | 0 => .object "SwingDesk$Show"
  | 1 => .object "SwingDesk$Company"
  | 2 => .array .int
  | 3 => .array .int
  | 4 => .array .int
  | 5 => .array .long
  | _ => .int
def gR_Sheet : String := "SwingDesk$Sheet"
def gF_Sheet : u_T := fun k => match k with
  | 0 => ("SwingDesk$Sheet", "length", "I", false)
  | _ => ("SwingDesk$Sheet", "row", "[B", true)
def gt_Sheet : Nat → FieldType := fun k => match k with
  | 0 => .int
  | _ => .array .byte
def gR_Show : String := "SwingDesk$Show"
def gF_Show : u_T := fun k => match k with
  | 0 => ("SwingDesk$Show", "tracks", "I", false)
  | 1 => ("SwingDesk$Show", "dresses", "[I", true)
  | 2 => ("SwingDesk$Show", "places", "[I", true)
  | 3 => ("SwingDesk$Show", "musts", "[I", true)
  | 4 => ("SwingDesk$Show", "lifters", "[I", true)
  | _ => ("SwingDesk$Show", "lifted", "[I", true)
def gt_Show : Nat → FieldType := fun k => match k with
  | 0 => .int
  | 1 => .array .int
  | 2 => .array .int
  | 3 => .array .int
  | 4 => .array .int
  | _ => .array .int
def gR_SwingDesk : String := "SwingDesk"
def gF_SwingDesk : u_T := fun k => match k with
  | 0 => ("SwingDesk", "show", "LSwingDesk$Show;", true)
  | 1 => ("SwingDesk", "company", "LSwingDesk$Company;", true)
  | 2 => ("SwingDesk", "night", "LSwingDesk$Night;", true)
  | 3 => ("SwingDesk", "search", "LSwingDesk$CastSearch;", true)
  | 4 => ("SwingDesk", "putIns", "LSwingDesk$PutIns;", true)
  | _ => ("SwingDesk", "sheets", "[LSwingDesk$Sheet;", true)
def gt_SwingDesk : Nat → FieldType := fun k => match k with
  | 0 => .object "SwingDesk$Show"
  | 1 => .object "SwingDesk$Company"
  | 2 => .object "SwingDesk$Night"
  | 3 => .object "SwingDesk$CastSearch"
  | 4 => .object "SwingDesk$PutIns"
  | _ => .array (.object "SwingDesk$Sheet")
def gR_SwingDeskModel : String := "SwingDeskModel"
def gF_SwingDeskModel : u_T := fun k => match k with
  | 0 => ("SwingDeskModel", "tracks", "I", false)
  | 1 => ("SwingDeskModel", "dress", "[I", true)
  | 2 => ("SwingDeskModel", "place", "[I", true)
  | 3 => ("SwingDeskModel", "must", "[I", true)
  | 4 => ("SwingDeskModel", "lifts", "[I", true)
  | 5 => ("SwingDeskModel", "lifted", "[I", true)
  | 6 => ("SwingDeskModel", "people", "I", false)
  | 7 => ("SwingDeskModel", "kind", "[I", true)
  | 8 => ("SwingDeskModel", "size", "[I", true)
  | 9 => ("SwingDeskModel", "owns", "[I", true)
  | 10 => ("SwingDeskModel", "done", "[I", true)
  | 11 => ("SwingDeskModel", "rehearsed", "[I", true)
  | 12 => ("SwingDeskModel", "feuds", "[I", true)
  | 13 => ("SwingDeskModel", "outs", "[I", true)
  | 14 => ("SwingDeskModel", "today", "I", false)
  | 15 => ("SwingDeskModel", "hasCast", "Z", false)
  | 16 => ("SwingDeskModel", "cast", "[I", true)
  | 17 => ("SwingDeskModel", "holders", "[I", true)
  | 18 => ("SwingDeskModel", "places", "[I", true)
  | 19 => ("SwingDeskModel", "numbers", "[I", true)
  | 20 => ("SwingDeskModel", "trial", "[I", true)
  | 21 => ("SwingDeskModel", "best", "[I", true)
  | 22 => ("SwingDeskModel", "bestLoss", "I", false)
  | 23 => ("SwingDeskModel", "triesLeft", "I", false)
  | 24 => ("SwingDeskModel", "isSpent", "Z", false)
  | 25 => ("SwingDeskModel", "least", "[I", true)
  | 26 => ("SwingDeskModel", "power", "[I", true)
  | _ => ("SwingDeskModel", "carried", "[I", true)
def gt_SwingDeskModel : Nat → FieldType := fun k => match k with
  | 0 => .int
  | 1 => .array .int
  | 2 => .array .int
  | 3 => .array .int
  | 4 => .array .int
  | 5 => .array .int
  | 6 => .int
  | 7 => .array .int
  | 8 => .array .int
  | 9 => .array .int
  | 10 => .array .int
  | 11 => .array .int
  | 12 => .array .int
  | 13 => .array .int
  | 14 => .int
  | 15 => .boolean
  | 16 => .array .int
  | 17 => .array .int
  | 18 => .array .int
  | 19 => .array .int
  | 20 => .array .int
  | 21 => .array .int
  | 22 => .int
  | 23 => .int
  | 24 => .boolean
  | 25 => .array .int
  | 26 => .array .int
  | _ => .array .int
abbrev gcl : List vw_C := [(gR_CastSearch, gF_CastSearch, 14), (gR_Company, gF_Company, 9), (gR_Night, gF_Night, 5), (gR_PutIns, gF_PutIns, 7), (gR_Sheet, gF_Sheet, 2), (gR_Show, gF_Show, 6), (gR_SwingDesk, gF_SwingDesk, 6), (gR_SwingDeskModel, gF_SwingDeskModel, 28)]
def gT : List Cond := lw_tbl.filter goodWord
theorem gT_of {i : Nat} {w : Cond} (h : lw_tbl[i]? = some w) (hg : goodWord w = true) : w ∈ gT := List.mem_filter.mpr ⟨List.mem_of_getElem? h, hg⟩
theorem gn_CastSearch : ∀ a, a < 14 → ∀ b, b < 14 → a ≠ b → (gF_CastSearch a).2.1 ≠ (gF_CastSearch b).2.1 := by decide +kernel
theorem gty_CastSearch : ∀ k, k < 14 → parseFieldDescriptor (gF_CastSearch k).2.2.1 = some (gt_CastSearch k) := by decide +kernel
theorem gl_CastSearch : ∀ k, k < 14 → lw_tbl[([179, 181, 183, 185, 187, 189, 191, 193, 195, 197, 199, 201, 203, 205] : List Nat).getD k 0]? = some (u_lay gR_CastSearch gF_CastSearch k) ∧ goodWord (u_lay gR_CastSearch gF_CastSearch k) = true := by decide +kernel
theorem gi_CastSearch : ∀ w ∈ u_ws gR_CastSearch gF_CastSearch 14, w ∈ gT := by
  intro w hw
  obtain ⟨k, hk, rfl⟩ := List.mem_map.mp hw
  obtain ⟨h1, h2⟩ := gl_CastSearch k (List.mem_range.mp hk)
  exact gT_of h1 h2
theorem gn_Company : ∀ a, a < 9 → ∀ b, b < 9 → a ≠ b → (gF_Company a).2.1 ≠ (gF_Company b).2.1 := by decide +kernel
theorem gty_Company : ∀ k, k < 9 → parseFieldDescriptor (gF_Company k).2.2.1 = some (gt_Company k) := by decide +kernel
theorem gl_Company : ∀ k, k < 9 → lw_tbl[([116, 118, 120, 122, 124, 126, 128, 130, 132] : List Nat).getD k 0]? = some (u_lay gR_Company gF_Company k) ∧ goodWord (u_lay gR_Company gF_Company k) = true := by decide +kernel
theorem gi_Company : ∀ w ∈ u_ws gR_Company gF_Company 9, w ∈ gT := by
  intro w hw
  obtain ⟨k, hk, rfl⟩ := List.mem_map.mp hw
  obtain ⟨h1, h2⟩ := gl_Company k (List.mem_range.mp hk)
  exact gT_of h1 h2
theorem gn_Night : ∀ a, a < 5 → ∀ b, b < 5 → a ≠ b → (gF_Night a).2.1 ≠ (gF_Night b).2.1 := by decide +kernel
theorem gty_Night : ∀ k, k < 5 → parseFieldDescriptor (gF_Night k).2.2.1 = some (gt_Night k) := by decide +kernel
theorem gl_Night : ∀ k, k < 5 → lw_tbl[([148, 150, 152, 154, 156] : List Nat).getD k 0]? = some (u_lay gR_Night gF_Night k) ∧ goodWord (u_lay gR_Night gF_Night k) = true := by decide +kernel
theorem gi_Night : ∀ w ∈ u_ws gR_Night gF_Night 5, w ∈ gT := by
  intro w hw
  obtain ⟨k, hk, rfl⟩ := List.mem_map.mp hw
  obtain ⟨h1, h2⟩ := gl_Night k (List.mem_range.mp hk)
  exact gT_of h1 h2
theorem gn_PutIns : ∀ a, a < 7 → ∀ b, b < 7 → a ≠ b → (gF_PutIns a).2.1 ≠ (gF_PutIns b).2.1 := by decide +kernel
theorem gty_PutIns : ∀ k, k < 7 → parseFieldDescriptor (gF_PutIns k).2.2.1 = some (gt_PutIns k) := by decide +kernel
theorem gl_PutIns : ∀ k, k < 7 → lw_tbl[([221, 223, 225, 227, 229, 231, 233] : List Nat).getD k 0]? = some (u_lay gR_PutIns gF_PutIns k) ∧ goodWord (u_lay gR_PutIns gF_PutIns k) = true := by decide +kernel
theorem gi_PutIns : ∀ w ∈ u_ws gR_PutIns gF_PutIns 7, w ∈ gT := by
  intro w hw
  obtain ⟨k, hk, rfl⟩ := List.mem_map.mp hw
  obtain ⟨h1, h2⟩ := gl_PutIns k (List.mem_range.mp hk)
  exact gT_of h1 h2
theorem gn_Sheet : ∀ a, a < 2 → ∀ b, b < 2 → a ≠ b → (gF_Sheet a).2.1 ≠ (gF_Sheet b).2.1 := by decide +kernel
theorem gty_Sheet : ∀ k, k < 2 → parseFieldDescriptor (gF_Sheet k).2.2.1 = some (gt_Sheet k) := by decide +kernel
theorem gl_Sheet : ∀ k, k < 2 → lw_tbl[([246, 248] : List Nat).getD k 0]? = some (u_lay gR_Sheet gF_Sheet k) ∧ goodWord (u_lay gR_Sheet gF_Sheet k) = true := by decide +kernel
theorem gi_Sheet : ∀ w ∈ u_ws gR_Sheet gF_Sheet 2, w ∈ gT := by
  intro w hw
  obtain ⟨k, hk, rfl⟩ := List.mem_map.mp hw
  obtain ⟨h1, h2⟩ := gl_Sheet k (List.mem_range.mp hk)
  exact gT_of h1 h2
theorem gn_Show : ∀ a, a < 6 → ∀ b, b < 6 → a ≠ b → (gF_Show a).2.1 ≠ (gF_Show b).2.1 := by decide +kernel
theorem gty_Show : ∀ k, k < 6 → parseFieldDescriptor (gF_Show k).2.2.1 = some (gt_Show k) := by decide +kernel
theorem gl_Show : ∀ k, k < 6 → lw_tbl[([85, 87, 89, 91, 93, 95] : List Nat).getD k 0]? = some (u_lay gR_Show gF_Show k) ∧ goodWord (u_lay gR_Show gF_Show k) = true := by decide +kernel
theorem gi_Show : ∀ w ∈ u_ws gR_Show gF_Show 6, w ∈ gT := by
  intro w hw
  obtain ⟨k, hk, rfl⟩ := List.mem_map.mp hw
  obtain ⟨h1, h2⟩ := gl_Show k (List.mem_range.mp hk)
  exact gT_of h1 h2
theorem gn_SwingDesk : ∀ a, a < 6 → ∀ b, b < 6 → a ≠ b → (gF_SwingDesk a).2.1 ≠ (gF_SwingDesk b).2.1 := by decide +kernel
theorem gty_SwingDesk : ∀ k, k < 6 → parseFieldDescriptor (gF_SwingDesk k).2.2.1 = some (gt_SwingDesk k) := by decide +kernel
theorem gl_SwingDesk : ∀ k, k < 6 → lw_tbl[([258, 260, 262, 264, 266, 268] : List Nat).getD k 0]? = some (u_lay gR_SwingDesk gF_SwingDesk k) ∧ goodWord (u_lay gR_SwingDesk gF_SwingDesk k) = true := by decide +kernel
theorem gi_SwingDesk : ∀ w ∈ u_ws gR_SwingDesk gF_SwingDesk 6, w ∈ gT := by
  intro w hw
  obtain ⟨k, hk, rfl⟩ := List.mem_map.mp hw
  obtain ⟨h1, h2⟩ := gl_SwingDesk k (List.mem_range.mp hk)
  exact gT_of h1 h2
theorem gn_SwingDeskModel : ∀ a, a < 28 → ∀ b, b < 28 → a ≠ b → (gF_SwingDeskModel a).2.1 ≠ (gF_SwingDeskModel b).2.1 := by decide +kernel
theorem gty_SwingDeskModel : ∀ k, k < 28 → parseFieldDescriptor (gF_SwingDeskModel k).2.2.1 = some (gt_SwingDeskModel k) := by decide +kernel
theorem gl_SwingDeskModel : ∀ k, k < 28 → lw_tbl[([890, 892, 894, 896, 898, 900, 902, 904, 906, 908, 910, 912, 914, 916, 918, 920, 922, 924, 926, 928, 930, 932, 934, 936, 938, 940, 942, 944] : List Nat).getD k 0]? = some (u_lay gR_SwingDeskModel gF_SwingDeskModel k) ∧ goodWord (u_lay gR_SwingDeskModel gF_SwingDeskModel k) = true := by decide +kernel
theorem gi_SwingDeskModel : ∀ w ∈ u_ws gR_SwingDeskModel gF_SwingDeskModel 28, w ∈ gT := by
  intro w hw
  obtain ⟨k, hk, rfl⟩ := List.mem_map.mp hw
  obtain ⟨h1, h2⟩ := gl_SwingDeskModel k (List.mem_range.mp hk)
  exact gT_of h1 h2
def gNest : List Cond := [.methodLinkNest "SwingDesk$Show" 43 (⟨"SwingDesk", "isCue", "(I)Z"⟩ : MethodName) "SwingDesk", .methodLinkNest "SwingDesk$Sheet" 19 (⟨"SwingDesk", "isWithin", "(III)Z"⟩ : MethodName) "SwingDesk", .methodLinkNest "SwingDesk$Company" 62 (⟨"SwingDesk", "isWithin", "(III)Z"⟩ : MethodName) "SwingDesk", .methodLinkNest "SwingDesk$Night" 60 (⟨"SwingDesk", "isCue", "(I)Z"⟩ : MethodName) "SwingDesk", .methodLinkNest "SwingDesk$PutIns" 70 (⟨"SwingDesk", "isWithin", "(III)Z"⟩ : MethodName) "SwingDesk"]
theorem gNest_in : ∀ w ∈ gNest, w ∈ lw_tbl := by
  intro w hw
  simp only [gNest, List.mem_cons, List.not_mem_nil, or_false] at hw
  rcases hw with rfl | rfl | rfl | rfl | rfl
  · exact List.mem_of_getElem? (i := 304) (by decide +kernel)
  · exact List.mem_of_getElem? (i := 357) (by decide +kernel)
  · exact List.mem_of_getElem? (i := 427) (by decide +kernel)
  · exact List.mem_of_getElem? (i := 642) (by decide +kernel)
  · exact List.mem_of_getElem? (i := 776) (by decide +kernel)
theorem gAO_in : Cond.arrayOver (.object "SwingDesk$Sheet") ∈ lw_tbl := List.mem_of_getElem? (i := 238) (by decide +kernel)
def gN (U : State) : Prop := (∀ w ∈ gNest, va_Nw w U) ∧ va_AO "SwingDesk$Sheet" U
theorem gN_warm {s U : State} (hW : s.WarmedH U.vm) (h : gN s) : gN U := by
  refine ⟨fun w hw => ?_, h.2.moved hW.alike⟩
  have h1 := h.1 w hw
  simp only [gNest, List.mem_cons, List.not_mem_nil, or_false] at hw
  rcases hw with rfl | rfl | rfl | rfl | rfl <;> exact va_Nw.warmM hW h1
theorem gN_same {s U : State} (e : s.vm = U.vm) (h : gN s) : gN U := by
  refine ⟨fun w hw => ?_, h.2.moved (by rw [e]; exact Vm.Alike.refl _)⟩
  have h1 := h.1 w hw
  simp only [gNest, List.mem_cons, List.not_mem_nil, or_false] at hw
  rcases hw with rfl | rfl | rfl | rfl | rfl <;> exact va_Nw.same rfl e h1
