/-! classes and fields, by program out of the claim's tables -/
theorem sv_inP (ws : List Jvm.Cond) (ps : List Nat) (hp : ws = ps.filterMap (fun i => lw_tbl[i]?)) (h : ws.all goodWord = true) : ∀ w ∈ ws, w ∈ lw_tbl.filter goodWord := by
  intro w hw
  have h1 := List.all_eq_true.mp h w hw
  rw [hp] at hw
  obtain ⟨i, -, hi⟩ := List.mem_filterMap.mp hw
  exact List.mem_filter.mpr ⟨List.mem_of_getElem? hi, h1⟩
def sv_Ts : List Jvm.Cond := lw_tbl.filter goodWord
def RX0 : String := "KeptApart$Cargo"
def TX0 : u_T := fun k => match k with
  | 0 => ("KeptApart$Cargo", "boxes", "I", false)
  | 1 => ("KeptApart$Cargo", "kinds", "[I", true)
  | 2 => ("KeptApart$Cargo", "weights", "[I", true)
  | 3 => ("KeptApart$Cargo", "ports", "[I", true)
  | 4 => ("KeptApart$Cargo", "placeRow", "[I", true)
  | _ => ("KeptApart$Cargo", "boxRow", "[I", true)
def tyX0 : Nat → FieldType := fun k => match k with
  | 0 => .int
  | 1 => .array .int
  | 2 => .array .int
  | 3 => .array .int
  | 4 => .array .int
  | _ => .array .int
theorem nmX0 : ∀ a, a < 6 → ∀ b, b < 6 → a ≠ b → (TX0 a).2.1 ≠ (TX0 b).2.1 := by decide +kernel
theorem tyX0_ok : ∀ k, k < 6 → parseFieldDescriptor (TX0 k).2.2.1 = some (tyX0 k) := by decide +kernel
theorem inX0 : ∀ w ∈ u_ws RX0 TX0 6, w ∈ sv_Ts := sv_inP _ [330, 332, 334, 336, 338, 340] (by decide +kernel) (by decide +kernel)
def RX1 : String := "KeptApart$History"
def TX1 : u_T := fun k => match k with
  | 0 => ("KeptApart$History", "size", "I", false)
  | 1 => ("KeptApart$History", "slot", "I", false)
  | _ => ("KeptApart$History", "kept", "[I", true)
def tyX1 : Nat → FieldType := fun k => match k with
  | 0 => .int
  | 1 => .int
  | _ => .array .int
theorem nmX1 : ∀ a, a < 3 → ∀ b, b < 3 → a ≠ b → (TX1 a).2.1 ≠ (TX1 b).2.1 := by decide +kernel
theorem tyX1_ok : ∀ k, k < 3 → parseFieldDescriptor (TX1 k).2.2.1 = some (tyX1 k) := by decide +kernel
theorem inX1 : ∀ w ∈ u_ws RX1 TX1 3, w ∈ sv_Ts := sv_inP _ [399, 401, 403] (by decide +kernel) (by decide +kernel)
def RX2 : String := "KeptApart$Hull"
def TX2 : u_T := fun k => match k with
  | 0 => ("KeptApart$Hull", "bays", "I", false)
  | 1 => ("KeptApart$Hull", "rows", "I", false)
  | 2 => ("KeptApart$Hull", "hold", "I", false)
  | 3 => ("KeptApart$Hull", "deck", "I", false)
  | 4 => ("KeptApart$Hull", "places", "I", false)
  | 5 => ("KeptApart$Hull", "bearsHold", "I", false)
  | 6 => ("KeptApart$Hull", "bearsDeck", "I", false)
  | 7 => ("KeptApart$Hull", "bearsTold", "Z", false)
  | 8 => ("KeptApart$Hull", "bayRow", "[I", true)
  | 9 => ("KeptApart$Hull", "rowRow", "[I", true)
  | 10 => ("KeptApart$Hull", "tierRow", "[I", true)
  | 11 => ("KeptApart$Hull", "shutAhead", "[I", true)
  | _ => ("KeptApart$Hull", "walls", "[I", true)
def tyX2 : Nat → FieldType := fun k => match k with
  | 0 => .int
  | 1 => .int
  | 2 => .int
  | 3 => .int
  | 4 => .int
  | 5 => .int
  | 6 => .int
  | 7 => .boolean
  | 8 => .array .int
  | 9 => .array .int
  | 10 => .array .int
  | 11 => .array .int
  | _ => .array .int
theorem nmX2 : ∀ a, a < 13 → ∀ b, b < 13 → a ≠ b → (TX2 a).2.1 ≠ (TX2 b).2.1 := by decide +kernel
theorem tyX2_ok : ∀ k, k < 13 → parseFieldDescriptor (TX2 k).2.2.1 = some (tyX2 k) := by decide +kernel
theorem inX2 : ∀ w ∈ u_ws RX2 TX2 13, w ∈ sv_Ts := sv_inP _ [247, 249, 251, 253, 255, 257, 259, 261, 263, 265, 267, 269, 271] (by decide +kernel) (by decide +kernel)
def RX3 : String := "KeptApart$Loader"
def TX3 : u_T := fun k => match k with
  | 0 => ("KeptApart$Loader", "isTold", "Z", false)
  | 1 => ("KeptApart$Loader", "told", "[I", true)
  | 2 => ("KeptApart$Loader", "list", "[I", true)
  | 3 => ("KeptApart$Loader", "row", "[I", true)
  | 4 => ("KeptApart$Loader", "bestRow", "[I", true)
  | 5 => ("KeptApart$Loader", "listed", "I", false)
  | 6 => ("KeptApart$Loader", "leastRejected", "I", false)
  | 7 => ("KeptApart$Loader", "done", "I", false)
  | _ => ("KeptApart$Loader", "limit", "I", false)
def tyX3 : Nat → FieldType := fun k => match k with
  | 0 => .boolean
  | 1 => .array .int
  | 2 => .array .int
  | 3 => .array .int
  | 4 => .array .int
  | 5 => .int
  | 6 => .int
  | 7 => .int
  | _ => .int
theorem nmX3 : ∀ a, a < 9 → ∀ b, b < 9 → a ≠ b → (TX3 a).2.1 ≠ (TX3 b).2.1 := by decide +kernel
theorem tyX3_ok : ∀ k, k < 9 → parseFieldDescriptor (TX3 k).2.2.1 = some (tyX3 k) := by decide +kernel
theorem inX3 : ∀ w ∈ u_ws RX3 TX3 9, w ∈ sv_Ts := sv_inP _ [422, 424, 426, 428, 430, 432, 434, 436, 438] (by decide +kernel) (by decide +kernel)
def RX4 : String := "KeptApart$Page"
def TX4 : u_T := fun k => match k with
  | 0 => ("KeptApart$Page", "size", "I", false)
  | _ => ("KeptApart$Page", "bytes", "[I", true)
def tyX4 : Nat → FieldType := fun k => match k with
  | 0 => .int
  | _ => .array .int
theorem nmX4 : ∀ a, a < 2 → ∀ b, b < 2 → a ≠ b → (TX4 a).2.1 ≠ (TX4 b).2.1 := by decide +kernel
theorem tyX4_ok : ∀ k, k < 2 → parseFieldDescriptor (TX4 k).2.2.1 = some (tyX4 k) := by decide +kernel
theorem inX4 : ∀ w ∈ u_ws RX4 TX4 2, w ∈ sv_Ts := sv_inP _ [503, 505] (by decide +kernel) (by decide +kernel)
def RX5 : String := "KeptApart$Reader"
def TX5 : u_T := fun k => match k with
  | 0 => ("KeptApart$Reader", "fault", "I", false)
  | 1 => ("KeptApart$Reader", "faultPlace", "I", false)
  | 2 => ("KeptApart$Reader", "tape", "LKeptApart$Tape;", true)
  | _ => ("KeptApart$Reader", "draft", "LKeptApart$Vessel;", false)
def tyX5 : Nat → FieldType := fun k => match k with
  | 0 => .int
  | 1 => .int
  | 2 => .object "KeptApart$Tape"
  | _ => .object "KeptApart$Vessel"
theorem nmX5 : ∀ a, a < 4 → ∀ b, b < 4 → a ≠ b → (TX5 a).2.1 ≠ (TX5 b).2.1 := by decide +kernel
theorem tyX5_ok : ∀ k, k < 4 → parseFieldDescriptor (TX5 k).2.2.1 = some (tyX5 k) := by decide +kernel
theorem inX5 : ∀ w ∈ u_ws RX5 TX5 4, w ∈ sv_Ts := sv_inP _ [380, 382, 384, 386] (by decide +kernel) (by decide +kernel)
def RX6 : String := "KeptApart$Rules"
def TX6 : u_T := fun k => match k with
  | 0 => ("KeptApart$Rules", "kinds", "I", false)
  | 1 => ("KeptApart$Rules", "across", "[I", true)
  | 2 => ("KeptApart$Rules", "along", "[I", true)
  | 3 => ("KeptApart$Rules", "walls", "[I", true)
  | 4 => ("KeptApart$Rules", "hatch", "[I", true)
  | 5 => ("KeptApart$Rules", "where", "[I", true)
  | 6 => ("KeptApart$Rules", "table", "[I", true)
  | _ => ("KeptApart$Rules", "chosen", "[I", true)
def tyX6 : Nat → FieldType := fun k => match k with
  | 0 => .int
  | 1 => .array .int
  | 2 => .array .int
  | 3 => .array .int
  | 4 => .array .int
  | 5 => .array .int
  | 6 => .array .int
  | _ => .array .int
theorem nmX6 : ∀ a, a < 8 → ∀ b, b < 8 → a ≠ b → (TX6 a).2.1 ≠ (TX6 b).2.1 := by decide +kernel
theorem tyX6_ok : ∀ k, k < 8 → parseFieldDescriptor (TX6 k).2.2.1 = some (tyX6 k) := by decide +kernel
theorem inX6 : ∀ w ∈ u_ws RX6 TX6 8, w ∈ sv_Ts := sv_inP _ [294, 296, 298, 300, 302, 304, 306, 308] (by decide +kernel) (by decide +kernel)
def RX7 : String := "KeptApart$Shifter"
def TX7 : u_T := fun k => match k with
  | 0 => ("KeptApart$Shifter", "shown", "I", false)
  | 1 => ("KeptApart$Shifter", "shownLate", "I", false)
  | 2 => ("KeptApart$Shifter", "shownBoxes", "[I", true)
  | 3 => ("KeptApart$Shifter", "shownPlaces", "[I", true)
  | 4 => ("KeptApart$Shifter", "boxes", "[I", true)
  | 5 => ("KeptApart$Shifter", "places", "[I", true)
  | 6 => ("KeptApart$Shifter", "latePlace", "I", false)
  | 7 => ("KeptApart$Shifter", "done", "I", false)
  | _ => ("KeptApart$Shifter", "limit", "I", false)
def tyX7 : Nat → FieldType := fun k => match k with
  | 0 => .int
  | 1 => .int
  | 2 => .array .int
  | 3 => .array .int
  | 4 => .array .int
  | 5 => .array .int
  | 6 => .int
  | 7 => .int
  | _ => .int
theorem nmX7 : ∀ a, a < 9 → ∀ b, b < 9 → a ≠ b → (TX7 a).2.1 ≠ (TX7 b).2.1 := by decide +kernel
theorem tyX7_ok : ∀ k, k < 9 → parseFieldDescriptor (TX7 k).2.2.1 = some (tyX7 k) := by decide +kernel
theorem inX7 : ∀ w ∈ u_ws RX7 TX7 9, w ∈ sv_Ts := sv_inP _ [456, 458, 460, 462, 464, 466, 468, 470, 472] (by decide +kernel) (by decide +kernel)
def RX8 : String := "KeptApart$Survey"
def TX8 : u_T := fun k => match k with
  | 0 => ("KeptApart$Survey", "reached", "[I", true)
  | 1 => ("KeptApart$Survey", "isReached", "[I", true)
  | 2 => ("KeptApart$Survey", "pile", "[I", true)
  | _ => ("KeptApart$Survey", "cameBack", "[I", true)
def tyX8 : Nat → FieldType := fun k => match k with
  | 0 => .array .int
  | 1 => .array .int
  | 2 => .array .int
  | _ => .array .int
theorem nmX8 : ∀ a, a < 4 → ∀ b, b < 4 → a ≠ b → (TX8 a).2.1 ≠ (TX8 b).2.1 := by decide +kernel
theorem tyX8_ok : ∀ k, k < 4 → parseFieldDescriptor (TX8 k).2.2.1 = some (tyX8 k) := by decide +kernel
theorem inX8 : ∀ w ∈ u_ws RX8 TX8 4, w ∈ sv_Ts := sv_inP _ [485, 487, 489, 491] (by decide +kernel) (by decide +kernel)
def RX9 : String := "KeptApart$Tape"
def TX9 : u_T := fun k => match k with
  | 0 => ("KeptApart$Tape", "bytes", "[I", true)
  | 1 => ("KeptApart$Tape", "size", "I", false)
  | 2 => ("KeptApart$Tape", "sort", "I", false)
  | 3 => ("KeptApart$Tape", "from", "I", false)
  | 4 => ("KeptApart$Tape", "value", "I", false)
  | _ => ("KeptApart$Tape", "to", "I", false)
def tyX9 : Nat → FieldType := fun k => match k with
  | 0 => .array .int
  | 1 => .int
  | 2 => .int
  | 3 => .int
  | 4 => .int
  | _ => .int
theorem nmX9 : ∀ a, a < 6 → ∀ b, b < 6 → a ≠ b → (TX9 a).2.1 ≠ (TX9 b).2.1 := by decide +kernel
theorem tyX9_ok : ∀ k, k < 6 → parseFieldDescriptor (TX9 k).2.2.1 = some (tyX9 k) := by decide +kernel
theorem inX9 : ∀ w ∈ u_ws RX9 TX9 6, w ∈ sv_Ts := sv_inP _ [182, 184, 186, 188, 190, 192] (by decide +kernel) (by decide +kernel)
def RX10 : String := "KeptApart$Vessel"
def TX10 : u_T := fun k => match k with
  | 0 => ("KeptApart$Vessel", "hull", "LKeptApart$Hull;", true)
  | 1 => ("KeptApart$Vessel", "rules", "LKeptApart$Rules;", true)
  | 2 => ("KeptApart$Vessel", "cargo", "LKeptApart$Cargo;", true)
  | _ => ("KeptApart$Vessel", "wallsKept", "[I", true)
def tyX10 : Nat → FieldType := fun k => match k with
  | 0 => .object "KeptApart$Hull"
  | 1 => .object "KeptApart$Rules"
  | 2 => .object "KeptApart$Cargo"
  | _ => .array .int
theorem nmX10 : ∀ a, a < 4 → ∀ b, b < 4 → a ≠ b → (TX10 a).2.1 ≠ (TX10 b).2.1 := by decide +kernel
theorem tyX10_ok : ∀ k, k < 4 → parseFieldDescriptor (TX10 k).2.2.1 = some (tyX10 k) := by decide +kernel
theorem inX10 : ∀ w ∈ u_ws RX10 TX10 4, w ∈ sv_Ts := sv_inP _ [364, 366, 368, 370] (by decide +kernel) (by decide +kernel)
def RX11 : String := "KeptApart"
def TX11 : u_T := fun k => match k with
  | 0 => ("KeptApart", "reader", "LKeptApart$Reader;", true)
  | 1 => ("KeptApart", "history", "LKeptApart$History;", true)
  | 2 => ("KeptApart", "loader", "LKeptApart$Loader;", true)
  | 3 => ("KeptApart", "shifter", "LKeptApart$Shifter;", true)
  | 4 => ("KeptApart", "survey", "LKeptApart$Survey;", true)
  | 5 => ("KeptApart", "page", "LKeptApart$Page;", true)
  | 6 => ("KeptApart", "vessel", "LKeptApart$Vessel;", false)
  | _ => ("KeptApart", "afloat", "Z", false)
def tyX11 : Nat → FieldType := fun k => match k with
  | 0 => .object "KeptApart$Reader"
  | 1 => .object "KeptApart$History"
  | 2 => .object "KeptApart$Loader"
  | 3 => .object "KeptApart$Shifter"
  | 4 => .object "KeptApart$Survey"
  | 5 => .object "KeptApart$Page"
  | 6 => .object "KeptApart$Vessel"
  | _ => .boolean
theorem nmX11 : ∀ a, a < 8 → ∀ b, b < 8 → a ≠ b → (TX11 a).2.1 ≠ (TX11 b).2.1 := by decide +kernel
theorem tyX11_ok : ∀ k, k < 8 → parseFieldDescriptor (TX11 k).2.2.1 = some (tyX11 k) := by decide +kernel
theorem inX11 : ∀ w ∈ u_ws RX11 TX11 8, w ∈ sv_Ts := sv_inP _ [518, 520, 522, 524, 526, 528, 530, 532] (by decide +kernel) (by decide +kernel)
def RX12 : String := "KeptApartModel"
def TX12 : u_T := fun k => match k with
  | 0 => ("KeptApartModel", "thrown", "I", false)
  | 1 => ("KeptApartModel", "isThere", "Z", false)
  | 2 => ("KeptApartModel", "ship", "[I", true)
  | 3 => ("KeptApartModel", "fresh", "[I", true)
  | 4 => ("KeptApartModel", "freshBox", "[I", true)
  | 5 => ("KeptApartModel", "bearsTold", "Z", false)
  | 6 => ("KeptApartModel", "boxes", "I", false)
  | 7 => ("KeptApartModel", "kindOf", "[I", true)
  | 8 => ("KeptApartModel", "weightOf", "[I", true)
  | 9 => ("KeptApartModel", "portOf", "[I", true)
  | 10 => ("KeptApartModel", "placeOf", "[I", true)
  | 11 => ("KeptApartModel", "open", "I", false)
  | 12 => ("KeptApartModel", "lying", "[I", true)
  | 13 => ("KeptApartModel", "tape", "[B", true)
  | 14 => ("KeptApartModel", "taped", "I", false)
  | 15 => ("KeptApartModel", "size", "I", false)
  | 16 => ("KeptApartModel", "at", "I", false)
  | 17 => ("KeptApartModel", "from", "I", false)
  | 18 => ("KeptApartModel", "token", "I", false)
  | 19 => ("KeptApartModel", "value", "I", false)
  | 20 => ("KeptApartModel", "faultKind", "I", false)
  | 21 => ("KeptApartModel", "faultPlace", "I", false)
  | 22 => ("KeptApartModel", "acts", "I", false)
  | 23 => ("KeptApartModel", "kept", "[I", true)
  | 24 => ("KeptApartModel", "putsDone", "I", false)
  | 25 => ("KeptApartModel", "putsMost", "I", false)
  | 26 => ("KeptApartModel", "isLong", "Z", false)
  | 27 => ("KeptApartModel", "waiting", "I", false)
  | 28 => ("KeptApartModel", "waits", "[I", true)
  | 29 => ("KeptApartModel", "row", "[I", true)
  | 30 => ("KeptApartModel", "bestRejected", "I", false)
  | 31 => ("KeptApartModel", "bestRow", "[I", true)
  | 32 => ("KeptApartModel", "isTold", "Z", false)
  | 33 => ("KeptApartModel", "isOfTold", "[Z", true)
  | 34 => ("KeptApartModel", "toldAt", "[I", true)
  | 35 => ("KeptApartModel", "lateKind", "I", false)
  | 36 => ("KeptApartModel", "lateWeight", "I", false)
  | 37 => ("KeptApartModel", "shownMany", "I", false)
  | 38 => ("KeptApartModel", "shown", "[I", true)
  | 39 => ("KeptApartModel", "latePut", "I", false)
  | 40 => ("KeptApartModel", "shifted", "[I", true)
  | 41 => ("KeptApartModel", "bayFor", "[I", true)
  | 42 => ("KeptApartModel", "isReached", "[Z", true)
  | 43 => ("KeptApartModel", "pile", "[I", true)
  | 44 => ("KeptApartModel", "voyaged", "[I", true)
  | 45 => ("KeptApartModel", "told", "[B", true)
  | _ => ("KeptApartModel", "toldMany", "I", false)
def tyX12 : Nat → FieldType := fun k => match k with
  | 0 => .int
  | 1 => .boolean
  | 2 => .array .int
  | 3 => .array .int
  | 4 => .array .int
  | 5 => .boolean
  | 6 => .int
  | 7 => .array .int
  | 8 => .array .int
  | 9 => .array .int
  | 10 => .array .int
  | 11 => .int
  | 12 => .array .int
  | 13 => .array .byte
  | 14 => .int
  | 15 => .int
  | 16 => .int
  | 17 => .int
  | 18 => .int
  | 19 => .int
  | 20 => .int
  | 21 => .int
  | 22 => .int
  | 23 => .array .int
  | 24 => .int
  | 25 => .int
  | 26 => .boolean
  | 27 => .int
  | 28 => .array .int
  | 29 => .array .int
  | 30 => .int
  | 31 => .array .int
  | 32 => .boolean
  | 33 => .array .boolean
  | 34 => .array .int
  | 35 => .int
  | 36 => .int
  | 37 => .int
  | 38 => .array .int
  | 39 => .int
  | 40 => .array .int
  | 41 => .array .int
  | 42 => .array .boolean
  | 43 => .array .int
  | 44 => .array .int
  | 45 => .array .byte
  | _ => .int
theorem nmX12 : ∀ a, a < 47 → ∀ b, b < 47 → a ≠ b → (TX12 a).2.1 ≠ (TX12 b).2.1 := by decide +kernel
theorem tyX12_ok : ∀ k, k < 47 → parseFieldDescriptor (TX12 k).2.2.1 = some (tyX12 k) := by decide +kernel
theorem inX12 : ∀ w ∈ u_ws RX12 TX12 47, w ∈ sv_Ts := sv_inP _ [1632, 1634, 1636, 1638, 1640, 1642, 1644, 1646, 1648, 1650, 1652, 1654, 1656, 1658, 1660, 1662, 1664, 1666, 1668, 1670, 1672, 1674, 1676, 1678, 1680, 1682, 1684, 1686, 1688, 1690, 1692, 1694, 1696, 1698, 1700, 1702, 1704, 1706, 1708, 1710, 1712, 1714, 1716, 1718, 1720, 1722, 1724] (by decide +kernel) (by decide +kernel)
abbrev vwCl : List vw_C := [(RX0, TX0, 6), (RX1, TX1, 3), (RX2, TX2, 13), (RX3, TX3, 9), (RX4, TX4, 2), (RX5, TX5, 4), (RX6, TX6, 8), (RX7, TX7, 9), (RX8, TX8, 4), (RX9, TX9, 6), (RX10, TX10, 4), (RX11, TX11, 8), (RX12, TX12, 47)]
def sv_ty : Nat → Nat → FieldType := fun c => match c with
  | 0 => tyX0
  | 1 => tyX1
  | 2 => tyX2
  | 3 => tyX3
  | 4 => tyX4
  | 5 => tyX5
  | 6 => tyX6
  | 7 => tyX7
  | 8 => tyX8
  | 9 => tyX9
  | 10 => tyX10
  | 11 => tyX11
  | _ => tyX12
theorem sv_cls : ∀ (c : Nat) (q : vw_C), vwCl[c]? = some q → (∀ w ∈ u_ws q.1 q.2.1 q.2.2, w ∈ sv_Ts) ∧ (∀ a, a < q.2.2 → ∀ b, b < q.2.2 → a ≠ b → (q.2.1 a).2.1 ≠ (q.2.1 b).2.1) ∧ (∀ k, k < q.2.2 → parseFieldDescriptor (q.2.1 k).2.2.1 = some (sv_ty c k)) := by
  intro c q hq
  match c, hq with
  | 0, hq => cases hq; exact ⟨inX0, nmX0, tyX0_ok⟩
  | 1, hq => cases hq; exact ⟨inX1, nmX1, tyX1_ok⟩
  | 2, hq => cases hq; exact ⟨inX2, nmX2, tyX2_ok⟩
  | 3, hq => cases hq; exact ⟨inX3, nmX3, tyX3_ok⟩
  | 4, hq => cases hq; exact ⟨inX4, nmX4, tyX4_ok⟩
  | 5, hq => cases hq; exact ⟨inX5, nmX5, tyX5_ok⟩
  | 6, hq => cases hq; exact ⟨inX6, nmX6, tyX6_ok⟩
  | 7, hq => cases hq; exact ⟨inX7, nmX7, tyX7_ok⟩
  | 8, hq => cases hq; exact ⟨inX8, nmX8, tyX8_ok⟩
  | 9, hq => cases hq; exact ⟨inX9, nmX9, tyX9_ok⟩
  | 10, hq => cases hq; exact ⟨inX10, nmX10, tyX10_ok⟩
  | 11, hq => cases hq; exact ⟨inX11, nmX11, tyX11_ok⟩
  | 12, hq => cases hq; exact ⟨inX12, nmX12, tyX12_ok⟩
  | k + 13, hq => simp [vwCl] at hq
/-! string constants: their texts by number -/
def sv_txt : List (List Int32) := [[115, 104, 105, 112], [98, 97, 121, 115], [114, 111, 119, 115], [104, 111, 108, 100], [100, 101, 99, 107], [59], [119, 97, 108, 108], [100, 111, 111, 114], [98, 101, 97, 114, 115], [108, 101, 118, 101, 108], [97, 99, 114, 111, 115, 115], [97, 108, 111, 110, 103], [119, 97, 108, 108, 115], [104, 97, 116, 99, 104], [107, 105, 110, 100], [97, 112, 97, 114, 116], [98, 111, 120], [119, 101, 105, 103, 104, 116], [112, 111, 114, 116]]
def sv_len (k : Nat) : Nat := (sv_txt.getD k []).length
def sv_chr (k j : Nat) : Int32 := (sv_txt.getD k []).getD j 0
def sv_strs : List (String × Nat × String × Nat) := [("KeptApart$Reader", 50, "ship", 0), ("KeptApart$Reader", 56, "bays", 1), ("KeptApart$Reader", 62, "rows", 2), ("KeptApart$Reader", 64, "hold", 3), ("KeptApart$Reader", 66, "deck", 4), ("KeptApart$Reader", 199, ";", 5), ("KeptApart$Reader", 88, "wall", 6), ("KeptApart$Reader", 128, "door", 7), ("KeptApart$Reader", 97, "bears", 8), ("KeptApart$Reader", 102, "level", 9), ("KeptApart$Reader", 154, "across", 10), ("KeptApart$Reader", 156, "along", 11), ("KeptApart$Reader", 158, "walls", 12), ("KeptApart$Reader", 160, "hatch", 13), ("KeptApart$Reader", 107, "kind", 14), ("KeptApart$Reader", 112, "apart", 15), ("KeptApart$Reader", 117, "box", 16), ("KeptApart$Reader", 188, "weight", 17), ("KeptApart$Reader", 190, "port", 18), ("KeptApartModel", 169, "ship", 0), ("KeptApartModel", 174, "bays", 1), ("KeptApartModel", 179, "rows", 2), ("KeptApartModel", 181, "hold", 3), ("KeptApartModel", 183, "deck", 4), ("KeptApartModel", 202, "wall", 6), ("KeptApartModel", 185, "door", 7), ("KeptApartModel", 207, "bears", 8), ("KeptApartModel", 213, "level", 9), ("KeptApartModel", 187, "across", 10), ("KeptApartModel", 189, "along", 11), ("KeptApartModel", 191, "walls", 12), ("KeptApartModel", 193, "hatch", 13), ("KeptApartModel", 218, "kind", 14), ("KeptApartModel", 220, "apart", 15), ("KeptApartModel", 225, "box", 16), ("KeptApartModel", 195, "weight", 17), ("KeptApartModel", 197, "port", 18)]
-- texts: ship, bays, rows, hold, deck, ;, wall, door, bears, level, across, along, walls, hatch, kind, apart, box, weight, port
