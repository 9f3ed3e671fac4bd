/-! the words; the classes, their fields; the cells that the two constructors make, in their order: printed by program (wip/whole/mk_world.py) -/
def g_TB : List Cond := lw_tbl.filter goodWord
theorem g_inP {w : Cond} (i : Nat) (h : (k2_sels lw_privs)[i]? = some w) (hg : goodWord w = true) : w ∈ g_TB := List.mem_filter.mpr ⟨List.mem_append_left _ (List.mem_of_getElem? h), hg⟩
theorem g_in0 {w : Cond} (h : w ∈ tables_1) (hg : goodWord w = true) : w ∈ g_TB := List.mem_filter.mpr ⟨List.mem_append_right _ h, hg⟩
theorem g_in1 {w : Cond} (i : Nat) (h : tables_1_1[i]? = some w) (hg : goodWord w = true) : w ∈ g_TB := g_in0 (by unfold tables_1; exact List.mem_append_left _ (List.mem_of_getElem? h)) hg
theorem g_in2 {w : Cond} (i : Nat) (h : tables_1_2[i]? = some w) (hg : goodWord w = true) : w ∈ g_TB := g_in0 (by unfold tables_1; exact List.mem_append_right _ (List.mem_append_left _ (List.mem_of_getElem? h))) hg
theorem g_in3 {w : Cond} (i : Nat) (h : tables_1_3[i]? = some w) (hg : goodWord w = true) : w ∈ g_TB := g_in0 (by unfold tables_1; exact List.mem_append_right _ (List.mem_append_right _ (List.mem_append_left _ (List.mem_of_getElem? h)))) hg
theorem g_in4 {w : Cond} (i : Nat) (h : tables_1_4[i]? = some w) (hg : goodWord w = true) : w ∈ g_TB := g_in0 (by unfold tables_1; exact List.mem_append_right _ (List.mem_append_right _ (List.mem_append_right _ (List.mem_append_left _ (List.mem_of_getElem? h))))) hg
theorem g_in5 {w : Cond} (i : Nat) (h : tables_1_5[i]? = some w) (hg : goodWord w = true) : w ∈ g_TB := g_in0 (by unfold tables_1; exact List.mem_append_right _ (List.mem_append_right _ (List.mem_append_right _ (List.mem_append_right _ (List.mem_append_left _ (List.mem_of_getElem? h)))))) hg
theorem g_in6 {w : Cond} (i : Nat) (h : tables_1_6[i]? = some w) (hg : goodWord w = true) : w ∈ g_TB := g_in0 (by unfold tables_1; exact List.mem_append_right _ (List.mem_append_right _ (List.mem_append_right _ (List.mem_append_right _ (List.mem_append_right _ (List.mem_append_left _ (List.mem_of_getElem? h))))))) hg
theorem g_in7 {w : Cond} (i : Nat) (h : tables_1_7[i]? = some w) (hg : goodWord w = true) : w ∈ g_TB := g_in0 (by unfold tables_1; exact List.mem_append_right _ (List.mem_append_right _ (List.mem_append_right _ (List.mem_append_right _ (List.mem_append_right _ (List.mem_append_right _ (List.mem_append_left _ (List.mem_of_getElem? h)))))))) hg
theorem g_in8 {w : Cond} (i : Nat) (h : tables_1_8[i]? = some w) (hg : goodWord w = true) : w ∈ g_TB := g_in0 (by unfold tables_1; exact List.mem_append_right _ (List.mem_append_right _ (List.mem_append_right _ (List.mem_append_right _ (List.mem_append_right _ (List.mem_append_right _ (List.mem_append_right _ (List.mem_append_left _ (List.mem_of_getElem? h))))))))) hg
theorem g_in9 {w : Cond} (i : Nat) (h : tables_1_9[i]? = some w) (hg : goodWord w = true) : w ∈ g_TB := g_in0 (by unfold tables_1; exact List.mem_append_right _ (List.mem_append_right _ (List.mem_append_right _ (List.mem_append_right _ (List.mem_append_right _ (List.mem_append_right _ (List.mem_append_right _ (List.mem_append_right _ (List.mem_of_getElem? h))))))))) hg
theorem g_good : ∀ w ∈ g_TB, w ∈ g_TB ∧ ((w.onTables && w.keeps) = true ∨ ∃ ty, w = .arrayClass ty) := fun w h => ⟨h, good_of_word (List.mem_filter.mp h).2⟩
def g_T0 : u_T := fun k => match k with
  | 0 => ("OathYesterday", "tape", "LOathYesterday$Tape;", true)
  | 1 => ("OathYesterday", "reader", "LOathYesterday$LandReader;", true)
  | 2 => ("OathYesterday", "oaths", "LOathYesterday$Oaths;", true)
  | 3 => ("OathYesterday", "land", "LOathYesterday$Land;", true)
  | 4 => ("OathYesterday", "annals", "LOathYesterday$Annals;", true)
  | 5 => ("OathYesterday", "kept", "LOathYesterday$Annals;", true)
  | 6 => ("OathYesterday", "court", "LOathYesterday$Court;", true)
  | 7 => ("OathYesterday", "counsel", "LOathYesterday$Counsel;", true)
  | 8 => ("OathYesterday", "ledger", "LOathYesterday$Ledger;", true)
  | 9 => ("OathYesterday", "chances", "LOathYesterday$Chances;", true)
  | 10 => ("OathYesterday", "game", "LOathYesterday$Game;", true)
  | _ => ("OathYesterday", "hasImage", "Z", false)
def g_ty0 : Nat → FieldType := fun k => match k with
  | 0 => .object "OathYesterday$Tape"
  | 1 => .object "OathYesterday$LandReader"
  | 2 => .object "OathYesterday$Oaths"
  | 3 => .object "OathYesterday$Land"
  | 4 => .object "OathYesterday$Annals"
  | 5 => .object "OathYesterday$Annals"
  | 6 => .object "OathYesterday$Court"
  | 7 => .object "OathYesterday$Counsel"
  | 8 => .object "OathYesterday$Ledger"
  | 9 => .object "OathYesterday$Chances"
  | 10 => .object "OathYesterday$Game"
  | _ => .boolean
theorem g_nm0 : ∀ a, a < 12 → ∀ b, b < 12 → a ≠ b → (g_T0 a).2.1 ≠ (g_T0 b).2.1 := by decide +kernel
theorem g_tyok0 : ∀ k, k < 12 → parseFieldDescriptor (g_T0 k).2.2.1 = some (g_ty0 k) := by decide +kernel
theorem g_ly0_0 : u_lay "OathYesterday" g_T0 0 ∈ g_TB := g_in2 57 (by decide +kernel) (by decide +kernel)
theorem g_ly0_1 : u_lay "OathYesterday" g_T0 1 ∈ g_TB := g_in2 59 (by decide +kernel) (by decide +kernel)
theorem g_ly0_2 : u_lay "OathYesterday" g_T0 2 ∈ g_TB := g_in2 61 (by decide +kernel) (by decide +kernel)
theorem g_ly0_3 : u_lay "OathYesterday" g_T0 3 ∈ g_TB := g_in2 63 (by decide +kernel) (by decide +kernel)
theorem g_ly0_4 : u_lay "OathYesterday" g_T0 4 ∈ g_TB := g_in2 65 (by decide +kernel) (by decide +kernel)
theorem g_ly0_5 : u_lay "OathYesterday" g_T0 5 ∈ g_TB := g_in2 67 (by decide +kernel) (by decide +kernel)
theorem g_ly0_6 : u_lay "OathYesterday" g_T0 6 ∈ g_TB := g_in2 69 (by decide +kernel) (by decide +kernel)
theorem g_ly0_7 : u_lay "OathYesterday" g_T0 7 ∈ g_TB := g_in2 71 (by decide +kernel) (by decide +kernel)
theorem g_ly0_8 : u_lay "OathYesterday" g_T0 8 ∈ g_TB := g_in2 73 (by decide +kernel) (by decide +kernel)
theorem g_ly0_9 : u_lay "OathYesterday" g_T0 9 ∈ g_TB := g_in2 75 (by decide +kernel) (by decide +kernel)
theorem g_ly0_10 : u_lay "OathYesterday" g_T0 10 ∈ g_TB := g_in2 77 (by decide +kernel) (by decide +kernel)
theorem g_ly0_11 : u_lay "OathYesterday" g_T0 11 ∈ g_TB := g_in2 79 (by decide +kernel) (by decide +kernel)
theorem g_ws0 : ∀ w ∈ u_ws "OathYesterday" g_T0 12, w ∈ g_TB := by
  intro w h
  obtain ⟨k, hk, rfl⟩ := List.mem_map.mp h
  have hk := List.mem_range.mp hk
  match k, hk with
  | 0, _ => exact g_ly0_0
  | 1, _ => exact g_ly0_1
  | 2, _ => exact g_ly0_2
  | 3, _ => exact g_ly0_3
  | 4, _ => exact g_ly0_4
  | 5, _ => exact g_ly0_5
  | 6, _ => exact g_ly0_6
  | 7, _ => exact g_ly0_7
  | 8, _ => exact g_ly0_8
  | 9, _ => exact g_ly0_9
  | 10, _ => exact g_ly0_10
  | 11, _ => exact g_ly0_11
  | k + 12, h => exact absurd h (by omega)
def g_T1 : u_T := fun k => match k with
  | 0 => ("OathYesterday$Tape", "bytes", "[I", true)
  | 1 => ("OathYesterday$Tape", "length", "I", false)
  | _ => ("OathYesterday$Tape", "place", "I", false)
def g_ty1 : Nat → FieldType := fun k => match k with
  | 0 => .array .int
  | 1 => .int
  | _ => .int
theorem g_nm1 : ∀ a, a < 3 → ∀ b, b < 3 → a ≠ b → (g_T1 a).2.1 ≠ (g_T1 b).2.1 := by decide +kernel
theorem g_tyok1 : ∀ k, k < 3 → parseFieldDescriptor (g_T1 k).2.2.1 = some (g_ty1 k) := by decide +kernel
theorem g_ly1_0 : u_lay "OathYesterday$Tape" g_T1 0 ∈ g_TB := g_in1 41 (by decide +kernel) (by decide +kernel)
theorem g_ly1_1 : u_lay "OathYesterday$Tape" g_T1 1 ∈ g_TB := g_in1 43 (by decide +kernel) (by decide +kernel)
theorem g_ly1_2 : u_lay "OathYesterday$Tape" g_T1 2 ∈ g_TB := g_in1 45 (by decide +kernel) (by decide +kernel)
theorem g_ws1 : ∀ w ∈ u_ws "OathYesterday$Tape" g_T1 3, w ∈ g_TB := by
  intro w h
  obtain ⟨k, hk, rfl⟩ := List.mem_map.mp h
  have hk := List.mem_range.mp hk
  match k, hk with
  | 0, _ => exact g_ly1_0
  | 1, _ => exact g_ly1_1
  | 2, _ => exact g_ly1_2
  | k + 3, h => exact absurd h (by omega)
def g_T2 : u_T := fun k => match k with
  | 0 => ("OathYesterday$LandReader", "traits", "[I", true)
  | 1 => ("OathYesterday$LandReader", "days", "I", false)
  | _ => ("OathYesterday$LandReader", "deeds", "I", false)
def g_ty2 : Nat → FieldType := fun k => match k with
  | 0 => .array .int
  | 1 => .int
  | _ => .int
theorem g_nm2 : ∀ a, a < 3 → ∀ b, b < 3 → a ≠ b → (g_T2 a).2.1 ≠ (g_T2 b).2.1 := by decide +kernel
theorem g_tyok2 : ∀ k, k < 3 → parseFieldDescriptor (g_T2 k).2.2.1 = some (g_ty2 k) := by decide +kernel
theorem g_ly2_0 : u_lay "OathYesterday$LandReader" g_T2 0 ∈ g_TB := g_in1 58 (by decide +kernel) (by decide +kernel)
theorem g_ly2_1 : u_lay "OathYesterday$LandReader" g_T2 1 ∈ g_TB := g_in1 60 (by decide +kernel) (by decide +kernel)
theorem g_ly2_2 : u_lay "OathYesterday$LandReader" g_T2 2 ∈ g_TB := g_in1 62 (by decide +kernel) (by decide +kernel)
theorem g_ws2 : ∀ w ∈ u_ws "OathYesterday$LandReader" g_T2 3, w ∈ g_TB := by
  intro w h
  obtain ⟨k, hk, rfl⟩ := List.mem_map.mp h
  have hk := List.mem_range.mp hk
  match k, hk with
  | 0, _ => exact g_ly2_0
  | 1, _ => exact g_ly2_1
  | 2, _ => exact g_ly2_2
  | k + 3, h => exact absurd h (by omega)
def g_T3 : u_T := fun k => match k with
  | 0 => ("OathYesterday$Oaths", "codes", "[[I", true)
  | 1 => ("OathYesterday$Oaths", "lengths", "[I", true)
  | 2 => ("OathYesterday$Oaths", "named", "[I", true)
  | 3 => ("OathYesterday$Oaths", "gains", "[I", true)
  | _ => ("OathYesterday$Oaths", "count", "I", false)
def g_ty3 : Nat → FieldType := fun k => match k with
  | 0 => .array (.array .int)
  | 1 => .array .int
  | 2 => .array .int
  | 3 => .array .int
  | _ => .int
theorem g_nm3 : ∀ a, a < 5 → ∀ b, b < 5 → a ≠ b → (g_T3 a).2.1 ≠ (g_T3 b).2.1 := by decide +kernel
theorem g_tyok3 : ∀ k, k < 5 → parseFieldDescriptor (g_T3 k).2.2.1 = some (g_ty3 k) := by decide +kernel
theorem g_ly3_0 : u_lay "OathYesterday$Oaths" g_T3 0 ∈ g_TB := g_in1 78 (by decide +kernel) (by decide +kernel)
theorem g_ly3_1 : u_lay "OathYesterday$Oaths" g_T3 1 ∈ g_TB := g_in1 80 (by decide +kernel) (by decide +kernel)
theorem g_ly3_2 : u_lay "OathYesterday$Oaths" g_T3 2 ∈ g_TB := g_in1 82 (by decide +kernel) (by decide +kernel)
theorem g_ly3_3 : u_lay "OathYesterday$Oaths" g_T3 3 ∈ g_TB := g_in1 84 (by decide +kernel) (by decide +kernel)
theorem g_ly3_4 : u_lay "OathYesterday$Oaths" g_T3 4 ∈ g_TB := g_in1 86 (by decide +kernel) (by decide +kernel)
theorem g_ws3 : ∀ w ∈ u_ws "OathYesterday$Oaths" g_T3 5, w ∈ g_TB := by
  intro w h
  obtain ⟨k, hk, rfl⟩ := List.mem_map.mp h
  have hk := List.mem_range.mp hk
  match k, hk with
  | 0, _ => exact g_ly3_0
  | 1, _ => exact g_ly3_1
  | 2, _ => exact g_ly3_2
  | 3, _ => exact g_ly3_3
  | 4, _ => exact g_ly3_4
  | k + 5, h => exact absurd h (by omega)
def g_T4 : u_T := fun k => match k with
  | 0 => ("OathYesterday$Land", "traits", "[I", true)
  | 1 => ("OathYesterday$Land", "options", "[I", true)
  | 2 => ("OathYesterday$Land", "strides", "[I", true)
  | 3 => ("OathYesterday$Land", "seen", "[[J", true)
  | 4 => ("OathYesterday$Land", "days", "I", false)
  | 5 => ("OathYesterday$Land", "deeds", "I", false)
  | _ => ("OathYesterday$Land", "total", "I", false)
def g_ty4 : Nat → FieldType := fun k => match k with
  | 0 => .array .int
  | 1 => .array .int
  | 2 => .array .int
  | 3 => .array (.array .long)
  | 4 => .int
  | 5 => .int
  | _ => .int
theorem g_nm4 : ∀ a, a < 7 → ∀ b, b < 7 → a ≠ b → (g_T4 a).2.1 ≠ (g_T4 b).2.1 := by decide +kernel
theorem g_tyok4 : ∀ k, k < 7 → parseFieldDescriptor (g_T4 k).2.2.1 = some (g_ty4 k) := by decide +kernel
theorem g_ly4_0 : u_lay "OathYesterday$Land" g_T4 0 ∈ g_TB := g_in1 104 (by decide +kernel) (by decide +kernel)
theorem g_ly4_1 : u_lay "OathYesterday$Land" g_T4 1 ∈ g_TB := g_in1 106 (by decide +kernel) (by decide +kernel)
theorem g_ly4_2 : u_lay "OathYesterday$Land" g_T4 2 ∈ g_TB := g_in1 108 (by decide +kernel) (by decide +kernel)
theorem g_ly4_3 : u_lay "OathYesterday$Land" g_T4 3 ∈ g_TB := g_in1 110 (by decide +kernel) (by decide +kernel)
theorem g_ly4_4 : u_lay "OathYesterday$Land" g_T4 4 ∈ g_TB := g_in1 112 (by decide +kernel) (by decide +kernel)
theorem g_ly4_5 : u_lay "OathYesterday$Land" g_T4 5 ∈ g_TB := g_in1 114 (by decide +kernel) (by decide +kernel)
theorem g_ly4_6 : u_lay "OathYesterday$Land" g_T4 6 ∈ g_TB := g_in1 116 (by decide +kernel) (by decide +kernel)
theorem g_ws4 : ∀ w ∈ u_ws "OathYesterday$Land" g_T4 7, w ∈ g_TB := by
  intro w h
  obtain ⟨k, hk, rfl⟩ := List.mem_map.mp h
  have hk := List.mem_range.mp hk
  match k, hk with
  | 0, _ => exact g_ly4_0
  | 1, _ => exact g_ly4_1
  | 2, _ => exact g_ly4_2
  | 3, _ => exact g_ly4_3
  | 4, _ => exact g_ly4_4
  | 5, _ => exact g_ly4_5
  | 6, _ => exact g_ly4_6
  | k + 7, h => exact absurd h (by omega)
def g_T5 : u_T := fun k => match k with
  | 0 => ("OathYesterday$Annals", "sworn", "[I", true)
  | 1 => ("OathYesterday$Annals", "factDeeds", "[I", true)
  | 2 => ("OathYesterday$Annals", "factDays", "[I", true)
  | 3 => ("OathYesterday$Annals", "factTruths", "[Z", true)
  | 4 => ("OathYesterday$Annals", "acts", "[I", true)
  | 5 => ("OathYesterday$Annals", "weights", "[I", true)
  | 6 => ("OathYesterday$Annals", "swornCount", "I", false)
  | _ => ("OathYesterday$Annals", "factCount", "I", false)
def g_ty5 : Nat → FieldType := fun k => match k with
  | 0 => .array .int
  | 1 => .array .int
  | 2 => .array .int
  | 3 => .array .boolean
  | 4 => .array .int
  | 5 => .array .int
  | 6 => .int
  | _ => .int
theorem g_nm5 : ∀ a, a < 8 → ∀ b, b < 8 → a ≠ b → (g_T5 a).2.1 ≠ (g_T5 b).2.1 := by decide +kernel
theorem g_tyok5 : ∀ k, k < 8 → parseFieldDescriptor (g_T5 k).2.2.1 = some (g_ty5 k) := by decide +kernel
theorem g_ly5_0 : u_lay "OathYesterday$Annals" g_T5 0 ∈ g_TB := g_in1 137 (by decide +kernel) (by decide +kernel)
theorem g_ly5_1 : u_lay "OathYesterday$Annals" g_T5 1 ∈ g_TB := g_in1 139 (by decide +kernel) (by decide +kernel)
theorem g_ly5_2 : u_lay "OathYesterday$Annals" g_T5 2 ∈ g_TB := g_in1 141 (by decide +kernel) (by decide +kernel)
theorem g_ly5_3 : u_lay "OathYesterday$Annals" g_T5 3 ∈ g_TB := g_in1 143 (by decide +kernel) (by decide +kernel)
theorem g_ly5_4 : u_lay "OathYesterday$Annals" g_T5 4 ∈ g_TB := g_in1 145 (by decide +kernel) (by decide +kernel)
theorem g_ly5_5 : u_lay "OathYesterday$Annals" g_T5 5 ∈ g_TB := g_in1 147 (by decide +kernel) (by decide +kernel)
theorem g_ly5_6 : u_lay "OathYesterday$Annals" g_T5 6 ∈ g_TB := g_in1 149 (by decide +kernel) (by decide +kernel)
theorem g_ly5_7 : u_lay "OathYesterday$Annals" g_T5 7 ∈ g_TB := g_in1 151 (by decide +kernel) (by decide +kernel)
theorem g_ws5 : ∀ w ∈ u_ws "OathYesterday$Annals" g_T5 8, w ∈ g_TB := by
  intro w h
  obtain ⟨k, hk, rfl⟩ := List.mem_map.mp h
  have hk := List.mem_range.mp hk
  match k, hk with
  | 0, _ => exact g_ly5_0
  | 1, _ => exact g_ly5_1
  | 2, _ => exact g_ly5_2
  | 3, _ => exact g_ly5_3
  | 4, _ => exact g_ly5_4
  | 5, _ => exact g_ly5_5
  | 6, _ => exact g_ly5_6
  | 7, _ => exact g_ly5_7
  | k + 8, h => exact absurd h (by omega)
def g_T6 : u_T := fun k => match k with
  | 0 => ("OathYesterday$Court", "land", "LOathYesterday$Land;", true)
  | 1 => ("OathYesterday$Court", "oaths", "LOathYesterday$Oaths;", true)
  | 2 => ("OathYesterday$Court", "annals", "LOathYesterday$Annals;", true)
  | 3 => ("OathYesterday$Court", "stack", "[J", true)
  | 4 => ("OathYesterday$Court", "possible", "[J", true)
  | 5 => ("OathYesterday$Court", "fitting", "[J", true)
  | _ => ("OathYesterday$Court", "swornRows", "[[J", true)
def g_ty6 : Nat → FieldType := fun k => match k with
  | 0 => .object "OathYesterday$Land"
  | 1 => .object "OathYesterday$Oaths"
  | 2 => .object "OathYesterday$Annals"
  | 3 => .array .long
  | 4 => .array .long
  | 5 => .array .long
  | _ => .array (.array .long)
theorem g_nm6 : ∀ a, a < 7 → ∀ b, b < 7 → a ≠ b → (g_T6 a).2.1 ≠ (g_T6 b).2.1 := by decide +kernel
theorem g_tyok6 : ∀ k, k < 7 → parseFieldDescriptor (g_T6 k).2.2.1 = some (g_ty6 k) := by decide +kernel
theorem g_ly6_0 : u_lay "OathYesterday$Court" g_T6 0 ∈ g_TB := g_in1 169 (by decide +kernel) (by decide +kernel)
theorem g_ly6_1 : u_lay "OathYesterday$Court" g_T6 1 ∈ g_TB := g_in1 171 (by decide +kernel) (by decide +kernel)
theorem g_ly6_2 : u_lay "OathYesterday$Court" g_T6 2 ∈ g_TB := g_in1 173 (by decide +kernel) (by decide +kernel)
theorem g_ly6_3 : u_lay "OathYesterday$Court" g_T6 3 ∈ g_TB := g_in1 175 (by decide +kernel) (by decide +kernel)
theorem g_ly6_4 : u_lay "OathYesterday$Court" g_T6 4 ∈ g_TB := g_in1 177 (by decide +kernel) (by decide +kernel)
theorem g_ly6_5 : u_lay "OathYesterday$Court" g_T6 5 ∈ g_TB := g_in1 179 (by decide +kernel) (by decide +kernel)
theorem g_ly6_6 : u_lay "OathYesterday$Court" g_T6 6 ∈ g_TB := g_in1 181 (by decide +kernel) (by decide +kernel)
theorem g_ws6 : ∀ w ∈ u_ws "OathYesterday$Court" g_T6 7, w ∈ g_TB := by
  intro w h
  obtain ⟨k, hk, rfl⟩ := List.mem_map.mp h
  have hk := List.mem_range.mp hk
  match k, hk with
  | 0, _ => exact g_ly6_0
  | 1, _ => exact g_ly6_1
  | 2, _ => exact g_ly6_2
  | 3, _ => exact g_ly6_3
  | 4, _ => exact g_ly6_4
  | 5, _ => exact g_ly6_5
  | 6, _ => exact g_ly6_6
  | k + 7, h => exact absurd h (by omega)
def g_T7 : u_T := fun k => match k with
  | 0 => ("OathYesterday$Counsel", "land", "LOathYesterday$Land;", true)
  | 1 => ("OathYesterday$Counsel", "oaths", "LOathYesterday$Oaths;", true)
  | 2 => ("OathYesterday$Counsel", "court", "LOathYesterday$Court;", true)
  | 3 => ("OathYesterday$Counsel", "levels", "[J", true)
  | _ => ("OathYesterday$Counsel", "heard", "[[J", true)
def g_ty7 : Nat → FieldType := fun k => match k with
  | 0 => .object "OathYesterday$Land"
  | 1 => .object "OathYesterday$Oaths"
  | 2 => .object "OathYesterday$Court"
  | 3 => .array .long
  | _ => .array (.array .long)
theorem g_nm7 : ∀ a, a < 5 → ∀ b, b < 5 → a ≠ b → (g_T7 a).2.1 ≠ (g_T7 b).2.1 := by decide +kernel
theorem g_tyok7 : ∀ k, k < 5 → parseFieldDescriptor (g_T7 k).2.2.1 = some (g_ty7 k) := by decide +kernel
theorem g_ly7_0 : u_lay "OathYesterday$Counsel" g_T7 0 ∈ g_TB := g_in1 196 (by decide +kernel) (by decide +kernel)
theorem g_ly7_1 : u_lay "OathYesterday$Counsel" g_T7 1 ∈ g_TB := g_in1 198 (by decide +kernel) (by decide +kernel)
theorem g_ly7_2 : u_lay "OathYesterday$Counsel" g_T7 2 ∈ g_TB := g_in1 200 (by decide +kernel) (by decide +kernel)
theorem g_ly7_3 : u_lay "OathYesterday$Counsel" g_T7 3 ∈ g_TB := g_in1 202 (by decide +kernel) (by decide +kernel)
theorem g_ly7_4 : u_lay "OathYesterday$Counsel" g_T7 4 ∈ g_TB := g_in1 204 (by decide +kernel) (by decide +kernel)
theorem g_ws7 : ∀ w ∈ u_ws "OathYesterday$Counsel" g_T7 5, w ∈ g_TB := by
  intro w h
  obtain ⟨k, hk, rfl⟩ := List.mem_map.mp h
  have hk := List.mem_range.mp hk
  match k, hk with
  | 0, _ => exact g_ly7_0
  | 1, _ => exact g_ly7_1
  | 2, _ => exact g_ly7_2
  | 3, _ => exact g_ly7_3
  | 4, _ => exact g_ly7_4
  | k + 5, h => exact absurd h (by omega)
def g_T8 : u_T := fun k => match k with
  | 0 => ("OathYesterday$Ledger", "land", "LOathYesterday$Land;", true)
  | 1 => ("OathYesterday$Ledger", "oaths", "LOathYesterday$Oaths;", true)
  | 2 => ("OathYesterday$Ledger", "annals", "LOathYesterday$Annals;", true)
  | 3 => ("OathYesterday$Ledger", "court", "LOathYesterday$Court;", true)
  | 4 => ("OathYesterday$Ledger", "words", "[J", true)
  | 5 => ("OathYesterday$Ledger", "trial", "[J", true)
  | 6 => ("OathYesterday$Ledger", "leastCost", "I", false)
  | _ => ("OathYesterday$Ledger", "leastPlace", "I", false)
def g_ty8 : Nat → FieldType := fun k => match k with
  | 0 => .object "OathYesterday$Land"
  | 1 => .object "OathYesterday$Oaths"
  | 2 => .object "OathYesterday$Annals"
  | 3 => .object "OathYesterday$Court"
  | 4 => .array .long
  | 5 => .array .long
  | 6 => .int
  | _ => .int
theorem g_nm8 : ∀ a, a < 8 → ∀ b, b < 8 → a ≠ b → (g_T8 a).2.1 ≠ (g_T8 b).2.1 := by decide +kernel
theorem g_tyok8 : ∀ k, k < 8 → parseFieldDescriptor (g_T8 k).2.2.1 = some (g_ty8 k) := by decide +kernel
theorem g_ly8_0 : u_lay "OathYesterday$Ledger" g_T8 0 ∈ g_TB := g_in1 221 (by decide +kernel) (by decide +kernel)
theorem g_ly8_1 : u_lay "OathYesterday$Ledger" g_T8 1 ∈ g_TB := g_in1 223 (by decide +kernel) (by decide +kernel)
theorem g_ly8_2 : u_lay "OathYesterday$Ledger" g_T8 2 ∈ g_TB := g_in1 225 (by decide +kernel) (by decide +kernel)
theorem g_ly8_3 : u_lay "OathYesterday$Ledger" g_T8 3 ∈ g_TB := g_in1 227 (by decide +kernel) (by decide +kernel)
theorem g_ly8_4 : u_lay "OathYesterday$Ledger" g_T8 4 ∈ g_TB := g_in1 229 (by decide +kernel) (by decide +kernel)
theorem g_ly8_5 : u_lay "OathYesterday$Ledger" g_T8 5 ∈ g_TB := g_in1 231 (by decide +kernel) (by decide +kernel)
theorem g_ly8_6 : u_lay "OathYesterday$Ledger" g_T8 6 ∈ g_TB := g_in1 233 (by decide +kernel) (by decide +kernel)
theorem g_ly8_7 : u_lay "OathYesterday$Ledger" g_T8 7 ∈ g_TB := g_in1 235 (by decide +kernel) (by decide +kernel)
theorem g_ws8 : ∀ w ∈ u_ws "OathYesterday$Ledger" g_T8 8, w ∈ g_TB := by
  intro w h
  obtain ⟨k, hk, rfl⟩ := List.mem_map.mp h
  have hk := List.mem_range.mp hk
  match k, hk with
  | 0, _ => exact g_ly8_0
  | 1, _ => exact g_ly8_1
  | 2, _ => exact g_ly8_2
  | 3, _ => exact g_ly8_3
  | 4, _ => exact g_ly8_4
  | 5, _ => exact g_ly8_5
  | 6, _ => exact g_ly8_6
  | 7, _ => exact g_ly8_7
  | k + 8, h => exact absurd h (by omega)
def g_T9 : u_T := fun k => match k with
  | 0 => ("OathYesterday$Chances", "land", "LOathYesterday$Land;", true)
  | 1 => ("OathYesterday$Chances", "annals", "LOathYesterday$Annals;", true)
  | 2 => ("OathYesterday$Chances", "court", "LOathYesterday$Court;", true)
  | 3 => ("OathYesterday$Chances", "levels", "[J", true)
  | 4 => ("OathYesterday$Chances", "trial", "[J", true)
  | 5 => ("OathYesterday$Chances", "greatestProduct", "J", false)
  | _ => ("OathYesterday$Chances", "greatestPlace", "I", false)
def g_ty9 : Nat → FieldType := fun k => match k with
  | 0 => .object "OathYesterday$Land"
  | 1 => .object "OathYesterday$Annals"
  | 2 => .object "OathYesterday$Court"
  | 3 => .array .long
  | 4 => .array .long
  | 5 => .long
  | _ => .int
theorem g_nm9 : ∀ a, a < 7 → ∀ b, b < 7 → a ≠ b → (g_T9 a).2.1 ≠ (g_T9 b).2.1 := by decide +kernel
theorem g_tyok9 : ∀ k, k < 7 → parseFieldDescriptor (g_T9 k).2.2.1 = some (g_ty9 k) := by decide +kernel
theorem g_ly9_0 : u_lay "OathYesterday$Chances" g_T9 0 ∈ g_TB := g_in2 11 (by decide +kernel) (by decide +kernel)
theorem g_ly9_1 : u_lay "OathYesterday$Chances" g_T9 1 ∈ g_TB := g_in2 13 (by decide +kernel) (by decide +kernel)
theorem g_ly9_2 : u_lay "OathYesterday$Chances" g_T9 2 ∈ g_TB := g_in2 15 (by decide +kernel) (by decide +kernel)
theorem g_ly9_3 : u_lay "OathYesterday$Chances" g_T9 3 ∈ g_TB := g_in2 17 (by decide +kernel) (by decide +kernel)
theorem g_ly9_4 : u_lay "OathYesterday$Chances" g_T9 4 ∈ g_TB := g_in2 19 (by decide +kernel) (by decide +kernel)
theorem g_ly9_5 : u_lay "OathYesterday$Chances" g_T9 5 ∈ g_TB := g_in2 21 (by decide +kernel) (by decide +kernel)
theorem g_ly9_6 : u_lay "OathYesterday$Chances" g_T9 6 ∈ g_TB := g_in2 23 (by decide +kernel) (by decide +kernel)
theorem g_ws9 : ∀ w ∈ u_ws "OathYesterday$Chances" g_T9 7, w ∈ g_TB := by
  intro w h
  obtain ⟨k, hk, rfl⟩ := List.mem_map.mp h
  have hk := List.mem_range.mp hk
  match k, hk with
  | 0, _ => exact g_ly9_0
  | 1, _ => exact g_ly9_1
  | 2, _ => exact g_ly9_2
  | 3, _ => exact g_ly9_3
  | 4, _ => exact g_ly9_4
  | 5, _ => exact g_ly9_5
  | 6, _ => exact g_ly9_6
  | k + 7, h => exact absurd h (by omega)
def g_T10 : u_T := fun k => match k with
  | 0 => ("OathYesterday$Game", "oaths", "LOathYesterday$Oaths;", true)
  | 1 => ("OathYesterday$Game", "counsel", "LOathYesterday$Counsel;", true)
  | 2 => ("OathYesterday$Game", "together", "[I", true)
  | _ => ("OathYesterday$Game", "price", "I", false)
def g_ty10 : Nat → FieldType := fun k => match k with
  | 0 => .object "OathYesterday$Oaths"
  | 1 => .object "OathYesterday$Counsel"
  | 2 => .array .int
  | _ => .int
theorem g_nm10 : ∀ a, a < 4 → ∀ b, b < 4 → a ≠ b → (g_T10 a).2.1 ≠ (g_T10 b).2.1 := by decide +kernel
theorem g_tyok10 : ∀ k, k < 4 → parseFieldDescriptor (g_T10 k).2.2.1 = some (g_ty10 k) := by decide +kernel
theorem g_ly10_0 : u_lay "OathYesterday$Game" g_T10 0 ∈ g_TB := g_in2 36 (by decide +kernel) (by decide +kernel)
theorem g_ly10_1 : u_lay "OathYesterday$Game" g_T10 1 ∈ g_TB := g_in2 38 (by decide +kernel) (by decide +kernel)
theorem g_ly10_2 : u_lay "OathYesterday$Game" g_T10 2 ∈ g_TB := g_in2 40 (by decide +kernel) (by decide +kernel)
theorem g_ly10_3 : u_lay "OathYesterday$Game" g_T10 3 ∈ g_TB := g_in2 42 (by decide +kernel) (by decide +kernel)
theorem g_ws10 : ∀ w ∈ u_ws "OathYesterday$Game" g_T10 4, w ∈ g_TB := by
  intro w h
  obtain ⟨k, hk, rfl⟩ := List.mem_map.mp h
  have hk := List.mem_range.mp hk
  match k, hk with
  | 0, _ => exact g_ly10_0
  | 1, _ => exact g_ly10_1
  | 2, _ => exact g_ly10_2
  | 3, _ => exact g_ly10_3
  | k + 4, h => exact absurd h (by omega)
def g_T11 : u_T := fun k => match k with
  | 0 => ("OathYesterdayModel", "thrown", "I", false)
  | 1 => ("OathYesterdayModel", "tape", "[B", true)
  | 2 => ("OathYesterdayModel", "texts", "[B", true)
  | 3 => ("OathYesterdayModel", "textLong", "[I", true)
  | 4 => ("OathYesterdayModel", "text", "[B", false)
  | 5 => ("OathYesterdayModel", "length", "I", false)
  | 6 => ("OathYesterdayModel", "oaths", "I", false)
  | 7 => ("OathYesterdayModel", "begins", "I", false)
  | 8 => ("OathYesterdayModel", "ends", "I", false)
  | 9 => ("OathYesterdayModel", "at", "I", false)
  | 10 => ("OathYesterdayModel", "fault", "I", false)
  | 11 => ("OathYesterdayModel", "deep", "I", false)
  | 12 => ("OathYesterdayModel", "life", "[I", true)
  | 13 => ("OathYesterdayModel", "seenOn", "I", false)
  | 14 => ("OathYesterdayModel", "there", "I", false)
  | 15 => ("OathYesterdayModel", "doer", "[I", true)
  | 16 => ("OathYesterdayModel", "first", "[I", true)
  | 17 => ("OathYesterdayModel", "last", "[I", true)
  | 18 => ("OathYesterdayModel", "doerRead", "[I", true)
  | 19 => ("OathYesterdayModel", "firstRead", "[I", true)
  | 20 => ("OathYesterdayModel", "lastRead", "[I", true)
  | 21 => ("OathYesterdayModel", "deeds", "I", false)
  | 22 => ("OathYesterdayModel", "days", "I", false)
  | 23 => ("OathYesterdayModel", "deedsRead", "I", false)
  | 24 => ("OathYesterdayModel", "daysRead", "I", false)
  | 25 => ("OathYesterdayModel", "lives", "[I", true)
  | 26 => ("OathYesterdayModel", "lifeMany", "I", false)
  | 27 => ("OathYesterdayModel", "person", "[I", true)
  | 28 => ("OathYesterdayModel", "oathOf", "[I", true)
  | 29 => ("OathYesterdayModel", "dayOf", "[I", true)
  | 30 => ("OathYesterdayModel", "cost", "[I", true)
  | 31 => ("OathYesterdayModel", "factDeed", "[I", true)
  | 32 => ("OathYesterdayModel", "factDay", "[I", true)
  | 33 => ("OathYesterdayModel", "factIs", "[Z", true)
  | 34 => ("OathYesterdayModel", "isSworn", "[Z", true)
  | 35 => ("OathYesterdayModel", "sworn", "I", false)
  | 36 => ("OathYesterdayModel", "facts", "I", false)
  | 37 => ("OathYesterdayModel", "acts", "I", false)
  | 38 => ("OathYesterdayModel", "plain", "[I", true)
  | 39 => ("OathYesterdayModel", "asking", "I", false)
  | 40 => ("OathYesterdayModel", "some", "I", false)
  | 41 => ("OathYesterdayModel", "each", "I", false)
  | 42 => ("OathYesterdayModel", "most", "I", false)
  | 43 => ("OathYesterdayModel", "mostSet", "I", false)
  | 44 => ("OathYesterdayModel", "fitMany", "I", false)
  | 45 => ("OathYesterdayModel", "sets", "[I", true)
  | 46 => ("OathYesterdayModel", "leastCost", "I", false)
  | 47 => ("OathYesterdayModel", "leastLife", "I", false)
  | 48 => ("OathYesterdayModel", "leastSet", "I", false)
  | 49 => ("OathYesterdayModel", "weights", "[I", true)
  | 50 => ("OathYesterdayModel", "isFit", "[Z", true)
  | 51 => ("OathYesterdayModel", "gains", "[I", true)
  | 52 => ("OathYesterdayModel", "image", "[I", true)
  | 53 => ("OathYesterdayModel", "imageIs", "[Z", true)
  | 54 => ("OathYesterdayModel", "imageSworn", "[Z", true)
  | 55 => ("OathYesterdayModel", "imageSwornMany", "I", false)
  | 56 => ("OathYesterdayModel", "imageFacts", "I", false)
  | 57 => ("OathYesterdayModel", "imageActs", "I", false)
  | _ => ("OathYesterdayModel", "hasImage", "Z", false)
def g_ty11 : Nat → FieldType := fun k => match k with
  | 0 => .int
  | 1 => .array .byte
  | 2 => .array .byte
  | 3 => .array .int
  | 4 => .array .byte
  | 5 => .int
  | 6 => .int
  | 7 => .int
  | 8 => .int
  | 9 => .int
  | 10 => .int
  | 11 => .int
  | 12 => .array .int
  | 13 => .int
  | 14 => .int
  | 15 => .array .int
  | 16 => .array .int
  | 17 => .array .int
  | 18 => .array .int
  | 19 => .array .int
  | 20 => .array .int
  | 21 => .int
  | 22 => .int
  | 23 => .int
  | 24 => .int
  | 25 => .array .int
  | 26 => .int
  | 27 => .array .int
  | 28 => .array .int
  | 29 => .array .int
  | 30 => .array .int
  | 31 => .array .int
  | 32 => .array .int
  | 33 => .array .boolean
  | 34 => .array .boolean
  | 35 => .int
  | 36 => .int
  | 37 => .int
  | 38 => .array .int
  | 39 => .int
  | 40 => .int
  | 41 => .int
  | 42 => .int
  | 43 => .int
  | 44 => .int
  | 45 => .array .int
  | 46 => .int
  | 47 => .int
  | 48 => .int
  | 49 => .array .int
  | 50 => .array .boolean
  | 51 => .array .int
  | 52 => .array .int
  | 53 => .array .boolean
  | 54 => .array .boolean
  | 55 => .int
  | 56 => .int
  | 57 => .int
  | _ => .boolean
theorem g_nm11 : ∀ a, a < 59 → ∀ b, b < 59 → a ≠ b → (g_T11 a).2.1 ≠ (g_T11 b).2.1 := by decide +kernel
theorem g_tyok11 : ∀ k, k < 59 → parseFieldDescriptor (g_T11 k).2.2.1 = some (g_ty11 k) := by decide +kernel
theorem g_ly11_0 : u_lay "OathYesterdayModel" g_T11 0 ∈ g_TB := g_in7 8 (by decide +kernel) (by decide +kernel)
theorem g_ly11_1 : u_lay "OathYesterdayModel" g_T11 1 ∈ g_TB := g_in7 10 (by decide +kernel) (by decide +kernel)
theorem g_ly11_2 : u_lay "OathYesterdayModel" g_T11 2 ∈ g_TB := g_in7 12 (by decide +kernel) (by decide +kernel)
theorem g_ly11_3 : u_lay "OathYesterdayModel" g_T11 3 ∈ g_TB := g_in7 14 (by decide +kernel) (by decide +kernel)
theorem g_ly11_4 : u_lay "OathYesterdayModel" g_T11 4 ∈ g_TB := g_in7 16 (by decide +kernel) (by decide +kernel)
theorem g_ly11_5 : u_lay "OathYesterdayModel" g_T11 5 ∈ g_TB := g_in7 18 (by decide +kernel) (by decide +kernel)
theorem g_ly11_6 : u_lay "OathYesterdayModel" g_T11 6 ∈ g_TB := g_in7 20 (by decide +kernel) (by decide +kernel)
theorem g_ly11_7 : u_lay "OathYesterdayModel" g_T11 7 ∈ g_TB := g_in7 22 (by decide +kernel) (by decide +kernel)
theorem g_ly11_8 : u_lay "OathYesterdayModel" g_T11 8 ∈ g_TB := g_in7 24 (by decide +kernel) (by decide +kernel)
theorem g_ly11_9 : u_lay "OathYesterdayModel" g_T11 9 ∈ g_TB := g_in7 26 (by decide +kernel) (by decide +kernel)
theorem g_ly11_10 : u_lay "OathYesterdayModel" g_T11 10 ∈ g_TB := g_in7 28 (by decide +kernel) (by decide +kernel)
theorem g_ly11_11 : u_lay "OathYesterdayModel" g_T11 11 ∈ g_TB := g_in7 30 (by decide +kernel) (by decide +kernel)
theorem g_ly11_12 : u_lay "OathYesterdayModel" g_T11 12 ∈ g_TB := g_in7 32 (by decide +kernel) (by decide +kernel)
theorem g_ly11_13 : u_lay "OathYesterdayModel" g_T11 13 ∈ g_TB := g_in7 34 (by decide +kernel) (by decide +kernel)
theorem g_ly11_14 : u_lay "OathYesterdayModel" g_T11 14 ∈ g_TB := g_in7 36 (by decide +kernel) (by decide +kernel)
theorem g_ly11_15 : u_lay "OathYesterdayModel" g_T11 15 ∈ g_TB := g_in7 38 (by decide +kernel) (by decide +kernel)
theorem g_ly11_16 : u_lay "OathYesterdayModel" g_T11 16 ∈ g_TB := g_in7 40 (by decide +kernel) (by decide +kernel)
theorem g_ly11_17 : u_lay "OathYesterdayModel" g_T11 17 ∈ g_TB := g_in7 42 (by decide +kernel) (by decide +kernel)
theorem g_ly11_18 : u_lay "OathYesterdayModel" g_T11 18 ∈ g_TB := g_in7 44 (by decide +kernel) (by decide +kernel)
theorem g_ly11_19 : u_lay "OathYesterdayModel" g_T11 19 ∈ g_TB := g_in7 46 (by decide +kernel) (by decide +kernel)
theorem g_ly11_20 : u_lay "OathYesterdayModel" g_T11 20 ∈ g_TB := g_in7 48 (by decide +kernel) (by decide +kernel)
theorem g_ly11_21 : u_lay "OathYesterdayModel" g_T11 21 ∈ g_TB := g_in7 50 (by decide +kernel) (by decide +kernel)
theorem g_ly11_22 : u_lay "OathYesterdayModel" g_T11 22 ∈ g_TB := g_in7 52 (by decide +kernel) (by decide +kernel)
theorem g_ly11_23 : u_lay "OathYesterdayModel" g_T11 23 ∈ g_TB := g_in7 54 (by decide +kernel) (by decide +kernel)
theorem g_ly11_24 : u_lay "OathYesterdayModel" g_T11 24 ∈ g_TB := g_in7 56 (by decide +kernel) (by decide +kernel)
theorem g_ly11_25 : u_lay "OathYesterdayModel" g_T11 25 ∈ g_TB := g_in7 58 (by decide +kernel) (by decide +kernel)
theorem g_ly11_26 : u_lay "OathYesterdayModel" g_T11 26 ∈ g_TB := g_in7 60 (by decide +kernel) (by decide +kernel)
theorem g_ly11_27 : u_lay "OathYesterdayModel" g_T11 27 ∈ g_TB := g_in7 62 (by decide +kernel) (by decide +kernel)
theorem g_ly11_28 : u_lay "OathYesterdayModel" g_T11 28 ∈ g_TB := g_in7 64 (by decide +kernel) (by decide +kernel)
theorem g_ly11_29 : u_lay "OathYesterdayModel" g_T11 29 ∈ g_TB := g_in7 66 (by decide +kernel) (by decide +kernel)
theorem g_ly11_30 : u_lay "OathYesterdayModel" g_T11 30 ∈ g_TB := g_in7 68 (by decide +kernel) (by decide +kernel)
theorem g_ly11_31 : u_lay "OathYesterdayModel" g_T11 31 ∈ g_TB := g_in7 70 (by decide +kernel) (by decide +kernel)
theorem g_ly11_32 : u_lay "OathYesterdayModel" g_T11 32 ∈ g_TB := g_in7 72 (by decide +kernel) (by decide +kernel)
theorem g_ly11_33 : u_lay "OathYesterdayModel" g_T11 33 ∈ g_TB := g_in7 74 (by decide +kernel) (by decide +kernel)
theorem g_ly11_34 : u_lay "OathYesterdayModel" g_T11 34 ∈ g_TB := g_in7 76 (by decide +kernel) (by decide +kernel)
theorem g_ly11_35 : u_lay "OathYesterdayModel" g_T11 35 ∈ g_TB := g_in7 78 (by decide +kernel) (by decide +kernel)
theorem g_ly11_36 : u_lay "OathYesterdayModel" g_T11 36 ∈ g_TB := g_in7 80 (by decide +kernel) (by decide +kernel)
theorem g_ly11_37 : u_lay "OathYesterdayModel" g_T11 37 ∈ g_TB := g_in7 82 (by decide +kernel) (by decide +kernel)
theorem g_ly11_38 : u_lay "OathYesterdayModel" g_T11 38 ∈ g_TB := g_in7 84 (by decide +kernel) (by decide +kernel)
theorem g_ly11_39 : u_lay "OathYesterdayModel" g_T11 39 ∈ g_TB := g_in7 86 (by decide +kernel) (by decide +kernel)
theorem g_ly11_40 : u_lay "OathYesterdayModel" g_T11 40 ∈ g_TB := g_in7 88 (by decide +kernel) (by decide +kernel)
theorem g_ly11_41 : u_lay "OathYesterdayModel" g_T11 41 ∈ g_TB := g_in7 90 (by decide +kernel) (by decide +kernel)
theorem g_ly11_42 : u_lay "OathYesterdayModel" g_T11 42 ∈ g_TB := g_in7 92 (by decide +kernel) (by decide +kernel)
theorem g_ly11_43 : u_lay "OathYesterdayModel" g_T11 43 ∈ g_TB := g_in7 94 (by decide +kernel) (by decide +kernel)
theorem g_ly11_44 : u_lay "OathYesterdayModel" g_T11 44 ∈ g_TB := g_in7 96 (by decide +kernel) (by decide +kernel)
theorem g_ly11_45 : u_lay "OathYesterdayModel" g_T11 45 ∈ g_TB := g_in7 98 (by decide +kernel) (by decide +kernel)
theorem g_ly11_46 : u_lay "OathYesterdayModel" g_T11 46 ∈ g_TB := g_in7 100 (by decide +kernel) (by decide +kernel)
theorem g_ly11_47 : u_lay "OathYesterdayModel" g_T11 47 ∈ g_TB := g_in7 102 (by decide +kernel) (by decide +kernel)
theorem g_ly11_48 : u_lay "OathYesterdayModel" g_T11 48 ∈ g_TB := g_in7 104 (by decide +kernel) (by decide +kernel)
theorem g_ly11_49 : u_lay "OathYesterdayModel" g_T11 49 ∈ g_TB := g_in7 106 (by decide +kernel) (by decide +kernel)
theorem g_ly11_50 : u_lay "OathYesterdayModel" g_T11 50 ∈ g_TB := g_in7 108 (by decide +kernel) (by decide +kernel)
theorem g_ly11_51 : u_lay "OathYesterdayModel" g_T11 51 ∈ g_TB := g_in7 110 (by decide +kernel) (by decide +kernel)
theorem g_ly11_52 : u_lay "OathYesterdayModel" g_T11 52 ∈ g_TB := g_in7 112 (by decide +kernel) (by decide +kernel)
theorem g_ly11_53 : u_lay "OathYesterdayModel" g_T11 53 ∈ g_TB := g_in7 114 (by decide +kernel) (by decide +kernel)
theorem g_ly11_54 : u_lay "OathYesterdayModel" g_T11 54 ∈ g_TB := g_in7 116 (by decide +kernel) (by decide +kernel)
theorem g_ly11_55 : u_lay "OathYesterdayModel" g_T11 55 ∈ g_TB := g_in7 118 (by decide +kernel) (by decide +kernel)
theorem g_ly11_56 : u_lay "OathYesterdayModel" g_T11 56 ∈ g_TB := g_in7 120 (by decide +kernel) (by decide +kernel)
theorem g_ly11_57 : u_lay "OathYesterdayModel" g_T11 57 ∈ g_TB := g_in7 122 (by decide +kernel) (by decide +kernel)
theorem g_ly11_58 : u_lay "OathYesterdayModel" g_T11 58 ∈ g_TB := g_in7 124 (by decide +kernel) (by decide +kernel)
theorem g_ws11 : ∀ w ∈ u_ws "OathYesterdayModel" g_T11 59, w ∈ g_TB := by
  intro w h
  obtain ⟨k, hk, rfl⟩ := List.mem_map.mp h
  have hk := List.mem_range.mp hk
  match k, hk with
  | 0, _ => exact g_ly11_0
  | 1, _ => exact g_ly11_1
  | 2, _ => exact g_ly11_2
  | 3, _ => exact g_ly11_3
  | 4, _ => exact g_ly11_4
  | 5, _ => exact g_ly11_5
  | 6, _ => exact g_ly11_6
  | 7, _ => exact g_ly11_7
  | 8, _ => exact g_ly11_8
  | 9, _ => exact g_ly11_9
  | 10, _ => exact g_ly11_10
  | 11, _ => exact g_ly11_11
  | 12, _ => exact g_ly11_12
  | 13, _ => exact g_ly11_13
  | 14, _ => exact g_ly11_14
  | 15, _ => exact g_ly11_15
  | 16, _ => exact g_ly11_16
  | 17, _ => exact g_ly11_17
  | 18, _ => exact g_ly11_18
  | 19, _ => exact g_ly11_19
  | 20, _ => exact g_ly11_20
  | 21, _ => exact g_ly11_21
  | 22, _ => exact g_ly11_22
  | 23, _ => exact g_ly11_23
  | 24, _ => exact g_ly11_24
  | 25, _ => exact g_ly11_25
  | 26, _ => exact g_ly11_26
  | 27, _ => exact g_ly11_27
  | 28, _ => exact g_ly11_28
  | 29, _ => exact g_ly11_29
  | 30, _ => exact g_ly11_30
  | 31, _ => exact g_ly11_31
  | 32, _ => exact g_ly11_32
  | 33, _ => exact g_ly11_33
  | 34, _ => exact g_ly11_34
  | 35, _ => exact g_ly11_35
  | 36, _ => exact g_ly11_36
  | 37, _ => exact g_ly11_37
  | 38, _ => exact g_ly11_38
  | 39, _ => exact g_ly11_39
  | 40, _ => exact g_ly11_40
  | 41, _ => exact g_ly11_41
  | 42, _ => exact g_ly11_42
  | 43, _ => exact g_ly11_43
  | 44, _ => exact g_ly11_44
  | 45, _ => exact g_ly11_45
  | 46, _ => exact g_ly11_46
  | 47, _ => exact g_ly11_47
  | 48, _ => exact g_ly11_48
  | 49, _ => exact g_ly11_49
  | 50, _ => exact g_ly11_50
  | 51, _ => exact g_ly11_51
  | 52, _ => exact g_ly11_52
  | 53, _ => exact g_ly11_53
  | 54, _ => exact g_ly11_54
  | 55, _ => exact g_ly11_55
  | 56, _ => exact g_ly11_56
  | 57, _ => exact g_ly11_57
  | 58, _ => exact g_ly11_58
  | k + 59, h => exact absurd h (by omega)
def g_cl : List vw_C := [("OathYesterday", g_T0, 12), ("OathYesterday$Tape", g_T1, 3), ("OathYesterday$LandReader", g_T2, 3), ("OathYesterday$Oaths", g_T3, 5), ("OathYesterday$Land", g_T4, 7), ("OathYesterday$Annals", g_T5, 8), ("OathYesterday$Court", g_T6, 7), ("OathYesterday$Counsel", g_T7, 5), ("OathYesterday$Ledger", g_T8, 8), ("OathYesterday$Chances", g_T9, 7), ("OathYesterday$Game", g_T10, 4), ("OathYesterdayModel", g_T11, 59)]
abbrev gSh : Type := Nat × Nat × List (Nat × Nat)
def g_shl : List gSh := [(0, 0, [(0, 1), (0, 3), (0, 5), (0, 19), (0, 59), (0, 66), (0, 73), (0, 88), (0, 99), (0, 102), (0, 105), (1, 0)]), (0, 1, [(0, 2), (1, 0), (1, 0)]), (1, 120, []), (0, 2, [(0, 4), (1, 0), (1, 0)]), (1, 15, []), (0, 3, [(0, 6), (0, 16), (0, 17), (0, 18), (1, 0)]), (5, 9, []), (1, 120, []), (1, 120, []), (1, 120, []), (1, 120, []), (1, 120, []), (1, 120, []), (1, 120, []), (1, 120, []), (1, 120, []), (1, 9, []), (1, 9, []), (1, 8, []), (0, 4, [(0, 20), (0, 21), (0, 22), (0, 23), (1, 0), (1, 0), (1, 0)]), (1, 15, []), (1, 5, []), (1, 5, []), (6, 35, []), (2, 263, []), (2, 263, []), (2, 263, []), (2, 263, []), (2, 263, []), (2, 263, []), (2, 263, []), (2, 263, []), (2, 263, []), (2, 263, []), (2, 263, []), (2, 263, []), (2, 263, []), (2, 263, []), (2, 263, []), (2, 263, []), (2, 263, []), (2, 263, []), (2, 263, []), (2, 263, []), (2, 263, []), (2, 263, []), (2, 263, []), (2, 263, []), (2, 263, []), (2, 263, []), (2, 263, []), (2, 263, []), (2, 263, []), (2, 263, []), (2, 263, []), (2, 263, []), (2, 263, []), (2, 263, []), (2, 263, []), (0, 5, [(0, 60), (0, 61), (0, 62), (0, 63), (0, 64), (0, 65), (1, 0), (1, 0)]), (1, 40, []), (1, 20, []), (1, 20, []), (4, 20, []), (1, 30, []), (1, 50, []), (0, 5, [(0, 67), (0, 68), (0, 69), (0, 70), (0, 71), (0, 72), (1, 0), (1, 0)]), (1, 40, []), (1, 20, []), (1, 20, []), (4, 20, []), (1, 30, []), (1, 50, []), (0, 6, [(0, 19), (0, 5), (0, 59), (0, 74), (0, 75), (0, 76), (0, 77)]), (2, 16, []), (2, 263, []), (2, 263, []), (6, 10, []), (2, 263, []), (2, 263, []), (2, 263, []), (2, 263, []), (2, 263, []), (2, 263, []), (2, 263, []), (2, 263, []), (2, 263, []), (2, 263, []), (0, 7, [(0, 19), (0, 5), (0, 73), (0, 89), (0, 90)]), (2, 9, []), (6, 8, []), (2, 263, []), (2, 263, []), (2, 263, []), (2, 263, []), (2, 263, []), (2, 263, []), (2, 263, []), (2, 263, []), (0, 8, [(0, 19), (0, 5), (0, 59), (0, 73), (0, 100), (0, 101), (1, 0), (1, 0)]), (2, 10, []), (2, 263, []), (0, 9, [(0, 19), (0, 59), (0, 73), (0, 103), (0, 104), (2, 0), (1, 0)]), (2, 9, []), (2, 263, []), (0, 10, [(0, 5), (0, 88), (0, 106), (1, 0)]), (1, 9, []), (0, 11, [(1, 0), (0, 108), (0, 109), (0, 110), (3, 0), (1, 0), (1, 0), (1, 0), (1, 0), (1, 0), (1, 0), (1, 0), (0, 111), (1, 0), (1, 0), (0, 112), (0, 113), (0, 114), (0, 115), (0, 116), (0, 117), (1, 0), (1, 0), (1, 0), (1, 0), (0, 118), (1, 0), (0, 119), (0, 120), (0, 121), (0, 122), (0, 123), (0, 124), (0, 125), (0, 126), (1, 0), (1, 0), (1, 0), (0, 127), (1, 0), (1, 0), (1, 0), (1, 0), (1, 0), (1, 0), (0, 128), (1, 0), (1, 0), (1, 0), (0, 129), (0, 130), (0, 131), (0, 132), (0, 133), (0, 134), (1, 0), (1, 0), (1, 0), (1, 0)]), (3, 120, []), (3, 960, []), (1, 8, []), (1, 5, []), (1, 5, []), (1, 5, []), (1, 5, []), (1, 5, []), (1, 5, []), (1, 5, []), (1, 16807, []), (1, 10, []), (1, 10, []), (1, 10, []), (1, 10, []), (1, 20, []), (1, 20, []), (4, 20, []), (4, 30, []), (1, 16807, []), (1, 16807, []), (1, 50, []), (4, 16807, []), (1, 8, []), (1, 130, []), (4, 20, []), (4, 30, []), (2, 1, [])]
def gN : Nat := 136
theorem g_shl_length : g_shl.length = gN := by decide +kernel
def g_sh (k : Nat) : gSh := g_shl.getD k (9, 0, [])
