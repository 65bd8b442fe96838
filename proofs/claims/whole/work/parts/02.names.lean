/-! names: classes, fields, the one list of words, methods (by program: wip/whole/gen_names.py) -/
def wl : List Cond := lw_tbl.filter goodWord
theorem in_wl {w : Cond} (h : w ∈ lw_tbl) (g : goodWord w = true) : w ∈ wl := List.mem_filter.mpr ⟨h, g⟩
theorem in_t1 {w : Cond} (h : w ∈ tables_1_1) : w ∈ lw_tbl := List.mem_append_right _ (List.mem_append_left _ h)
theorem in_t2 {w : Cond} (h : w ∈ tables_1_2) : w ∈ lw_tbl := List.mem_append_right _ (List.mem_append_right _ (List.mem_append_left _ h))
theorem in_t3 {w : Cond} (h : w ∈ tables_1_3) : w ∈ lw_tbl := List.mem_append_right _ (List.mem_append_right _ (List.mem_append_right _ (List.mem_append_left _ h)))
theorem in_t4 {w : Cond} (h : w ∈ tables_1_4) : w ∈ lw_tbl := List.mem_append_right _ (List.mem_append_right _ (List.mem_append_right _ (List.mem_append_right _ (List.mem_append_left _ h))))
theorem in_t5 {w : Cond} (h : w ∈ tables_1_5) : w ∈ lw_tbl := List.mem_append_right _ (List.mem_append_right _ (List.mem_append_right _ (List.mem_append_right _ (List.mem_append_right _ (List.mem_append_left _ h)))))
theorem in_t6 {w : Cond} (h : w ∈ tables_1_6) : w ∈ lw_tbl := List.mem_append_right _ (List.mem_append_right _ (List.mem_append_right _ (List.mem_append_right _ (List.mem_append_right _ (List.mem_append_right _ (h))))))
abbrev R_B : String := "KissClearing$Blushes"
abbrev R_D : String := "KissClearing$Draft"
abbrev R_H : String := "KissClearing$History"
abbrev R_G : String := "KissClearing$Rings"
abbrev R_O : String := "KissClearing$Rounds"
abbrev R_S : String := "KissClearing$Strip"
abbrev R_V : String := "KissClearing$Village"
abbrev R_K : String := "KissClearing"
abbrev R_M : String := "KissClearingModel"
abbrev R_R : String := "KissClearing$Reader"
abbrev R_J : String := "java/lang/Integer"
abbrev R_T : String := "java/lang/Math"
abbrev R_Y : String := "java/lang/System"
abbrev R_Q : String := "java/lang/Object"
abbrev R_L : String := "KissClearingLaw"
def T_B : u_T := fun k => match k with
  | 0 => ("KissClearing$Blushes", "sets", "I", false)
  | 1 => ("KissClearing$Blushes", "first", "I", false)
  | 2 => ("KissClearing$Blushes", "inEach", "I", false)
  | _ => ("KissClearing$Blushes", "lacking", "[I", true)
def t_B : Nat → FieldType := fun k => match k with
  | 0 => .int
  | 1 => .int
  | 2 => .int
  | _ => (.array .int)
theorem n_B : ∀ a, a < 4 → ∀ b, b < 4 → a ≠ b → (T_B a).2.1 ≠ (T_B b).2.1 := by decide +kernel
theorem t_B_ok : ∀ k, k < 4 → parseFieldDescriptor (T_B k).2.2.1 = some (t_B k) := by decide +kernel
def T_D : u_T := fun k => match k with
  | 0 => ("KissClearing$Draft", "who", "I", false)
  | 1 => ("KissClearing$Draft", "whom", "I", false)
  | 2 => ("KissClearing$Draft", "sort", "I", false)
  | 3 => ("KissClearing$Draft", "kisses", "I", false)
  | 4 => ("KissClearing$Draft", "weeks", "I", false)
  | _ => ("KissClearing$Draft", "endorsed", "I", false)
def t_D : Nat → FieldType := fun k => match k with
  | 0 => .int
  | 1 => .int
  | 2 => .int
  | 3 => .int
  | 4 => .int
  | _ => .int
theorem n_D : ∀ a, a < 6 → ∀ b, b < 6 → a ≠ b → (T_D a).2.1 ≠ (T_D b).2.1 := by decide +kernel
theorem t_D_ok : ∀ k, k < 6 → parseFieldDescriptor (T_D k).2.2.1 = some (t_D k) := by decide +kernel
def T_H : u_T := fun k => match k with
  | 0 => ("KissClearing$History", "deeds", "I", false)
  | 1 => ("KissClearing$History", "counts", "[I", true)
  | _ => ("KissClearing$History", "pages", "[I", true)
def t_H : Nat → FieldType := fun k => match k with
  | 0 => .int
  | 1 => (.array .int)
  | _ => (.array .int)
theorem n_H : ∀ a, a < 3 → ∀ b, b < 3 → a ≠ b → (T_H a).2.1 ≠ (T_H b).2.1 := by decide +kernel
theorem t_H_ok : ∀ k, k < 3 → parseFieldDescriptor (T_H k).2.2.1 = some (t_H k) := by decide +kernel
def T_G : u_T := fun k => match k with
  | 0 => ("KissClearing$Rings", "found", "I", false)
  | 1 => ("KissClearing$Rings", "mostCleared", "I", false)
  | 2 => ("KissClearing$Rings", "bestLeast", "I", false)
  | 3 => ("KissClearing$Rings", "bestSize", "I", false)
  | 4 => ("KissClearing$Rings", "best", "[I", true)
  | 5 => ("KissClearing$Rings", "through", "[I", true)
  | _ => ("KissClearing$Rings", "path", "[I", true)
def t_G : Nat → FieldType := fun k => match k with
  | 0 => .int
  | 1 => .int
  | 2 => .int
  | 3 => .int
  | 4 => (.array .int)
  | 5 => (.array .int)
  | _ => (.array .int)
theorem n_G : ∀ a, a < 7 → ∀ b, b < 7 → a ≠ b → (T_G a).2.1 ≠ (T_G b).2.1 := by decide +kernel
theorem t_G_ok : ∀ k, k < 7 → parseFieldDescriptor (T_G k).2.2.1 = some (t_G k) := by decide +kernel
def T_O : u_T := fun k => match k with
  | 0 => ("KissClearing$Rounds", "size", "I", false)
  | 1 => ("KissClearing$Rounds", "ones", "[I", true)
  | 2 => ("KissClearing$Rounds", "others", "[I", true)
  | _ => ("KissClearing$Rounds", "busy", "[I", true)
def t_O : Nat → FieldType := fun k => match k with
  | 0 => .int
  | 1 => (.array .int)
  | 2 => (.array .int)
  | _ => (.array .int)
theorem n_O : ∀ a, a < 4 → ∀ b, b < 4 → a ≠ b → (T_O a).2.1 ≠ (T_O b).2.1 := by decide +kernel
theorem t_O_ok : ∀ k, k < 4 → parseFieldDescriptor (T_O k).2.2.1 = some (t_O k) := by decide +kernel
def T_S : u_T := fun k => match k with
  | 0 => ("KissClearing$Strip", "places", "[I", true)
  | _ => ("KissClearing$Strip", "size", "I", false)
def t_S : Nat → FieldType := fun k => match k with
  | 0 => (.array .int)
  | _ => .int
theorem n_S : ∀ a, a < 2 → ∀ b, b < 2 → a ≠ b → (T_S a).2.1 ≠ (T_S b).2.1 := by decide +kernel
theorem t_S_ok : ∀ k, k < 2 → parseFieldDescriptor (T_S k).2.2.1 = some (t_S k) := by decide +kernel
def T_V : u_T := fun k => match k with
  | 0 => ("KissClearing$Village", "personCount", "I", false)
  | 1 => ("KissClearing$Village", "draftCount", "I", false)
  | 2 => ("KissClearing$Village", "kinds", "[I", true)
  | _ => ("KissClearing$Village", "drafts", "[LKissClearing$Draft;", true)
def t_V : Nat → FieldType := fun k => match k with
  | 0 => .int
  | 1 => .int
  | 2 => (.array .int)
  | _ => (.array (.object "KissClearing$Draft"))
theorem n_V : ∀ a, a < 4 → ∀ b, b < 4 → a ≠ b → (T_V a).2.1 ≠ (T_V b).2.1 := by decide +kernel
theorem t_V_ok : ∀ k, k < 4 → parseFieldDescriptor (T_V k).2.2.1 = some (t_V k) := by decide +kernel
def T_K : u_T := fun k => match k with
  | 0 => ("KissClearing", "rows", "[LKissClearing$Strip;", true)
  | 1 => ("KissClearing", "texts", "[LKissClearing$Strip;", true)
  | 2 => ("KissClearing", "now", "LKissClearing$Village;", true)
  | 3 => ("KissClearing", "sketch", "LKissClearing$Village;", true)
  | 4 => ("KissClearing", "history", "LKissClearing$History;", true)
  | 5 => ("KissClearing", "kept", "[LKissClearing$History;", true)
  | 6 => ("KissClearing", "rings", "LKissClearing$Rings;", true)
  | 7 => ("KissClearing", "meetings", "LKissClearing$Rounds;", true)
  | 8 => ("KissClearing", "fitting", "LKissClearing$Blushes;", true)
  | 9 => ("KissClearing", "timesFound", "[I", true)
  | 10 => ("KissClearing", "latestFinding", "I", false)
  | 11 => ("KissClearing", "latestAsked", "I", false)
  | 12 => ("KissClearing", "latestUpper", "J", false)
  | _ => ("KissClearing", "latestLower", "J", false)
def t_K : Nat → FieldType := fun k => match k with
  | 0 => (.array (.object "KissClearing$Strip"))
  | 1 => (.array (.object "KissClearing$Strip"))
  | 2 => (.object "KissClearing$Village")
  | 3 => (.object "KissClearing$Village")
  | 4 => (.object "KissClearing$History")
  | 5 => (.array (.object "KissClearing$History"))
  | 6 => (.object "KissClearing$Rings")
  | 7 => (.object "KissClearing$Rounds")
  | 8 => (.object "KissClearing$Blushes")
  | 9 => (.array .int)
  | 10 => .int
  | 11 => .int
  | 12 => .long
  | _ => .long
theorem n_K : ∀ a, a < 14 → ∀ b, b < 14 → a ≠ b → (T_K a).2.1 ≠ (T_K b).2.1 := by decide +kernel
theorem t_K_ok : ∀ k, k < 14 → parseFieldDescriptor (T_K k).2.2.1 = some (t_K k) := by decide +kernel
def T_M : u_T := fun k => match k with
  | 0 => ("KissClearingModel", "row", "[I", true)
  | 1 => ("KissClearingModel", "persons", "I", false)
  | 2 => ("KissClearingModel", "kinds", "[I", true)
  | 3 => ("KissClearingModel", "sizes", "[I", true)
  | 4 => ("KissClearingModel", "items", "[I", true)
  | 5 => ("KissClearingModel", "lengths", "[I", true)
  | 6 => ("KissClearingModel", "bytes", "[I", true)
  | 7 => ("KissClearingModel", "asked", "I", false)
  | 8 => ("KissClearingModel", "upper", "J", false)
  | 9 => ("KissClearingModel", "lower", "J", false)
  | 10 => ("KissClearingModel", "finding", "I", false)
  | 11 => ("KissClearingModel", "findings", "[I", true)
  | 12 => ("KissClearingModel", "from", "I", false)
  | 13 => ("KissClearingModel", "place", "I", false)
  | 14 => ("KissClearingModel", "end", "I", false)
  | 15 => ("KissClearingModel", "readKinds", "[I", true)
  | 16 => ("KissClearingModel", "readPersons", "I", false)
  | 17 => ("KissClearingModel", "readDrafts", "[I", true)
  | 18 => ("KissClearingModel", "readMany", "I", false)
  | 19 => ("KissClearingModel", "tried", "[I", true)
  | 20 => ("KissClearingModel", "chain", "[I", true)
  | 21 => ("KissClearingModel", "chainMany", "I", false)
  | 22 => ("KissClearingModel", "best", "[I", true)
  | 23 => ("KissClearingModel", "bestMany", "I", false)
  | 24 => ("KissClearingModel", "bestBy", "I", false)
  | 25 => ("KissClearingModel", "met", "[I", true)
  | 26 => ("KissClearingModel", "metMany", "I", false)
  | 27 => ("KissClearingModel", "round", "[I", true)
  | 28 => ("KissClearingModel", "blushesMany", "I", false)
  | 29 => ("KissClearingModel", "blushesFirst", "I", false)
  | _ => ("KissClearingModel", "blushesSure", "I", false)
def t_M : Nat → FieldType := fun k => match k with
  | 0 => (.array .int)
  | 1 => .int
  | 2 => (.array .int)
  | 3 => (.array .int)
  | 4 => (.array .int)
  | 5 => (.array .int)
  | 6 => (.array .int)
  | 7 => .int
  | 8 => .long
  | 9 => .long
  | 10 => .int
  | 11 => (.array .int)
  | 12 => .int
  | 13 => .int
  | 14 => .int
  | 15 => (.array .int)
  | 16 => .int
  | 17 => (.array .int)
  | 18 => .int
  | 19 => (.array .int)
  | 20 => (.array .int)
  | 21 => .int
  | 22 => (.array .int)
  | 23 => .int
  | 24 => .int
  | 25 => (.array .int)
  | 26 => .int
  | 27 => (.array .int)
  | 28 => .int
  | 29 => .int
  | _ => .int
theorem n_M : ∀ a, a < 31 → ∀ b, b < 31 → a ≠ b → (T_M a).2.1 ≠ (T_M b).2.1 := by decide +kernel
theorem t_M_ok : ∀ k, k < 31 → parseFieldDescriptor (T_M k).2.2.1 = some (t_M k) := by decide +kernel
abbrev y_K_init : MethodName := ⟨"KissClearing", "<init>", "()V"⟩
abbrev b_K_init : ByteArray := prog_1_method_1_code
abbrev y_K_all : MethodName := ⟨"KissClearing", "all", "(I)I"⟩
abbrev b_K_all : ByteArray := prog_1_method_24_code
abbrev y_K_asked : MethodName := ⟨"KissClearing", "asked", "()I"⟩
abbrev b_K_asked : ByteArray := prog_1_method_40_code
abbrev y_K_at : MethodName := ⟨"KissClearing", "at", "(II)I"⟩
abbrev b_K_at : ByteArray := prog_1_method_4_code
abbrev y_K_between : MethodName := ⟨"KissClearing", "between", "(III)I"⟩
abbrev b_K_between : ByteArray := prog_1_method_23_code
abbrev y_K_blushes : MethodName := ⟨"KissClearing", "blushes", "(I)I"⟩
abbrev b_K_blushes : ByteArray := prog_1_method_36_code
abbrev y_K_blushesRefused : MethodName := ⟨"KissClearing", "blushesRefused", "(I)I"⟩
abbrev b_K_blushesRefused : ByteArray := prog_1_method_61_code
abbrev y_K_clear : MethodName := ⟨"KissClearing", "clear", "(I)I"⟩
abbrev b_K_clear : ByteArray := prog_1_method_17_code
abbrev y_K_copy : MethodName := ⟨"KissClearing", "copy", "(IIIII)I"⟩
abbrev b_K_copy : ByteArray := prog_1_method_6_code
abbrev y_K_count : MethodName := ⟨"KissClearing", "count", "(I)I"⟩
abbrev b_K_count : ByteArray := prog_1_method_43_code
abbrev y_K_digest : MethodName := ⟨"KissClearing", "digest", "()J"⟩
abbrev b_K_digest : ByteArray := prog_1_method_46_code
abbrev y_K_draft : MethodName := ⟨"KissClearing", "draft", "(II)I"⟩
abbrev b_K_draft : ByteArray := prog_1_method_13_code
abbrev y_K_endorse : MethodName := ⟨"KissClearing", "endorse", "(II)I"⟩
abbrev b_K_endorse : ByteArray := prog_1_method_18_code
abbrev y_K_falls : MethodName := ⟨"KissClearing", "falls", "(I)I"⟩
abbrev b_K_falls : ByteArray := prog_1_method_28_code
abbrev y_K_fault : MethodName := ⟨"KissClearing", "fault", "(I)I"⟩
abbrev b_K_fault : ByteArray := prog_1_method_10_code
abbrev y_K_finding : MethodName := ⟨"KissClearing", "finding", "()I"⟩
abbrev b_K_finding : ByteArray := prog_1_method_44_code
abbrev y_K_findings : MethodName := ⟨"KissClearing", "findings", "(I)I"⟩
abbrev b_K_findings : ByteArray := prog_1_method_45_code
abbrev y_K_firstGain : MethodName := ⟨"KissClearing", "firstGain", "([I)I"⟩
abbrev b_K_firstGain : ByteArray := prog_1_method_60_code
abbrev y_K_gain : MethodName := ⟨"KissClearing", "gain", "(I)I"⟩
abbrev b_K_gain : ByteArray := prog_1_method_34_code
abbrev y_K_greatestCommon : MethodName := ⟨"KissClearing", "greatestCommon", "(II)I"⟩
abbrev b_K_greatestCommon : ByteArray := prog_1_method_62_code
abbrev y_K_howMany : MethodName := ⟨"KissClearing", "howMany", "(I)I"⟩
abbrev b_K_howMany : ByteArray := prog_1_method_56_code
abbrev y_K_isKeptPlace : MethodName := ⟨"KissClearing", "isKeptPlace", "(I)Z"⟩
abbrev b_K_isKeptPlace : ByteArray := prog_1_method_49_code
abbrev y_K_isRingSort : MethodName := ⟨"KissClearing", "isRingSort", "(I)Z"⟩
abbrev b_K_isRingSort : ByteArray := prog_1_method_51_code
abbrev y_K_isRow : MethodName := ⟨"KissClearing", "isRow", "(I)Z"⟩
abbrev b_K_isRow : ByteArray := prog_1_method_47_code
abbrev y_K_isSort : MethodName := ⟨"KissClearing", "isSort", "(I)Z"⟩
abbrev b_K_isSort : ByteArray := prog_1_method_50_code
abbrev y_K_isText : MethodName := ⟨"KissClearing", "isText", "(I)Z"⟩
abbrev b_K_isText : ByteArray := prog_1_method_48_code
abbrev y_K_keep : MethodName := ⟨"KissClearing", "keep", "(I)I"⟩
abbrev b_K_keep : ByteArray := prog_1_method_21_code
abbrev y_K_keptVillages : MethodName := ⟨"KissClearing", "keptVillages", "()I"⟩
abbrev b_K_keptVillages : ByteArray := prog_1_method_58_code
abbrev y_K_lay : MethodName := ⟨"KissClearing", "lay", "(III)I"⟩
abbrev b_K_lay : ByteArray := prog_1_method_3_code
abbrev y_K_left : MethodName := ⟨"KissClearing", "left", "(I)I"⟩
abbrev b_K_left : ByteArray := prog_1_method_27_code
abbrev y_K_lots : MethodName := ⟨"KissClearing", "lots", "(II)I"⟩
abbrev b_K_lots : ByteArray := prog_1_method_39_code
abbrev y_K_lower : MethodName := ⟨"KissClearing", "lower", "()J"⟩
abbrev b_K_lower : ByteArray := prog_1_method_42_code
abbrev y_K_mark : MethodName := ⟨"KissClearing", "mark", "(II)I"⟩
abbrev b_K_mark : ByteArray := prog_1_method_14_code
abbrev y_K_mean : MethodName := ⟨"KissClearing", "mean", "(I)I"⟩
abbrev b_K_mean : ByteArray := prog_1_method_7_code
abbrev y_K_meet : MethodName := ⟨"KissClearing", "meet", "(II)I"⟩
abbrev b_K_meet : ByteArray := prog_1_method_16_code
abbrev y_K_mistletoe : MethodName := ⟨"KissClearing", "mistletoe", "()I"⟩
abbrev b_K_mistletoe : ByteArray := prog_1_method_33_code
abbrev y_K_net : MethodName := ⟨"KissClearing", "net", "(I)I"⟩
abbrev b_K_net : ByteArray := prog_1_method_26_code
abbrev y_K_odds : MethodName := ⟨"KissClearing", "odds", "()I"⟩
abbrev b_K_odds : ByteArray := prog_1_method_38_code
abbrev y_K_ofDraft : MethodName := ⟨"KissClearing", "ofDraft", "(II)I"⟩
abbrev b_K_ofDraft : ByteArray := prog_1_method_55_code
abbrev y_K_ofPerson : MethodName := ⟨"KissClearing", "ofPerson", "(II)I"⟩
abbrev b_K_ofPerson : ByteArray := prog_1_method_54_code
abbrev y_K_on : MethodName := ⟨"KissClearing", "on", "(I)I"⟩
abbrev b_K_on : ByteArray := prog_1_method_22_code
abbrev y_K_owe : MethodName := ⟨"KissClearing", "owe", "(II)I"⟩
abbrev b_K_owe : ByteArray := prog_1_method_15_code
abbrev y_K_pairs : MethodName := ⟨"KissClearing", "pairs", "()I"⟩
abbrev b_K_pairs : ByteArray := prog_1_method_31_code
abbrev y_K_person : MethodName := ⟨"KissClearing", "person", "(II)I"⟩
abbrev b_K_person : ByteArray := prog_1_method_12_code
abbrev y_K_put : MethodName := ⟨"KissClearing", "put", "(III)I"⟩
abbrev b_K_put : ByteArray := prog_1_method_9_code
abbrev y_K_refuse : MethodName := ⟨"KissClearing", "refuse", "(I)I"⟩
abbrev b_K_refuse : ByteArray := prog_1_method_52_code
abbrev y_K_ring : MethodName := ⟨"KissClearing", "ring", "(II)I"⟩
abbrev b_K_ring : ByteArray := prog_1_method_25_code
abbrev y_K_ringsThrough : MethodName := ⟨"KissClearing", "ringsThrough", "(I)I"⟩
abbrev b_K_ringsThrough : ByteArray := prog_1_method_59_code
abbrev y_K_rounds : MethodName := ⟨"KissClearing", "rounds", "()I"⟩
abbrev b_K_rounds : ByteArray := prog_1_method_32_code
abbrev y_K_row : MethodName := ⟨"KissClearing", "row", "(II)I"⟩
abbrev b_K_row : ByteArray := prog_1_method_2_code
abbrev y_K_saved : MethodName := ⟨"KissClearing", "saved", "(II)I"⟩
abbrev b_K_saved : ByteArray := prog_1_method_30_code
abbrev y_K_sure : MethodName := ⟨"KissClearing", "sure", "(I)I"⟩
abbrev b_K_sure : ByteArray := prog_1_method_37_code
abbrev y_K_tear : MethodName := ⟨"KissClearing", "tear", "(I)I"⟩
abbrev b_K_tear : ByteArray := prog_1_method_5_code
abbrev y_K_tell : MethodName := ⟨"KissClearing", "tell", "(I)I"⟩
abbrev b_K_tell : ByteArray := prog_1_method_53_code
abbrev y_K_text : MethodName := ⟨"KissClearing", "text", "(II)I"⟩
abbrev b_K_text : ByteArray := prog_1_method_8_code
abbrev y_K_thoseThere : MethodName := ⟨"KissClearing", "thoseThere", "([LKissClearing$Strip;)I"⟩
abbrev b_K_thoseThere : ByteArray := prog_1_method_57_code
abbrev y_K_trust : MethodName := ⟨"KissClearing", "trust", "(II)I"⟩
abbrev b_K_trust : ByteArray := prog_1_method_35_code
abbrev y_K_undo : MethodName := ⟨"KissClearing", "undo", "(I)I"⟩
abbrev b_K_undo : ByteArray := prog_1_method_20_code
abbrev y_K_upper : MethodName := ⟨"KissClearing", "upper", "()J"⟩
abbrev b_K_upper : ByteArray := prog_1_method_41_code
abbrev y_K_village : MethodName := ⟨"KissClearing", "village", "(I)I"⟩
abbrev b_K_village : ByteArray := prog_1_method_11_code
abbrev y_K_week : MethodName := ⟨"KissClearing", "week", "()I"⟩
abbrev b_K_week : ByteArray := prog_1_method_19_code
abbrev y_K_worst : MethodName := ⟨"KissClearing", "worst", "()I"⟩
abbrev b_K_worst : ByteArray := prog_1_method_29_code
abbrev y_B_init : MethodName := ⟨"KissClearing$Blushes", "<init>", "()V"⟩
abbrev b_B_init : ByteArray := prog_2_method_1_code
abbrev y_B_choose : MethodName := ⟨"KissClearing$Blushes", "choose", "(LKissClearing$Village;II)V"⟩
abbrev b_B_choose : ByteArray := prog_2_method_3_code
abbrev y_B_search : MethodName := ⟨"KissClearing$Blushes", "search", "(LKissClearing$Village;[I)V"⟩
abbrev b_B_search : ByteArray := prog_2_method_2_code
abbrev y_B_takeIfFitting : MethodName := ⟨"KissClearing$Blushes", "takeIfFitting", "(LKissClearing$Village;I)V"⟩
abbrev b_B_takeIfFitting : ByteArray := prog_2_method_4_code
abbrev y_D_init : MethodName := ⟨"KissClearing$Draft", "<init>", "()V"⟩
abbrev b_D_init : ByteArray := prog_3_method_1_code
abbrev y_D_become : MethodName := ⟨"KissClearing$Draft", "become", "(IIII)V"⟩
abbrev b_D_become : ByteArray := prog_3_method_5_code
abbrev y_D_becomeLike : MethodName := ⟨"KissClearing$Draft", "becomeLike", "(LKissClearing$Draft;)V"⟩
abbrev b_D_becomeLike : ByteArray := prog_3_method_6_code
abbrev y_D_isOpen : MethodName := ⟨"KissClearing$Draft", "isOpen", "()Z"⟩
abbrev b_D_isOpen : ByteArray := prog_3_method_2_code
abbrev y_D_isOpenOf : MethodName := ⟨"KissClearing$Draft", "isOpenOf", "(I)Z"⟩
abbrev b_D_isOpenOf : ByteArray := prog_3_method_3_code
abbrev y_D_packed : MethodName := ⟨"KissClearing$Draft", "packed", "()I"⟩
abbrev b_D_packed : ByteArray := prog_3_method_7_code
abbrev y_D_unpack : MethodName := ⟨"KissClearing$Draft", "unpack", "(I)V"⟩
abbrev b_D_unpack : ByteArray := prog_3_method_8_code
abbrev y_D_worth : MethodName := ⟨"KissClearing$Draft", "worth", "()I"⟩
abbrev b_D_worth : ByteArray := prog_3_method_4_code
abbrev y_H_init : MethodName := ⟨"KissClearing$History", "<init>", "()V"⟩
abbrev b_H_init : ByteArray := prog_4_method_1_code
abbrev y_H_becomeLike : MethodName := ⟨"KissClearing$History", "becomeLike", "(LKissClearing$History;)V"⟩
abbrev b_H_becomeLike : ByteArray := prog_4_method_6_code
abbrev y_H_begin : MethodName := ⟨"KissClearing$History", "begin", "(LKissClearing$Village;)V"⟩
abbrev b_H_begin : ByteArray := prog_4_method_3_code
abbrev y_H_goBack : MethodName := ⟨"KissClearing$History", "goBack", "(ILKissClearing$Village;)V"⟩
abbrev b_H_goBack : ByteArray := prog_4_method_5_code
abbrev y_H_isFullFor : MethodName := ⟨"KissClearing$History", "isFullFor", "(I)Z"⟩
abbrev b_H_isFullFor : ByteArray := prog_4_method_2_code
abbrev y_H_save : MethodName := ⟨"KissClearing$History", "save", "(LKissClearing$Village;)V"⟩
abbrev b_H_save : ByteArray := prog_4_method_4_code
abbrev y_R_faultOf : MethodName := ⟨"KissClearing$Reader", "faultOf", "(LKissClearing$Strip;LKissClearing$Village;)I"⟩
abbrev b_R_faultOf : ByteArray := prog_5_method_2_code
abbrev y_R_numberOf : MethodName := ⟨"KissClearing$Reader", "numberOf", "(I[I)I"⟩
abbrev b_R_numberOf : ByteArray := prog_5_method_6_code
abbrev y_R_readDraft : MethodName := ⟨"KissClearing$Reader", "readDraft", "(LKissClearing$Strip;ILKissClearing$Village;)I"⟩
abbrev b_R_readDraft : ByteArray := prog_5_method_4_code
abbrev y_R_readPerson : MethodName := ⟨"KissClearing$Reader", "readPerson", "(ILKissClearing$Village;)Z"⟩
abbrev b_R_readPerson : ByteArray := prog_5_method_3_code
abbrev y_R_signAt : MethodName := ⟨"KissClearing$Reader", "signAt", "(LKissClearing$Strip;I)I"⟩
abbrev b_R_signAt : ByteArray := prog_5_method_5_code
abbrev y_G_init : MethodName := ⟨"KissClearing$Rings", "<init>", "()V"⟩
abbrev b_G_init : ByteArray := prog_6_method_1_code
abbrev y_G_extend : MethodName := ⟨"KissClearing$Rings", "extend", "(LKissClearing$Village;III)V"⟩
abbrev b_G_extend : ByteArray := prog_6_method_3_code
abbrev y_G_search : MethodName := ⟨"KissClearing$Rings", "search", "(LKissClearing$Village;I)V"⟩
abbrev b_G_search : ByteArray := prog_6_method_2_code
abbrev y_G_takeRing : MethodName := ⟨"KissClearing$Rings", "takeRing", "(LKissClearing$Village;II)V"⟩
abbrev b_G_takeRing : ByteArray := prog_6_method_4_code
abbrev y_O_init : MethodName := ⟨"KissClearing$Rounds", "<init>", "()V"⟩
abbrev b_O_init : ByteArray := prog_7_method_1_code
abbrev y_O_fewest : MethodName := ⟨"KissClearing$Rounds", "fewest", "()I"⟩
abbrev b_O_fewest : ByteArray := prog_7_method_3_code
abbrev y_O_fit : MethodName := ⟨"KissClearing$Rounds", "fit", "(III)Z"⟩
abbrev b_O_fit : ByteArray := prog_7_method_5_code
abbrev y_O_gather : MethodName := ⟨"KissClearing$Rounds", "gather", "(LKissClearing$Village;)V"⟩
abbrev b_O_gather : ByteArray := prog_7_method_2_code
abbrev y_O_mostOfOne : MethodName := ⟨"KissClearing$Rounds", "mostOfOne", "()I"⟩
abbrev b_O_mostOfOne : ByteArray := prog_7_method_4_code
abbrev y_S_init : MethodName := ⟨"KissClearing$Strip", "<init>", "(I)V"⟩
abbrev b_S_init : ByteArray := prog_8_method_1_code
abbrev y_S_findingAt : MethodName := ⟨"KissClearing$Strip", "findingAt", "(I)I"⟩
abbrev b_S_findingAt : ByteArray := prog_8_method_5_code
abbrev y_S_hasPlace : MethodName := ⟨"KissClearing$Strip", "hasPlace", "(I)Z"⟩
abbrev b_S_hasPlace : ByteArray := prog_8_method_3_code
abbrev y_S_hasStretch : MethodName := ⟨"KissClearing$Strip", "hasStretch", "(II)Z"⟩
abbrev b_S_hasStretch : ByteArray := prog_8_method_4_code
abbrev y_S_isMissing : MethodName := ⟨"KissClearing$Strip", "isMissing", "()Z"⟩
abbrev b_S_isMissing : ByteArray := prog_8_method_2_code
abbrev y_S_mixedInto : MethodName := ⟨"KissClearing$Strip", "mixedInto", "(J)J"⟩
abbrev b_S_mixedInto : ByteArray := prog_8_method_7_code
abbrev y_S_renew : MethodName := ⟨"KissClearing$Strip", "renew", "(II)V"⟩
abbrev b_S_renew : ByteArray := prog_8_method_6_code
abbrev y_V_init : MethodName := ⟨"KissClearing$Village", "<init>", "()V"⟩
abbrev b_V_init : ByteArray := prog_9_method_1_code
abbrev y_V_addDraft : MethodName := ⟨"KissClearing$Village", "addDraft", "(IIII)V"⟩
abbrev b_V_addDraft : ByteArray := prog_9_method_9_code
abbrev y_V_addPerson : MethodName := ⟨"KissClearing$Village", "addPerson", "(I)V"⟩
abbrev b_V_addPerson : ByteArray := prog_9_method_8_code
abbrev y_V_becomeEmpty : MethodName := ⟨"KissClearing$Village", "becomeEmpty", "()V"⟩
abbrev b_V_becomeEmpty : ByteArray := prog_9_method_6_code
abbrev y_V_becomeLike : MethodName := ⟨"KissClearing$Village", "becomeLike", "(LKissClearing$Village;)V"⟩
abbrev b_V_becomeLike : ByteArray := prog_9_method_7_code
abbrev y_V_clearRing : MethodName := ⟨"KissClearing$Village", "clearRing", "([II)I"⟩
abbrev b_V_clearRing : ByteArray := prog_9_method_30_code
abbrev y_V_clearedByHalving : MethodName := ⟨"KissClearing$Village", "clearedByHalving", "(I)I"⟩
abbrev b_V_clearedByHalving : ByteArray := prog_9_method_25_code
abbrev y_V_fallen : MethodName := ⟨"KissClearing$Village", "fallen", "(II)I"⟩
abbrev b_V_fallen : ByteArray := prog_9_method_32_code
abbrev y_V_growthFor : MethodName := ⟨"KissClearing$Village", "growthFor", "(I)I"⟩
abbrev b_V_growthFor : ByteArray := prog_9_method_14_code
abbrev y_V_hasDraft : MethodName := ⟨"KissClearing$Village", "hasDraft", "(I)Z"⟩
abbrev b_V_hasDraft : ByteArray := prog_9_method_5_code
abbrev y_V_hasPerson : MethodName := ⟨"KissClearing$Village", "hasPerson", "(I)Z"⟩
abbrev b_V_hasPerson : ByteArray := prog_9_method_3_code
abbrev y_V_hasTwo : MethodName := ⟨"KissClearing$Village", "hasTwo", "(II)Z"⟩
abbrev b_V_hasTwo : ByteArray := prog_9_method_4_code
abbrev y_V_isEmpty : MethodName := ⟨"KissClearing$Village", "isEmpty", "()Z"⟩
abbrev b_V_isEmpty : ByteArray := prog_9_method_2_code
abbrev y_V_isOfKind : MethodName := ⟨"KissClearing$Village", "isOfKind", "(II)Z"⟩
abbrev b_V_isOfKind : ByteArray := prog_9_method_11_code
abbrev y_V_isRing : MethodName := ⟨"KissClearing$Village", "isRing", "([II)Z"⟩
abbrev b_V_isRing : ByteArray := prog_9_method_29_code
abbrev y_V_kindOf : MethodName := ⟨"KissClearing$Village", "kindOf", "(I)I"⟩
abbrev b_V_kindOf : ByteArray := prog_9_method_10_code
abbrev y_V_kissesBetween : MethodName := ⟨"KissClearing$Village", "kissesBetween", "(III)I"⟩
abbrev b_V_kissesBetween : ByteArray := prog_9_method_22_code
abbrev y_V_kissesOfSort : MethodName := ⟨"KissClearing$Village", "kissesOfSort", "(I)I"⟩
abbrev b_V_kissesOfSort : ByteArray := prog_9_method_21_code
abbrev y_V_lessen : MethodName := ⟨"KissClearing$Village", "lessen", "(IIII)V"⟩
abbrev b_V_lessen : ByteArray := prog_9_method_27_code
abbrev y_V_netOwing : MethodName := ⟨"KissClearing$Village", "netOwing", "(II)I"⟩
abbrev b_V_netOwing : ByteArray := prog_9_method_23_code
abbrev y_V_netTwo : MethodName := ⟨"KissClearing$Village", "netTwo", "(II)I"⟩
abbrev b_V_netTwo : ByteArray := prog_9_method_26_code
abbrev y_V_openDrafts : MethodName := ⟨"KissClearing$Village", "openDrafts", "()I"⟩
abbrev b_V_openDrafts : ByteArray := prog_9_method_17_code
abbrev y_V_openOn : MethodName := ⟨"KissClearing$Village", "openOn", "(I)I"⟩
abbrev b_V_openOn : ByteArray := prog_9_method_19_code
abbrev y_V_openOwedTo : MethodName := ⟨"KissClearing$Village", "openOwedTo", "(I)I"⟩
abbrev b_V_openOwedTo : ByteArray := prog_9_method_18_code
abbrev y_V_owed : MethodName := ⟨"KissClearing$Village", "owed", "(II)I"⟩
abbrev b_V_owed : ByteArray := prog_9_method_16_code
abbrev y_V_owedByAny : MethodName := ⟨"KissClearing$Village", "owedByAny", "(I)I"⟩
abbrev b_V_owedByAny : ByteArray := prog_9_method_24_code
abbrev y_V_owing : MethodName := ⟨"KissClearing$Village", "owing", "(I)I"⟩
abbrev b_V_owing : ByteArray := prog_9_method_15_code
abbrev y_V_passWeek : MethodName := ⟨"KissClearing$Village", "passWeek", "()I"⟩
abbrev b_V_passWeek : ByteArray := prog_9_method_31_code
abbrev y_V_payTwo : MethodName := ⟨"KissClearing$Village", "payTwo", "(II)I"⟩
abbrev b_V_payTwo : ByteArray := prog_9_method_28_code
abbrev y_V_personsOfKind : MethodName := ⟨"KissClearing$Village", "personsOfKind", "(I)I"⟩
abbrev b_V_personsOfKind : ByteArray := prog_9_method_12_code
abbrev y_V_reserve : MethodName := ⟨"KissClearing$Village", "reserve", "(I)I"⟩
abbrev b_V_reserve : ByteArray := prog_9_method_13_code
abbrev y_V_souringFor : MethodName := ⟨"KissClearing$Village", "souringFor", "(I)I"⟩
abbrev b_V_souringFor : ByteArray := prog_9_method_20_code
abbrev y_M_init : MethodName := ⟨"KissClearingModel", "<init>", "()V"⟩
abbrev b_M_init : ByteArray := prog_11_method_1_code
abbrev y_M_addDraft : MethodName := ⟨"KissClearingModel", "addDraft", "(IIII)V"⟩
abbrev b_M_addDraft : ByteArray := prog_11_method_29_code
abbrev y_M_all : MethodName := ⟨"KissClearingModel", "all", "(I)I"⟩
abbrev b_M_all : ByteArray := prog_11_method_78_code
abbrev y_M_areDrafts : MethodName := ⟨"KissClearingModel", "areDrafts", "(I)Z"⟩
abbrev b_M_areDrafts : ByteArray := prog_11_method_62_code
abbrev y_M_areOpen : MethodName := ⟨"KissClearingModel", "areOpen", "(I)Z"⟩
abbrev b_M_areOpen : ByteArray := prog_11_method_99_code
abbrev y_M_areRates : MethodName := ⟨"KissClearingModel", "areRates", "(I)Z"⟩
abbrev b_M_areRates : ByteArray := prog_11_method_95_code
abbrev y_M_areTwo : MethodName := ⟨"KissClearingModel", "areTwo", "(II)Z"⟩
abbrev b_M_areTwo : ByteArray := prog_11_method_31_code
abbrev y_M_asked : MethodName := ⟨"KissClearingModel", "asked", "()I"⟩
abbrev b_M_asked : ByteArray := prog_11_method_106_code
abbrev y_M_at : MethodName := ⟨"KissClearingModel", "at", "(II)I"⟩
abbrev b_M_at : ByteArray := prog_11_method_13_code
abbrev y_M_aunts : MethodName := ⟨"KissClearingModel", "aunts", "()I"⟩
abbrev b_M_aunts : ByteArray := prog_11_method_111_code
abbrev y_M_beginRings : MethodName := ⟨"KissClearingModel", "beginRings", "(I)V"⟩
abbrev b_M_beginRings : ByteArray := prog_11_method_71_code
abbrev y_M_between : MethodName := ⟨"KissClearingModel", "between", "(III)I"⟩
abbrev b_M_between : ByteArray := prog_11_method_70_code
abbrev y_M_bits : MethodName := ⟨"KissClearingModel", "bits", "(I)I"⟩
abbrev b_M_bits : ByteArray := prog_11_method_4_code
abbrev y_M_blushes : MethodName := ⟨"KissClearingModel", "blushes", "(I)I"⟩
abbrev b_M_blushes : ByteArray := prog_11_method_101_code
abbrev y_M_canMeet : MethodName := ⟨"KissClearingModel", "canMeet", "(I)Z"⟩
abbrev b_M_canMeet : ByteArray := prog_11_method_91_code
abbrev y_M_clear : MethodName := ⟨"KissClearingModel", "clear", "(I)I"⟩
abbrev b_M_clear : ByteArray := prog_11_method_63_code
abbrev y_M_closes : MethodName := ⟨"KissClearingModel", "closes", "()Z"⟩
abbrev b_M_closes : ByteArray := prog_11_method_74_code
abbrev y_M_copy : MethodName := ⟨"KissClearingModel", "copy", "(IIIII)I"⟩
abbrev b_M_copy : ByteArray := prog_11_method_16_code
abbrev y_M_copyVillage : MethodName := ⟨"KissClearingModel", "copyVillage", "(II)V"⟩
abbrev b_M_copyVillage : ByteArray := prog_11_method_67_code
abbrev y_M_count : MethodName := ⟨"KissClearingModel", "count", "(I)I"⟩
abbrev b_M_count : ByteArray := prog_11_method_114_code
abbrev y_M_countOf : MethodName := ⟨"KissClearingModel", "countOf", "(I)I"⟩
abbrev b_M_countOf : ByteArray := prog_11_method_113_code
abbrev y_M_digest : MethodName := ⟨"KissClearingModel", "digest", "()J"⟩
abbrev b_M_digest : ByteArray := prog_11_method_117_code
abbrev y_M_divisor : MethodName := ⟨"KissClearingModel", "divisor", "(II)I"⟩
abbrev b_M_divisor : ByteArray := prog_11_method_103_code
abbrev y_M_doMeet : MethodName := ⟨"KissClearingModel", "doMeet", "(II)I"⟩
abbrev b_M_doMeet : ByteArray := prog_11_method_59_code
abbrev y_M_draft : MethodName := ⟨"KissClearingModel", "draft", "(II)I"⟩
abbrev b_M_draft : ByteArray := prog_11_method_44_code
abbrev y_M_endorse : MethodName := ⟨"KissClearingModel", "endorse", "(II)I"⟩
abbrev b_M_endorse : ByteArray := prog_11_method_64_code
abbrev y_M_fallen : MethodName := ⟨"KissClearingModel", "fallen", "(III)I"⟩
abbrev b_M_fallen : ByteArray := prog_11_method_83_code
abbrev y_M_falls : MethodName := ⟨"KissClearingModel", "falls", "(I)I"⟩
abbrev b_M_falls : ByteArray := prog_11_method_84_code
abbrev y_M_fault : MethodName := ⟨"KissClearingModel", "fault", "(I)I"⟩
abbrev b_M_fault : ByteArray := prog_11_method_27_code
abbrev y_M_faultOf : MethodName := ⟨"KissClearingModel", "faultOf", "(I)I"⟩
abbrev b_M_faultOf : ByteArray := prog_11_method_26_code
abbrev y_M_figure : MethodName := ⟨"KissClearingModel", "figure", "(III)I"⟩
abbrev b_M_figure : ByteArray := prog_11_method_22_code
abbrev y_M_find : MethodName := ⟨"KissClearingModel", "find", "(I)I"⟩
abbrev b_M_find : ByteArray := prog_11_method_5_code
abbrev y_M_finding : MethodName := ⟨"KissClearingModel", "finding", "()I"⟩
abbrev b_M_finding : ByteArray := prog_11_method_115_code
abbrev y_M_findings : MethodName := ⟨"KissClearingModel", "findings", "(I)I"⟩
abbrev b_M_findings : ByteArray := prog_11_method_116_code
abbrev y_M_fits : MethodName := ⟨"KissClearingModel", "fits", "(II)Z"⟩
abbrev b_M_fits : ByteArray := prog_11_method_98_code
abbrev y_M_following : MethodName := ⟨"KissClearingModel", "following", "(I)I"⟩
abbrev b_M_following : ByteArray := prog_11_method_73_code
abbrev y_M_follows : MethodName := ⟨"KissClearingModel", "follows", "(I)Z"⟩
abbrev b_M_follows : ByteArray := prog_11_method_72_code
abbrev y_M_gain : MethodName := ⟨"KissClearingModel", "gain", "(I)I"⟩
abbrev b_M_gain : ByteArray := prog_11_method_96_code
abbrev y_M_given : MethodName := ⟨"KissClearingModel", "given", "(II)I"⟩
abbrev b_M_given : ByteArray := prog_11_method_58_code
abbrev y_M_growth : MethodName := ⟨"KissClearingModel", "growth", "(I)I"⟩
abbrev b_M_growth : ByteArray := prog_11_method_47_code
abbrev y_M_has : MethodName := ⟨"KissClearingModel", "has", "(II)Z"⟩
abbrev b_M_has : ByteArray := prog_11_method_3_code
abbrev y_M_here : MethodName := ⟨"KissClearingModel", "here", "()I"⟩
abbrev b_M_here : ByteArray := prog_11_method_20_code
abbrev y_M_in : MethodName := ⟨"KissClearingModel", "in", "(JJJ)Z"⟩
abbrev b_M_in : ByteArray := prog_11_method_2_code
abbrev y_M_isAunt : MethodName := ⟨"KissClearingModel", "isAunt", "(I)Z"⟩
abbrev b_M_isAunt : ByteArray := prog_11_method_45_code
abbrev y_M_isBusy : MethodName := ⟨"KissClearingModel", "isBusy", "(I)Z"⟩
abbrev b_M_isBusy : ByteArray := prog_11_method_90_code
abbrev y_M_isDraft : MethodName := ⟨"KissClearingModel", "isDraft", "(I)Z"⟩
abbrev b_M_isDraft : ByteArray := prog_11_method_32_code
abbrev y_M_isFull : MethodName := ⟨"KissClearingModel", "isFull", "()Z"⟩
abbrev b_M_isFull : ByteArray := prog_11_method_53_code
abbrev y_M_isOf : MethodName := ⟨"KissClearingModel", "isOf", "(II)Z"⟩
abbrev b_M_isOf : ByteArray := prog_11_method_46_code
abbrev y_M_isOn : MethodName := ⟨"KissClearingModel", "isOn", "(III)Z"⟩
abbrev b_M_isOn : ByteArray := prog_11_method_36_code
abbrev y_M_isOpen : MethodName := ⟨"KissClearingModel", "isOpen", "(I)Z"⟩
abbrev b_M_isOpen : ByteArray := prog_11_method_35_code
abbrev y_M_isOpenBetween : MethodName := ⟨"KissClearingModel", "isOpenBetween", "(II)Z"⟩
abbrev b_M_isOpenBetween : ByteArray := prog_11_method_87_code
abbrev y_M_isPerson : MethodName := ⟨"KissClearingModel", "isPerson", "(I)Z"⟩
abbrev b_M_isPerson : ByteArray := prog_11_method_30_code
abbrev y_M_isRing : MethodName := ⟨"KissClearingModel", "isRing", "(I)Z"⟩
abbrev b_M_isRing : ByteArray := prog_11_method_61_code
abbrev y_M_isRow : MethodName := ⟨"KissClearingModel", "isRow", "(I)Z"⟩
abbrev b_M_isRow : ByteArray := prog_11_method_7_code
abbrev y_M_isSpan : MethodName := ⟨"KissClearingModel", "isSpan", "(III)Z"⟩
abbrev b_M_isSpan : ByteArray := prog_11_method_15_code
abbrev y_M_isText : MethodName := ⟨"KissClearingModel", "isText", "(I)Z"⟩
abbrev b_M_isText : ByteArray := prog_11_method_8_code
abbrev y_M_keep : MethodName := ⟨"KissClearingModel", "keep", "(I)I"⟩
abbrev b_M_keep : ByteArray := prog_11_method_68_code
abbrev y_M_keepPast : MethodName := ⟨"KissClearingModel", "keepPast", "()V"⟩
abbrev b_M_keepPast : ByteArray := prog_11_method_52_code
abbrev y_M_kindOfLetter : MethodName := ⟨"KissClearingModel", "kindOfLetter", "(I)I"⟩
abbrev b_M_kindOfLetter : ByteArray := prog_11_method_23_code
abbrev y_M_lay : MethodName := ⟨"KissClearingModel", "lay", "(III)I"⟩
abbrev b_M_lay : ByteArray := prog_11_method_12_code
abbrev y_M_layBest : MethodName := ⟨"KissClearingModel", "layBest", "()Z"⟩
abbrev b_M_layBest : ByteArray := prog_11_method_79_code
abbrev y_M_layBlushes : MethodName := ⟨"KissClearingModel", "layBlushes", "(I)I"⟩
abbrev b_M_layBlushes : ByteArray := prog_11_method_100_code
abbrev y_M_layPairs : MethodName := ⟨"KissClearingModel", "layPairs", "()V"⟩
abbrev b_M_layPairs : ByteArray := prog_11_method_88_code
abbrev y_M_leastOfRing : MethodName := ⟨"KissClearingModel", "leastOfRing", "()I"⟩
abbrev b_M_leastOfRing : ByteArray := prog_11_method_76_code
abbrev y_M_leave : MethodName := ⟨"KissClearingModel", "leave", "(II)V"⟩
abbrev b_M_leave : ByteArray := prog_11_method_34_code
abbrev y_M_left : MethodName := ⟨"KissClearingModel", "left", "(I)I"⟩
abbrev b_M_left : ByteArray := prog_11_method_82_code
abbrev y_M_lessen : MethodName := ⟨"KissClearingModel", "lessen", "(IIII)V"⟩
abbrev b_M_lessen : ByteArray := prog_11_method_57_code
abbrev y_M_lots : MethodName := ⟨"KissClearingModel", "lots", "(II)I"⟩
abbrev b_M_lots : ByteArray := prog_11_method_105_code
abbrev y_M_lower : MethodName := ⟨"KissClearingModel", "lower", "()J"⟩
abbrev b_M_lower : ByteArray := prog_11_method_108_code
abbrev y_M_makeRow : MethodName := ⟨"KissClearingModel", "makeRow", "(II)V"⟩
abbrev b_M_makeRow : ByteArray := prog_11_method_10_code
abbrev y_M_mark : MethodName := ⟨"KissClearingModel", "mark", "(II)I"⟩
abbrev b_M_mark : ByteArray := prog_11_method_51_code
abbrev y_M_mean : MethodName := ⟨"KissClearingModel", "mean", "(I)I"⟩
abbrev b_M_mean : ByteArray := prog_11_method_17_code
abbrev y_M_meet : MethodName := ⟨"KissClearingModel", "meet", "(II)I"⟩
abbrev b_M_meet : ByteArray := prog_11_method_60_code
abbrev y_M_mistletoe : MethodName := ⟨"KissClearingModel", "mistletoe", "()I"⟩
abbrev b_M_mistletoe : ByteArray := prog_11_method_93_code
abbrev y_M_net : MethodName := ⟨"KissClearingModel", "net", "(I)I"⟩
abbrev b_M_net : ByteArray := prog_11_method_81_code
abbrev y_M_netted : MethodName := ⟨"KissClearingModel", "netted", "(III)I"⟩
abbrev b_M_netted : ByteArray := prog_11_method_56_code
abbrev y_M_nextRing : MethodName := ⟨"KissClearingModel", "nextRing", "()Z"⟩
abbrev b_M_nextRing : ByteArray := prog_11_method_75_code
abbrev y_M_odds : MethodName := ⟨"KissClearingModel", "odds", "()I"⟩
abbrev b_M_odds : ByteArray := prog_11_method_104_code
abbrev y_M_of : MethodName := ⟨"KissClearingModel", "of", "(II)I"⟩
abbrev b_M_of : ByteArray := prog_11_method_33_code
abbrev y_M_on : MethodName := ⟨"KissClearingModel", "on", "(I)I"⟩
abbrev b_M_on : ByteArray := prog_11_method_69_code
abbrev y_M_openKisses : MethodName := ⟨"KissClearingModel", "openKisses", "()I"⟩
abbrev b_M_openKisses : ByteArray := prog_11_method_110_code
abbrev y_M_openMany : MethodName := ⟨"KissClearingModel", "openMany", "()I"⟩
abbrev b_M_openMany : ByteArray := prog_11_method_109_code
abbrev y_M_openOn : MethodName := ⟨"KissClearingModel", "openOn", "(I)I"⟩
abbrev b_M_openOn : ByteArray := prog_11_method_49_code
abbrev y_M_openTo : MethodName := ⟨"KissClearingModel", "openTo", "(I)I"⟩
abbrev b_M_openTo : ByteArray := prog_11_method_48_code
abbrev y_M_owe : MethodName := ⟨"KissClearingModel", "owe", "(II)I"⟩
abbrev b_M_owe : ByteArray := prog_11_method_54_code
abbrev y_M_owed : MethodName := ⟨"KissClearingModel", "owed", "(II)I"⟩
abbrev b_M_owed : ByteArray := prog_11_method_39_code
abbrev y_M_owesTo : MethodName := ⟨"KissClearingModel", "owesTo", "(I)I"⟩
abbrev b_M_owesTo : ByteArray := prog_11_method_41_code
abbrev y_M_owing : MethodName := ⟨"KissClearingModel", "owing", "(I)I"⟩
abbrev b_M_owing : ByteArray := prog_11_method_38_code
abbrev y_M_pairs : MethodName := ⟨"KissClearingModel", "pairs", "()I"⟩
abbrev b_M_pairs : ByteArray := prog_11_method_89_code
abbrev y_M_person : MethodName := ⟨"KissClearingModel", "person", "(II)I"⟩
abbrev b_M_person : ByteArray := prog_11_method_43_code
abbrev y_M_put : MethodName := ⟨"KissClearingModel", "put", "(III)I"⟩
abbrev b_M_put : ByteArray := prog_11_method_19_code
abbrev y_M_rate : MethodName := ⟨"KissClearingModel", "rate", "(II)J"⟩
abbrev b_M_rate : ByteArray := prog_11_method_94_code
abbrev y_M_readsDraft : MethodName := ⟨"KissClearingModel", "readsDraft", "()Z"⟩
abbrev b_M_readsDraft : ByteArray := prog_11_method_25_code
abbrev y_M_readsPerson : MethodName := ⟨"KissClearingModel", "readsPerson", "()Z"⟩
abbrev b_M_readsPerson : ByteArray := prog_11_method_24_code
abbrev y_M_refused : MethodName := ⟨"KissClearingModel", "refused", "(II)I"⟩
abbrev b_M_refused : ByteArray := prog_11_method_11_code
abbrev y_M_reserve : MethodName := ⟨"KissClearingModel", "reserve", "(I)I"⟩
abbrev b_M_reserve : ByteArray := prog_11_method_40_code
abbrev y_M_ring : MethodName := ⟨"KissClearingModel", "ring", "(II)I"⟩
abbrev b_M_ring : ByteArray := prog_11_method_80_code
abbrev y_M_ringsOf : MethodName := ⟨"KissClearingModel", "ringsOf", "(II)I"⟩
abbrev b_M_ringsOf : ByteArray := prog_11_method_77_code
abbrev y_M_rounds : MethodName := ⟨"KissClearingModel", "rounds", "()I"⟩
abbrev b_M_rounds : ByteArray := prog_11_method_92_code
abbrev y_M_row : MethodName := ⟨"KissClearingModel", "row", "(II)I"⟩
abbrev b_M_row : ByteArray := prog_11_method_9_code
abbrev y_M_saved : MethodName := ⟨"KissClearingModel", "saved", "(II)I"⟩
abbrev b_M_saved : ByteArray := prog_11_method_86_code
abbrev y_M_skip : MethodName := ⟨"KissClearingModel", "skip", "()V"⟩
abbrev b_M_skip : ByteArray := prog_11_method_21_code
abbrev y_M_souring : MethodName := ⟨"KissClearingModel", "souring", "(I)I"⟩
abbrev b_M_souring : ByteArray := prog_11_method_50_code
abbrev y_M_sumOf : MethodName := ⟨"KissClearingModel", "sumOf", "(III)I"⟩
abbrev b_M_sumOf : ByteArray := prog_11_method_55_code
abbrev y_M_sure : MethodName := ⟨"KissClearingModel", "sure", "(I)I"⟩
abbrev b_M_sure : ByteArray := prog_11_method_102_code
abbrev y_M_tear : MethodName := ⟨"KissClearingModel", "tear", "(I)I"⟩
abbrev b_M_tear : ByteArray := prog_11_method_14_code
abbrev y_M_tell : MethodName := ⟨"KissClearingModel", "tell", "(I)I"⟩
abbrev b_M_tell : ByteArray := prog_11_method_6_code
abbrev y_M_text : MethodName := ⟨"KissClearingModel", "text", "(II)I"⟩
abbrev b_M_text : ByteArray := prog_11_method_18_code
abbrev y_M_thereOf : MethodName := ⟨"KissClearingModel", "thereOf", "(I)I"⟩
abbrev b_M_thereOf : ByteArray := prog_11_method_112_code
abbrev y_M_toldOf : MethodName := ⟨"KissClearingModel", "toldOf", "(II)I"⟩
abbrev b_M_toldOf : ByteArray := prog_11_method_42_code
abbrev y_M_trust : MethodName := ⟨"KissClearingModel", "trust", "(II)I"⟩
abbrev b_M_trust : ByteArray := prog_11_method_97_code
abbrev y_M_undo : MethodName := ⟨"KissClearingModel", "undo", "(I)I"⟩
abbrev b_M_undo : ByteArray := prog_11_method_66_code
abbrev y_M_upper : MethodName := ⟨"KissClearingModel", "upper", "()J"⟩
abbrev b_M_upper : ByteArray := prog_11_method_107_code
abbrev y_M_village : MethodName := ⟨"KissClearingModel", "village", "(I)I"⟩
abbrev b_M_village : ByteArray := prog_11_method_28_code
abbrev y_M_week : MethodName := ⟨"KissClearingModel", "week", "()I"⟩
abbrev b_M_week : ByteArray := prog_11_method_65_code
abbrev y_M_worst : MethodName := ⟨"KissClearingModel", "worst", "()I"⟩
abbrev b_M_worst : ByteArray := prog_11_method_85_code
abbrev y_M_worth : MethodName := ⟨"KissClearingModel", "worth", "(I)I"⟩
abbrev b_M_worth : ByteArray := prog_11_method_37_code
abbrev y_J_bitCount : MethodName := ⟨"java/lang/Integer", "bitCount", "(I)I"⟩
abbrev b_J_bitCount : ByteArray := prog_12_method_49_code
abbrev y_T_max : MethodName := ⟨"java/lang/Math", "max", "(II)I"⟩
abbrev b_T_max : ByteArray := prog_13_method_65_code
abbrev y_T_min : MethodName := ⟨"java/lang/Math", "min", "(II)I"⟩
abbrev b_T_min : ByteArray := prog_13_method_69_code
theorem wN_L : Cond.initialized "KissClearingLaw" ∈ wl := in_wl (in_t1 (List.mem_of_getElem? (i := 0) rfl)) rfl
theorem wN_K : Cond.initialized "KissClearing" ∈ wl := in_wl (in_t1 (List.mem_of_getElem? (i := 1) rfl)) rfl
theorem wN_V : Cond.initialized "KissClearing$Village" ∈ wl := in_wl (in_t1 (List.mem_of_getElem? (i := 2) rfl)) rfl
theorem wN_D : Cond.initialized "KissClearing$Draft" ∈ wl := in_wl (in_t1 (List.mem_of_getElem? (i := 3) rfl)) rfl
theorem wN_H : Cond.initialized "KissClearing$History" ∈ wl := in_wl (in_t1 (List.mem_of_getElem? (i := 4) rfl)) rfl
theorem wN_G : Cond.initialized "KissClearing$Rings" ∈ wl := in_wl (in_t1 (List.mem_of_getElem? (i := 5) rfl)) rfl
theorem wN_O : Cond.initialized "KissClearing$Rounds" ∈ wl := in_wl (in_t1 (List.mem_of_getElem? (i := 6) rfl)) rfl
theorem wN_B : Cond.initialized "KissClearing$Blushes" ∈ wl := in_wl (in_t1 (List.mem_of_getElem? (i := 7) rfl)) rfl
theorem wN_S : Cond.initialized "KissClearing$Strip" ∈ wl := in_wl (in_t1 (List.mem_of_getElem? (i := 8) rfl)) rfl
theorem wN_M : Cond.initialized "KissClearingModel" ∈ wl := in_wl (in_t1 (List.mem_of_getElem? (i := 9) rfl)) rfl
theorem wN_Y : Cond.initialized "java/lang/System" ∈ wl := in_wl (in_t1 (List.mem_of_getElem? (i := 10) rfl)) rfl
theorem wN_R : Cond.initialized "KissClearing$Reader" ∈ wl := in_wl (in_t1 (List.mem_of_getElem? (i := 11) rfl)) rfl
theorem wN_J : Cond.initialized "java/lang/Integer" ∈ wl := in_wl (in_t1 (List.mem_of_getElem? (i := 12) rfl)) rfl
theorem wN_T : Cond.initialized "java/lang/Math" ∈ wl := in_wl (in_t1 (List.mem_of_getElem? (i := 13) rfl)) rfl
theorem wK_L_7 : Cond.classLink "KissClearingLaw" 7 "KissClearing" ∈ wl := in_wl (in_t1 (List.mem_of_getElem? (i := 14) rfl)) rfl
theorem wE_K : Cond.instantiable "KissClearing" 14 ∈ wl := in_wl (in_t1 (List.mem_of_getElem? (i := 15) rfl)) rfl
theorem wL_L_9 : Cond.methodLink "KissClearingLaw" 9 (⟨"KissClearing", "<init>", "()V"⟩ : MethodName) ∈ wl := in_wl (in_t1 (List.mem_of_getElem? (i := 16) rfl)) rfl
theorem wI_K_init : Cond.instanceMethod (⟨"KissClearing", "<init>", "()V"⟩ : MethodName) ∈ wl := in_wl (in_t1 (List.mem_of_getElem? (i := 17) rfl)) rfl
theorem wL_K_1 : Cond.methodLink "KissClearing" 1 (⟨"java/lang/Object", "<init>", "()V"⟩ : MethodName) ∈ wl := in_wl (in_t1 (List.mem_of_getElem? (i := 19) rfl)) rfl
theorem wK_K_9 : Cond.classLink "KissClearing" 9 "KissClearing$Strip" ∈ wl := in_wl (in_t1 (List.mem_of_getElem? (i := 22) rfl)) rfl
theorem wK_K_18 : Cond.classLink "KissClearing" 18 "KissClearing$Village" ∈ wl := in_wl (in_t1 (List.mem_of_getElem? (i := 24) rfl)) rfl
theorem wE_V : Cond.instantiable "KissClearing$Village" 4 ∈ wl := in_wl (in_t1 (List.mem_of_getElem? (i := 25) rfl)) rfl
theorem wL_K_20 : Cond.methodLink "KissClearing" 20 (⟨"KissClearing$Village", "<init>", "()V"⟩ : MethodName) ∈ wl := in_wl (in_t1 (List.mem_of_getElem? (i := 26) rfl)) rfl
theorem wI_V_init : Cond.instanceMethod (⟨"KissClearing$Village", "<init>", "()V"⟩ : MethodName) ∈ wl := in_wl (in_t1 (List.mem_of_getElem? (i := 27) rfl)) rfl
theorem wL_V_3 : Cond.methodLink "KissClearing$Village" 3 (⟨"java/lang/Object", "<init>", "()V"⟩ : MethodName) ∈ wl := in_wl (in_t1 (List.mem_of_getElem? (i := 29) rfl)) rfl
theorem wK_V_22 : Cond.classLink "KissClearing$Village" 22 "KissClearing$Draft" ∈ wl := in_wl (in_t1 (List.mem_of_getElem? (i := 30) rfl)) rfl
theorem wE_D : Cond.instantiable "KissClearing$Draft" 6 ∈ wl := in_wl (in_t1 (List.mem_of_getElem? (i := 32) rfl)) rfl
theorem wI_D_init : Cond.instanceMethod (⟨"KissClearing$Draft", "<init>", "()V"⟩ : MethodName) ∈ wl := in_wl (in_t1 (List.mem_of_getElem? (i := 34) rfl)) rfl
theorem wL_D_1 : Cond.methodLink "KissClearing$Draft" 1 (⟨"java/lang/Object", "<init>", "()V"⟩ : MethodName) ∈ wl := in_wl (in_t1 (List.mem_of_getElem? (i := 36) rfl)) rfl
theorem wF_G_49 : Cond.fieldLink "KissClearing$Rings" 49 "KissClearing$Draft" "who" "I" ∈ wl := in_wl (in_t1 (List.mem_of_getElem? (i := 37) rfl)) rfl
theorem wF_B_54 : Cond.fieldLink "KissClearing$Blushes" 54 "KissClearing$Draft" "who" "I" ∈ wl := in_wl (in_t1 (List.mem_of_getElem? (i := 38) rfl)) rfl
theorem wF_D_16 : Cond.fieldLink "KissClearing$Draft" 16 "KissClearing$Draft" "who" "I" ∈ wl := in_wl (in_t1 (List.mem_of_getElem? (i := 39) rfl)) rfl
theorem wF_V_58 : Cond.fieldLink "KissClearing$Village" 58 "KissClearing$Draft" "who" "I" ∈ wl := in_wl (in_t1 (List.mem_of_getElem? (i := 40) rfl)) rfl
theorem wF_K_217 : Cond.fieldLink "KissClearing" 217 "KissClearing$Draft" "who" "I" ∈ wl := in_wl (in_t1 (List.mem_of_getElem? (i := 41) rfl)) rfl
theorem wF_G_59 : Cond.fieldLink "KissClearing$Rings" 59 "KissClearing$Draft" "whom" "I" ∈ wl := in_wl (in_t1 (List.mem_of_getElem? (i := 42) rfl)) rfl
theorem wF_B_57 : Cond.fieldLink "KissClearing$Blushes" 57 "KissClearing$Draft" "whom" "I" ∈ wl := in_wl (in_t1 (List.mem_of_getElem? (i := 43) rfl)) rfl
theorem wF_D_19 : Cond.fieldLink "KissClearing$Draft" 19 "KissClearing$Draft" "whom" "I" ∈ wl := in_wl (in_t1 (List.mem_of_getElem? (i := 44) rfl)) rfl
theorem wF_V_65 : Cond.fieldLink "KissClearing$Village" 65 "KissClearing$Draft" "whom" "I" ∈ wl := in_wl (in_t1 (List.mem_of_getElem? (i := 45) rfl)) rfl
theorem wF_K_228 : Cond.fieldLink "KissClearing" 228 "KissClearing$Draft" "whom" "I" ∈ wl := in_wl (in_t1 (List.mem_of_getElem? (i := 46) rfl)) rfl
theorem wF_D_13 : Cond.fieldLink "KissClearing$Draft" 13 "KissClearing$Draft" "sort" "I" ∈ wl := in_wl (in_t1 (List.mem_of_getElem? (i := 47) rfl)) rfl
theorem wF_G_66 : Cond.fieldLink "KissClearing$Rings" 66 "KissClearing$Draft" "sort" "I" ∈ wl := in_wl (in_t1 (List.mem_of_getElem? (i := 48) rfl)) rfl
theorem wF_V_72 : Cond.fieldLink "KissClearing$Village" 72 "KissClearing$Draft" "sort" "I" ∈ wl := in_wl (in_t1 (List.mem_of_getElem? (i := 49) rfl)) rfl
theorem wF_K_355 : Cond.fieldLink "KissClearing" 355 "KissClearing$Draft" "sort" "I" ∈ wl := in_wl (in_t1 (List.mem_of_getElem? (i := 50) rfl)) rfl
theorem wF_D_7 : Cond.fieldLink "KissClearing$Draft" 7 "KissClearing$Draft" "kisses" "I" ∈ wl := in_wl (in_t1 (List.mem_of_getElem? (i := 51) rfl)) rfl
theorem wF_G_52 : Cond.fieldLink "KissClearing$Rings" 52 "KissClearing$Draft" "kisses" "I" ∈ wl := in_wl (in_t1 (List.mem_of_getElem? (i := 52) rfl)) rfl
theorem wF_B_45 : Cond.fieldLink "KissClearing$Blushes" 45 "KissClearing$Draft" "kisses" "I" ∈ wl := in_wl (in_t1 (List.mem_of_getElem? (i := 53) rfl)) rfl
theorem wF_V_78 : Cond.fieldLink "KissClearing$Village" 78 "KissClearing$Draft" "kisses" "I" ∈ wl := in_wl (in_t1 (List.mem_of_getElem? (i := 54) rfl)) rfl
theorem wF_K_358 : Cond.fieldLink "KissClearing" 358 "KissClearing$Draft" "kisses" "I" ∈ wl := in_wl (in_t1 (List.mem_of_getElem? (i := 55) rfl)) rfl
theorem wF_D_22 : Cond.fieldLink "KissClearing$Draft" 22 "KissClearing$Draft" "weeks" "I" ∈ wl := in_wl (in_t1 (List.mem_of_getElem? (i := 56) rfl)) rfl
theorem wF_V_75 : Cond.fieldLink "KissClearing$Village" 75 "KissClearing$Draft" "weeks" "I" ∈ wl := in_wl (in_t1 (List.mem_of_getElem? (i := 57) rfl)) rfl
theorem wF_K_361 : Cond.fieldLink "KissClearing" 361 "KissClearing$Draft" "weeks" "I" ∈ wl := in_wl (in_t1 (List.mem_of_getElem? (i := 58) rfl)) rfl
theorem wF_D_25 : Cond.fieldLink "KissClearing$Draft" 25 "KissClearing$Draft" "endorsed" "I" ∈ wl := in_wl (in_t1 (List.mem_of_getElem? (i := 59) rfl)) rfl
theorem wF_K_225 : Cond.fieldLink "KissClearing" 225 "KissClearing$Draft" "endorsed" "I" ∈ wl := in_wl (in_t1 (List.mem_of_getElem? (i := 60) rfl)) rfl
theorem warr : Cond.arrayClass .int ∈ wl := in_wl (in_t1 (List.mem_of_getElem? (i := 74) rfl)) rfl
theorem wF_V_9 : Cond.fieldLink "KissClearing$Village" 9 "KissClearing$Village" "personCount" "I" ∈ wl := in_wl (in_t1 (List.mem_of_getElem? (i := 75) rfl)) rfl
theorem wF_O_25 : Cond.fieldLink "KissClearing$Rounds" 25 "KissClearing$Village" "personCount" "I" ∈ wl := in_wl (in_t1 (List.mem_of_getElem? (i := 76) rfl)) rfl
theorem wF_B_25 : Cond.fieldLink "KissClearing$Blushes" 25 "KissClearing$Village" "personCount" "I" ∈ wl := in_wl (in_t1 (List.mem_of_getElem? (i := 77) rfl)) rfl
theorem wF_R_34 : Cond.fieldLink "KissClearing$Reader" 34 "KissClearing$Village" "personCount" "I" ∈ wl := in_wl (in_t1 (List.mem_of_getElem? (i := 78) rfl)) rfl
theorem wF_K_135 : Cond.fieldLink "KissClearing" 135 "KissClearing$Village" "personCount" "I" ∈ wl := in_wl (in_t1 (List.mem_of_getElem? (i := 79) rfl)) rfl
theorem wF_V_15 : Cond.fieldLink "KissClearing$Village" 15 "KissClearing$Village" "draftCount" "I" ∈ wl := in_wl (in_t1 (List.mem_of_getElem? (i := 80) rfl)) rfl
theorem wF_G_34 : Cond.fieldLink "KissClearing$Rings" 34 "KissClearing$Village" "draftCount" "I" ∈ wl := in_wl (in_t1 (List.mem_of_getElem? (i := 81) rfl)) rfl
theorem wF_B_30 : Cond.fieldLink "KissClearing$Blushes" 30 "KissClearing$Village" "draftCount" "I" ∈ wl := in_wl (in_t1 (List.mem_of_getElem? (i := 82) rfl)) rfl
theorem wF_R_45 : Cond.fieldLink "KissClearing$Reader" 45 "KissClearing$Village" "draftCount" "I" ∈ wl := in_wl (in_t1 (List.mem_of_getElem? (i := 83) rfl)) rfl
theorem wF_H_30 : Cond.fieldLink "KissClearing$History" 30 "KissClearing$Village" "draftCount" "I" ∈ wl := in_wl (in_t1 (List.mem_of_getElem? (i := 84) rfl)) rfl
theorem wF_K_186 : Cond.fieldLink "KissClearing" 186 "KissClearing$Village" "draftCount" "I" ∈ wl := in_wl (in_t1 (List.mem_of_getElem? (i := 85) rfl)) rfl
theorem wF_V_18 : Cond.fieldLink "KissClearing$Village" 18 "KissClearing$Village" "kinds" "[I" ∈ wl := in_wl (in_t1 (List.mem_of_getElem? (i := 86) rfl)) rfl
theorem wF_V_24 : Cond.fieldLink "KissClearing$Village" 24 "KissClearing$Village" "drafts" "[LKissClearing$Draft;" ∈ wl := in_wl (in_t1 (List.mem_of_getElem? (i := 87) rfl)) rfl
theorem wF_G_39 : Cond.fieldLink "KissClearing$Rings" 39 "KissClearing$Village" "drafts" "[LKissClearing$Draft;" ∈ wl := in_wl (in_t1 (List.mem_of_getElem? (i := 88) rfl)) rfl
theorem wF_B_41 : Cond.fieldLink "KissClearing$Blushes" 41 "KissClearing$Village" "drafts" "[LKissClearing$Draft;" ∈ wl := in_wl (in_t1 (List.mem_of_getElem? (i := 89) rfl)) rfl
theorem wF_H_35 : Cond.fieldLink "KissClearing$History" 35 "KissClearing$Village" "drafts" "[LKissClearing$Draft;" ∈ wl := in_wl (in_t1 (List.mem_of_getElem? (i := 90) rfl)) rfl
theorem wF_K_213 : Cond.fieldLink "KissClearing" 213 "KissClearing$Village" "drafts" "[LKissClearing$Draft;" ∈ wl := in_wl (in_t1 (List.mem_of_getElem? (i := 91) rfl)) rfl
theorem wK_K_28 : Cond.classLink "KissClearing" 28 "KissClearing$History" ∈ wl := in_wl (in_t1 (List.mem_of_getElem? (i := 101) rfl)) rfl
theorem wE_H : Cond.instantiable "KissClearing$History" 3 ∈ wl := in_wl (in_t1 (List.mem_of_getElem? (i := 102) rfl)) rfl
theorem wI_H_init : Cond.instanceMethod (⟨"KissClearing$History", "<init>", "()V"⟩ : MethodName) ∈ wl := in_wl (in_t1 (List.mem_of_getElem? (i := 104) rfl)) rfl
theorem wL_H_3 : Cond.methodLink "KissClearing$History" 3 (⟨"java/lang/Object", "<init>", "()V"⟩ : MethodName) ∈ wl := in_wl (in_t1 (List.mem_of_getElem? (i := 106) rfl)) rfl
theorem wF_H_9 : Cond.fieldLink "KissClearing$History" 9 "KissClearing$History" "deeds" "I" ∈ wl := in_wl (in_t1 (List.mem_of_getElem? (i := 107) rfl)) rfl
theorem wF_K_81 : Cond.fieldLink "KissClearing" 81 "KissClearing$History" "deeds" "I" ∈ wl := in_wl (in_t1 (List.mem_of_getElem? (i := 108) rfl)) rfl
theorem wF_H_15 : Cond.fieldLink "KissClearing$History" 15 "KissClearing$History" "counts" "[I" ∈ wl := in_wl (in_t1 (List.mem_of_getElem? (i := 109) rfl)) rfl
theorem wF_H_19 : Cond.fieldLink "KissClearing$History" 19 "KissClearing$History" "pages" "[I" ∈ wl := in_wl (in_t1 (List.mem_of_getElem? (i := 110) rfl)) rfl
theorem wK_K_39 : Cond.classLink "KissClearing" 39 "KissClearing$Rings" ∈ wl := in_wl (in_t1 (List.mem_of_getElem? (i := 119) rfl)) rfl
theorem wE_G : Cond.instantiable "KissClearing$Rings" 7 ∈ wl := in_wl (in_t1 (List.mem_of_getElem? (i := 120) rfl)) rfl
theorem wI_G_init : Cond.instanceMethod (⟨"KissClearing$Rings", "<init>", "()V"⟩ : MethodName) ∈ wl := in_wl (in_t1 (List.mem_of_getElem? (i := 122) rfl)) rfl
theorem wL_G_3 : Cond.methodLink "KissClearing$Rings" 3 (⟨"java/lang/Object", "<init>", "()V"⟩ : MethodName) ∈ wl := in_wl (in_t1 (List.mem_of_getElem? (i := 124) rfl)) rfl
theorem wF_G_9 : Cond.fieldLink "KissClearing$Rings" 9 "KissClearing$Rings" "found" "I" ∈ wl := in_wl (in_t1 (List.mem_of_getElem? (i := 125) rfl)) rfl
theorem wF_K_268 : Cond.fieldLink "KissClearing" 268 "KissClearing$Rings" "found" "I" ∈ wl := in_wl (in_t1 (List.mem_of_getElem? (i := 126) rfl)) rfl
theorem wF_G_15 : Cond.fieldLink "KissClearing$Rings" 15 "KissClearing$Rings" "mostCleared" "I" ∈ wl := in_wl (in_t1 (List.mem_of_getElem? (i := 127) rfl)) rfl
theorem wF_K_265 : Cond.fieldLink "KissClearing" 265 "KissClearing$Rings" "mostCleared" "I" ∈ wl := in_wl (in_t1 (List.mem_of_getElem? (i := 128) rfl)) rfl
theorem wF_G_18 : Cond.fieldLink "KissClearing$Rings" 18 "KissClearing$Rings" "bestLeast" "I" ∈ wl := in_wl (in_t1 (List.mem_of_getElem? (i := 129) rfl)) rfl
theorem wF_K_277 : Cond.fieldLink "KissClearing" 277 "KissClearing$Rings" "bestLeast" "I" ∈ wl := in_wl (in_t1 (List.mem_of_getElem? (i := 130) rfl)) rfl
theorem wF_G_21 : Cond.fieldLink "KissClearing$Rings" 21 "KissClearing$Rings" "bestSize" "I" ∈ wl := in_wl (in_t1 (List.mem_of_getElem? (i := 131) rfl)) rfl
theorem wF_K_271 : Cond.fieldLink "KissClearing" 271 "KissClearing$Rings" "bestSize" "I" ∈ wl := in_wl (in_t1 (List.mem_of_getElem? (i := 132) rfl)) rfl
theorem wF_G_24 : Cond.fieldLink "KissClearing$Rings" 24 "KissClearing$Rings" "best" "[I" ∈ wl := in_wl (in_t1 (List.mem_of_getElem? (i := 133) rfl)) rfl
theorem wF_K_274 : Cond.fieldLink "KissClearing" 274 "KissClearing$Rings" "best" "[I" ∈ wl := in_wl (in_t1 (List.mem_of_getElem? (i := 134) rfl)) rfl
theorem wF_G_28 : Cond.fieldLink "KissClearing$Rings" 28 "KissClearing$Rings" "through" "[I" ∈ wl := in_wl (in_t1 (List.mem_of_getElem? (i := 135) rfl)) rfl
theorem wF_K_377 : Cond.fieldLink "KissClearing" 377 "KissClearing$Rings" "through" "[I" ∈ wl := in_wl (in_t1 (List.mem_of_getElem? (i := 136) rfl)) rfl
theorem wF_G_31 : Cond.fieldLink "KissClearing$Rings" 31 "KissClearing$Rings" "path" "[I" ∈ wl := in_wl (in_t1 (List.mem_of_getElem? (i := 137) rfl)) rfl
theorem wK_K_46 : Cond.classLink "KissClearing" 46 "KissClearing$Rounds" ∈ wl := in_wl (in_t1 (List.mem_of_getElem? (i := 153) rfl)) rfl
theorem wE_O : Cond.instantiable "KissClearing$Rounds" 4 ∈ wl := in_wl (in_t1 (List.mem_of_getElem? (i := 154) rfl)) rfl
theorem wI_O_init : Cond.instanceMethod (⟨"KissClearing$Rounds", "<init>", "()V"⟩ : MethodName) ∈ wl := in_wl (in_t1 (List.mem_of_getElem? (i := 156) rfl)) rfl
theorem wL_O_3 : Cond.methodLink "KissClearing$Rounds" 3 (⟨"java/lang/Object", "<init>", "()V"⟩ : MethodName) ∈ wl := in_wl (in_t1 (List.mem_of_getElem? (i := 158) rfl)) rfl
theorem wF_O_9 : Cond.fieldLink "KissClearing$Rounds" 9 "KissClearing$Rounds" "size" "I" ∈ wl := in_wl (in_t1 (List.mem_of_getElem? (i := 159) rfl)) rfl
theorem wF_K_297 : Cond.fieldLink "KissClearing" 297 "KissClearing$Rounds" "size" "I" ∈ wl := in_wl (in_t1 (List.mem_of_getElem? (i := 160) rfl)) rfl
theorem wF_O_15 : Cond.fieldLink "KissClearing$Rounds" 15 "KissClearing$Rounds" "ones" "[I" ∈ wl := in_wl (in_t1 (List.mem_of_getElem? (i := 161) rfl)) rfl
theorem wF_K_298 : Cond.fieldLink "KissClearing" 298 "KissClearing$Rounds" "ones" "[I" ∈ wl := in_wl (in_t1 (List.mem_of_getElem? (i := 162) rfl)) rfl
theorem wF_O_19 : Cond.fieldLink "KissClearing$Rounds" 19 "KissClearing$Rounds" "others" "[I" ∈ wl := in_wl (in_t1 (List.mem_of_getElem? (i := 163) rfl)) rfl
theorem wF_K_301 : Cond.fieldLink "KissClearing" 301 "KissClearing$Rounds" "others" "[I" ∈ wl := in_wl (in_t1 (List.mem_of_getElem? (i := 164) rfl)) rfl
theorem wF_O_22 : Cond.fieldLink "KissClearing$Rounds" 22 "KissClearing$Rounds" "busy" "[I" ∈ wl := in_wl (in_t1 (List.mem_of_getElem? (i := 165) rfl)) rfl
theorem wK_K_53 : Cond.classLink "KissClearing" 53 "KissClearing$Blushes" ∈ wl := in_wl (in_t1 (List.mem_of_getElem? (i := 175) rfl)) rfl
theorem wE_B : Cond.instantiable "KissClearing$Blushes" 4 ∈ wl := in_wl (in_t1 (List.mem_of_getElem? (i := 176) rfl)) rfl
theorem wI_B_init : Cond.instanceMethod (⟨"KissClearing$Blushes", "<init>", "()V"⟩ : MethodName) ∈ wl := in_wl (in_t1 (List.mem_of_getElem? (i := 178) rfl)) rfl
theorem wL_B_3 : Cond.methodLink "KissClearing$Blushes" 3 (⟨"java/lang/Object", "<init>", "()V"⟩ : MethodName) ∈ wl := in_wl (in_t1 (List.mem_of_getElem? (i := 180) rfl)) rfl
theorem wF_B_9 : Cond.fieldLink "KissClearing$Blushes" 9 "KissClearing$Blushes" "sets" "I" ∈ wl := in_wl (in_t1 (List.mem_of_getElem? (i := 181) rfl)) rfl
theorem wF_K_326 : Cond.fieldLink "KissClearing" 326 "KissClearing$Blushes" "sets" "I" ∈ wl := in_wl (in_t1 (List.mem_of_getElem? (i := 182) rfl)) rfl
theorem wF_B_15 : Cond.fieldLink "KissClearing$Blushes" 15 "KissClearing$Blushes" "first" "I" ∈ wl := in_wl (in_t1 (List.mem_of_getElem? (i := 183) rfl)) rfl
theorem wF_K_323 : Cond.fieldLink "KissClearing" 323 "KissClearing$Blushes" "first" "I" ∈ wl := in_wl (in_t1 (List.mem_of_getElem? (i := 184) rfl)) rfl
theorem wF_B_18 : Cond.fieldLink "KissClearing$Blushes" 18 "KissClearing$Blushes" "inEach" "I" ∈ wl := in_wl (in_t1 (List.mem_of_getElem? (i := 185) rfl)) rfl
theorem wF_K_329 : Cond.fieldLink "KissClearing" 329 "KissClearing$Blushes" "inEach" "I" ∈ wl := in_wl (in_t1 (List.mem_of_getElem? (i := 186) rfl)) rfl
theorem wF_B_21 : Cond.fieldLink "KissClearing$Blushes" 21 "KissClearing$Blushes" "lacking" "[I" ∈ wl := in_wl (in_t1 (List.mem_of_getElem? (i := 187) rfl)) rfl
theorem wE_S : Cond.instantiable "KissClearing$Strip" 2 ∈ wl := in_wl (in_t1 (List.mem_of_getElem? (i := 197) rfl)) rfl
theorem wL_K_78 : Cond.methodLink "KissClearing" 78 (⟨"KissClearing$Strip", "<init>", "(I)V"⟩ : MethodName) ∈ wl := in_wl (in_t1 (List.mem_of_getElem? (i := 198) rfl)) rfl
theorem wI_S_init : Cond.instanceMethod (⟨"KissClearing$Strip", "<init>", "(I)V"⟩ : MethodName) ∈ wl := in_wl (in_t1 (List.mem_of_getElem? (i := 199) rfl)) rfl
theorem wL_S_3 : Cond.methodLink "KissClearing$Strip" 3 (⟨"java/lang/Object", "<init>", "()V"⟩ : MethodName) ∈ wl := in_wl (in_t1 (List.mem_of_getElem? (i := 201) rfl)) rfl
theorem wF_S_15 : Cond.fieldLink "KissClearing$Strip" 15 "KissClearing$Strip" "places" "[I" ∈ wl := in_wl (in_t1 (List.mem_of_getElem? (i := 202) rfl)) rfl
theorem wF_K_99 : Cond.fieldLink "KissClearing" 99 "KissClearing$Strip" "places" "[I" ∈ wl := in_wl (in_t1 (List.mem_of_getElem? (i := 203) rfl)) rfl
theorem wF_R_70 : Cond.fieldLink "KissClearing$Reader" 70 "KissClearing$Strip" "places" "[I" ∈ wl := in_wl (in_t1 (List.mem_of_getElem? (i := 204) rfl)) rfl
theorem wF_S_9 : Cond.fieldLink "KissClearing$Strip" 9 "KissClearing$Strip" "size" "I" ∈ wl := in_wl (in_t1 (List.mem_of_getElem? (i := 205) rfl)) rfl
theorem wF_R_14 : Cond.fieldLink "KissClearing$Reader" 14 "KissClearing$Strip" "size" "I" ∈ wl := in_wl (in_t1 (List.mem_of_getElem? (i := 206) rfl)) rfl
theorem wF_K_109 : Cond.fieldLink "KissClearing" 109 "KissClearing$Strip" "size" "I" ∈ wl := in_wl (in_t1 (List.mem_of_getElem? (i := 207) rfl)) rfl
theorem wF_K_11 : Cond.fieldLink "KissClearing" 11 "KissClearing" "rows" "[LKissClearing$Strip;" ∈ wl := in_wl (in_t1 (List.mem_of_getElem? (i := 213) rfl)) rfl
theorem wF_K_15 : Cond.fieldLink "KissClearing" 15 "KissClearing" "texts" "[LKissClearing$Strip;" ∈ wl := in_wl (in_t1 (List.mem_of_getElem? (i := 214) rfl)) rfl
theorem wF_K_21 : Cond.fieldLink "KissClearing" 21 "KissClearing" "now" "LKissClearing$Village;" ∈ wl := in_wl (in_t1 (List.mem_of_getElem? (i := 215) rfl)) rfl
theorem wF_K_25 : Cond.fieldLink "KissClearing" 25 "KissClearing" "sketch" "LKissClearing$Village;" ∈ wl := in_wl (in_t1 (List.mem_of_getElem? (i := 216) rfl)) rfl
theorem wF_K_31 : Cond.fieldLink "KissClearing" 31 "KissClearing" "history" "LKissClearing$History;" ∈ wl := in_wl (in_t1 (List.mem_of_getElem? (i := 217) rfl)) rfl
theorem wF_K_35 : Cond.fieldLink "KissClearing" 35 "KissClearing" "kept" "[LKissClearing$History;" ∈ wl := in_wl (in_t1 (List.mem_of_getElem? (i := 218) rfl)) rfl
theorem wF_K_42 : Cond.fieldLink "KissClearing" 42 "KissClearing" "rings" "LKissClearing$Rings;" ∈ wl := in_wl (in_t1 (List.mem_of_getElem? (i := 219) rfl)) rfl
theorem wF_K_49 : Cond.fieldLink "KissClearing" 49 "KissClearing" "meetings" "LKissClearing$Rounds;" ∈ wl := in_wl (in_t1 (List.mem_of_getElem? (i := 220) rfl)) rfl
theorem wF_K_56 : Cond.fieldLink "KissClearing" 56 "KissClearing" "fitting" "LKissClearing$Blushes;" ∈ wl := in_wl (in_t1 (List.mem_of_getElem? (i := 221) rfl)) rfl
theorem wF_K_60 : Cond.fieldLink "KissClearing" 60 "KissClearing" "timesFound" "[I" ∈ wl := in_wl (in_t1 (List.mem_of_getElem? (i := 222) rfl)) rfl
theorem wF_K_64 : Cond.fieldLink "KissClearing" 64 "KissClearing" "latestFinding" "I" ∈ wl := in_wl (in_t1 (List.mem_of_getElem? (i := 223) rfl)) rfl
theorem wF_K_68 : Cond.fieldLink "KissClearing" 68 "KissClearing" "latestAsked" "I" ∈ wl := in_wl (in_t1 (List.mem_of_getElem? (i := 224) rfl)) rfl
theorem wF_K_71 : Cond.fieldLink "KissClearing" 71 "KissClearing" "latestUpper" "J" ∈ wl := in_wl (in_t1 (List.mem_of_getElem? (i := 225) rfl)) rfl
theorem wF_K_75 : Cond.fieldLink "KissClearing" 75 "KissClearing" "latestLower" "J" ∈ wl := in_wl (in_t1 (List.mem_of_getElem? (i := 226) rfl)) rfl
theorem wL_L_13 : Cond.methodLink "KissClearingLaw" 13 (⟨"KissClearing", "row", "(II)I"⟩ : MethodName) ∈ wl := in_wl (in_t2 (List.mem_of_getElem? (i := 16) rfl)) rfl
theorem wI_K_row : Cond.instanceMethod (⟨"KissClearing", "row", "(II)I"⟩ : MethodName) ∈ wl := in_wl (in_t2 (List.mem_of_getElem? (i := 17) rfl)) rfl
theorem wS_K_row : Cond.selects "KissClearing" (⟨"KissClearing", "row", "(II)I"⟩ : MethodName) (⟨"KissClearing", "row", "(II)I"⟩ : MethodName) ∈ wl := in_wl (in_t2 (List.mem_of_getElem? (i := 18) rfl)) rfl
theorem wL_K_84 : Cond.methodLink "KissClearing" 84 (⟨"KissClearing", "isRow", "(I)Z"⟩ : MethodName) ∈ wl := in_wl (in_t2 (List.mem_of_getElem? (i := 20) rfl)) rfl
theorem wT_K_isRow : Cond.static (⟨"KissClearing", "isRow", "(I)Z"⟩ : MethodName) ∈ wl := in_wl (in_t2 (List.mem_of_getElem? (i := 21) rfl)) rfl
theorem wL_K_88 : Cond.methodLink "KissClearing" 88 (⟨"KissClearing", "refuse", "(I)I"⟩ : MethodName) ∈ wl := in_wl (in_t2 (List.mem_of_getElem? (i := 23) rfl)) rfl
theorem wI_K_refuse : Cond.instanceMethod (⟨"KissClearing", "refuse", "(I)I"⟩ : MethodName) ∈ wl := in_wl (in_t2 (List.mem_of_getElem? (i := 25) rfl)) rfl
theorem wL_K_92 : Cond.methodLink "KissClearing" 92 (⟨"KissClearing$Strip", "renew", "(II)V"⟩ : MethodName) ∈ wl := in_wl (in_t2 (List.mem_of_getElem? (i := 27) rfl)) rfl
theorem wI_S_renew : Cond.instanceMethod (⟨"KissClearing$Strip", "renew", "(II)V"⟩ : MethodName) ∈ wl := in_wl (in_t2 (List.mem_of_getElem? (i := 28) rfl)) rfl
theorem wS_S_renew : Cond.selects "KissClearing$Strip" (⟨"KissClearing$Strip", "renew", "(II)V"⟩ : MethodName) (⟨"KissClearing$Strip", "renew", "(II)V"⟩ : MethodName) ∈ wl := in_wl (in_t2 (List.mem_of_getElem? (i := 29) rfl)) rfl
theorem wL_L_18 : Cond.methodLink "KissClearingLaw" 18 (⟨"KissClearing", "lay", "(III)I"⟩ : MethodName) ∈ wl := in_wl (in_t2 (List.mem_of_getElem? (i := 31) rfl)) rfl
theorem wI_K_lay : Cond.instanceMethod (⟨"KissClearing", "lay", "(III)I"⟩ : MethodName) ∈ wl := in_wl (in_t2 (List.mem_of_getElem? (i := 32) rfl)) rfl
theorem wS_K_lay : Cond.selects "KissClearing" (⟨"KissClearing", "lay", "(III)I"⟩ : MethodName) (⟨"KissClearing", "lay", "(III)I"⟩ : MethodName) ∈ wl := in_wl (in_t2 (List.mem_of_getElem? (i := 33) rfl)) rfl
theorem wL_K_96 : Cond.methodLink "KissClearing" 96 (⟨"KissClearing$Strip", "findingAt", "(I)I"⟩ : MethodName) ∈ wl := in_wl (in_t2 (List.mem_of_getElem? (i := 35) rfl)) rfl
theorem wI_S_findingAt : Cond.instanceMethod (⟨"KissClearing$Strip", "findingAt", "(I)I"⟩ : MethodName) ∈ wl := in_wl (in_t2 (List.mem_of_getElem? (i := 36) rfl)) rfl
theorem wS_S_findingAt : Cond.selects "KissClearing$Strip" (⟨"KissClearing$Strip", "findingAt", "(I)I"⟩ : MethodName) (⟨"KissClearing$Strip", "findingAt", "(I)I"⟩ : MethodName) ∈ wl := in_wl (in_t2 (List.mem_of_getElem? (i := 37) rfl)) rfl
theorem wL_S_19 : Cond.methodLink "KissClearing$Strip" 19 (⟨"KissClearing$Strip", "isMissing", "()Z"⟩ : MethodName) ∈ wl := in_wl (in_t2 (List.mem_of_getElem? (i := 39) rfl)) rfl
theorem wI_S_isMissing : Cond.instanceMethod (⟨"KissClearing$Strip", "isMissing", "()Z"⟩ : MethodName) ∈ wl := in_wl (in_t2 (List.mem_of_getElem? (i := 40) rfl)) rfl
theorem wS_S_isMissing : Cond.selects "KissClearing$Strip" (⟨"KissClearing$Strip", "isMissing", "()Z"⟩ : MethodName) (⟨"KissClearing$Strip", "isMissing", "()Z"⟩ : MethodName) ∈ wl := in_wl (in_t2 (List.mem_of_getElem? (i := 41) rfl)) rfl
theorem wL_S_23 : Cond.methodLink "KissClearing$Strip" 23 (⟨"KissClearing$Strip", "hasPlace", "(I)Z"⟩ : MethodName) ∈ wl := in_wl (in_t2 (List.mem_of_getElem? (i := 43) rfl)) rfl
theorem wI_S_hasPlace : Cond.instanceMethod (⟨"KissClearing$Strip", "hasPlace", "(I)Z"⟩ : MethodName) ∈ wl := in_wl (in_t2 (List.mem_of_getElem? (i := 44) rfl)) rfl
theorem wS_S_hasPlace : Cond.selects "KissClearing$Strip" (⟨"KissClearing$Strip", "hasPlace", "(I)Z"⟩ : MethodName) (⟨"KissClearing$Strip", "hasPlace", "(I)Z"⟩ : MethodName) ∈ wl := in_wl (in_t2 (List.mem_of_getElem? (i := 45) rfl)) rfl
theorem wL_K_102 : Cond.methodLink "KissClearing" 102 (⟨"KissClearing", "tell", "(I)I"⟩ : MethodName) ∈ wl := in_wl (in_t2 (List.mem_of_getElem? (i := 47) rfl)) rfl
theorem wI_K_tell : Cond.instanceMethod (⟨"KissClearing", "tell", "(I)I"⟩ : MethodName) ∈ wl := in_wl (in_t2 (List.mem_of_getElem? (i := 49) rfl)) rfl
theorem wL_L_23 : Cond.methodLink "KissClearingLaw" 23 (⟨"KissClearing", "at", "(II)I"⟩ : MethodName) ∈ wl := in_wl (in_t2 (List.mem_of_getElem? (i := 51) rfl)) rfl
theorem wI_K_at : Cond.instanceMethod (⟨"KissClearing", "at", "(II)I"⟩ : MethodName) ∈ wl := in_wl (in_t2 (List.mem_of_getElem? (i := 52) rfl)) rfl
theorem wS_K_at : Cond.selects "KissClearing" (⟨"KissClearing", "at", "(II)I"⟩ : MethodName) (⟨"KissClearing", "at", "(II)I"⟩ : MethodName) ∈ wl := in_wl (in_t2 (List.mem_of_getElem? (i := 53) rfl)) rfl
theorem wL_L_27 : Cond.methodLink "KissClearingLaw" 27 (⟨"KissClearing", "tear", "(I)I"⟩ : MethodName) ∈ wl := in_wl (in_t2 (List.mem_of_getElem? (i := 55) rfl)) rfl
theorem wI_K_tear : Cond.instanceMethod (⟨"KissClearing", "tear", "(I)I"⟩ : MethodName) ∈ wl := in_wl (in_t2 (List.mem_of_getElem? (i := 56) rfl)) rfl
theorem wS_K_tear : Cond.selects "KissClearing" (⟨"KissClearing", "tear", "(I)I"⟩ : MethodName) (⟨"KissClearing", "tear", "(I)I"⟩ : MethodName) ∈ wl := in_wl (in_t2 (List.mem_of_getElem? (i := 57) rfl)) rfl
theorem wL_K_105 : Cond.methodLink "KissClearing" 105 (⟨"KissClearing$Strip", "isMissing", "()Z"⟩ : MethodName) ∈ wl := in_wl (in_t2 (List.mem_of_getElem? (i := 59) rfl)) rfl
theorem wL_L_32 : Cond.methodLink "KissClearingLaw" 32 (⟨"KissClearing", "copy", "(IIIII)I"⟩ : MethodName) ∈ wl := in_wl (in_t2 (List.mem_of_getElem? (i := 60) rfl)) rfl
theorem wI_K_copy : Cond.instanceMethod (⟨"KissClearing", "copy", "(IIIII)I"⟩ : MethodName) ∈ wl := in_wl (in_t2 (List.mem_of_getElem? (i := 61) rfl)) rfl
theorem wS_K_copy : Cond.selects "KissClearing" (⟨"KissClearing", "copy", "(IIIII)I"⟩ : MethodName) (⟨"KissClearing", "copy", "(IIIII)I"⟩ : MethodName) ∈ wl := in_wl (in_t2 (List.mem_of_getElem? (i := 62) rfl)) rfl
theorem wL_K_112 : Cond.methodLink "KissClearing" 112 (⟨"KissClearing$Strip", "hasStretch", "(II)Z"⟩ : MethodName) ∈ wl := in_wl (in_t2 (List.mem_of_getElem? (i := 64) rfl)) rfl
theorem wI_S_hasStretch : Cond.instanceMethod (⟨"KissClearing$Strip", "hasStretch", "(II)Z"⟩ : MethodName) ∈ wl := in_wl (in_t2 (List.mem_of_getElem? (i := 65) rfl)) rfl
theorem wS_S_hasStretch : Cond.selects "KissClearing$Strip" (⟨"KissClearing$Strip", "hasStretch", "(II)Z"⟩ : MethodName) (⟨"KissClearing$Strip", "hasStretch", "(II)Z"⟩ : MethodName) ∈ wl := in_wl (in_t2 (List.mem_of_getElem? (i := 66) rfl)) rfl
theorem wL_K_116 : Cond.methodLink "KissClearing" 116 (⟨"java/lang/System", "arraycopy", "(Ljava/lang/Object;ILjava/lang/Object;II)V"⟩ : MethodName) ∈ wl := in_wl (in_t2 (List.mem_of_getElem? (i := 68) rfl)) rfl
theorem wT_Y_arraycopy : Cond.static (⟨"java/lang/System", "arraycopy", "(Ljava/lang/Object;ILjava/lang/Object;II)V"⟩ : MethodName) ∈ wl := in_wl (in_t2 (List.mem_of_getElem? (i := 69) rfl)) rfl
theorem wnat : Cond.native (⟨"java/lang/System", "arraycopy", "(Ljava/lang/Object;ILjava/lang/Object;II)V"⟩ : MethodName) ∈ wl := in_wl (in_t2 (List.mem_of_getElem? (i := 70) rfl)) rfl
theorem wL_L_37 : Cond.methodLink "KissClearingLaw" 37 (⟨"KissClearing", "mean", "(I)I"⟩ : MethodName) ∈ wl := in_wl (in_t2 (List.mem_of_getElem? (i := 71) rfl)) rfl
theorem wI_K_mean : Cond.instanceMethod (⟨"KissClearing", "mean", "(I)I"⟩ : MethodName) ∈ wl := in_wl (in_t2 (List.mem_of_getElem? (i := 72) rfl)) rfl
theorem wS_K_mean : Cond.selects "KissClearing" (⟨"KissClearing", "mean", "(I)I"⟩ : MethodName) (⟨"KissClearing", "mean", "(I)I"⟩ : MethodName) ∈ wl := in_wl (in_t2 (List.mem_of_getElem? (i := 73) rfl)) rfl
theorem wL_L_41 : Cond.methodLink "KissClearingLaw" 41 (⟨"KissClearing", "text", "(II)I"⟩ : MethodName) ∈ wl := in_wl (in_t2 (List.mem_of_getElem? (i := 75) rfl)) rfl
theorem wI_K_text : Cond.instanceMethod (⟨"KissClearing", "text", "(II)I"⟩ : MethodName) ∈ wl := in_wl (in_t2 (List.mem_of_getElem? (i := 76) rfl)) rfl
theorem wS_K_text : Cond.selects "KissClearing" (⟨"KissClearing", "text", "(II)I"⟩ : MethodName) (⟨"KissClearing", "text", "(II)I"⟩ : MethodName) ∈ wl := in_wl (in_t2 (List.mem_of_getElem? (i := 77) rfl)) rfl
theorem wL_K_122 : Cond.methodLink "KissClearing" 122 (⟨"KissClearing", "isText", "(I)Z"⟩ : MethodName) ∈ wl := in_wl (in_t2 (List.mem_of_getElem? (i := 79) rfl)) rfl
theorem wT_K_isText : Cond.static (⟨"KissClearing", "isText", "(I)Z"⟩ : MethodName) ∈ wl := in_wl (in_t2 (List.mem_of_getElem? (i := 80) rfl)) rfl
theorem wL_L_45 : Cond.methodLink "KissClearingLaw" 45 (⟨"KissClearing", "put", "(III)I"⟩ : MethodName) ∈ wl := in_wl (in_t2 (List.mem_of_getElem? (i := 82) rfl)) rfl
theorem wI_K_put : Cond.instanceMethod (⟨"KissClearing", "put", "(III)I"⟩ : MethodName) ∈ wl := in_wl (in_t2 (List.mem_of_getElem? (i := 83) rfl)) rfl
theorem wS_K_put : Cond.selects "KissClearing" (⟨"KissClearing", "put", "(III)I"⟩ : MethodName) (⟨"KissClearing", "put", "(III)I"⟩ : MethodName) ∈ wl := in_wl (in_t2 (List.mem_of_getElem? (i := 84) rfl)) rfl
theorem wL_L_49 : Cond.methodLink "KissClearingLaw" 49 (⟨"KissClearing", "fault", "(I)I"⟩ : MethodName) ∈ wl := in_wl (in_t2 (List.mem_of_getElem? (i := 86) rfl)) rfl
theorem wI_K_fault : Cond.instanceMethod (⟨"KissClearing", "fault", "(I)I"⟩ : MethodName) ∈ wl := in_wl (in_t2 (List.mem_of_getElem? (i := 87) rfl)) rfl
theorem wS_K_fault : Cond.selects "KissClearing" (⟨"KissClearing", "fault", "(I)I"⟩ : MethodName) (⟨"KissClearing", "fault", "(I)I"⟩ : MethodName) ∈ wl := in_wl (in_t2 (List.mem_of_getElem? (i := 88) rfl)) rfl
theorem wL_K_125 : Cond.methodLink "KissClearing" 125 (⟨"KissClearing$Reader", "faultOf", "(LKissClearing$Strip;LKissClearing$Village;)I"⟩ : MethodName) ∈ wl := in_wl (in_t2 (List.mem_of_getElem? (i := 90) rfl)) rfl
theorem wT_R_faultOf : Cond.static (⟨"KissClearing$Reader", "faultOf", "(LKissClearing$Strip;LKissClearing$Village;)I"⟩ : MethodName) ∈ wl := in_wl (in_t2 (List.mem_of_getElem? (i := 91) rfl)) rfl
theorem wL_R_9 : Cond.methodLink "KissClearing$Reader" 9 (⟨"KissClearing$Village", "becomeEmpty", "()V"⟩ : MethodName) ∈ wl := in_wl (in_t2 (List.mem_of_getElem? (i := 93) rfl)) rfl
theorem wI_V_becomeEmpty : Cond.instanceMethod (⟨"KissClearing$Village", "becomeEmpty", "()V"⟩ : MethodName) ∈ wl := in_wl (in_t2 (List.mem_of_getElem? (i := 94) rfl)) rfl
theorem wS_V_becomeEmpty : Cond.selects "KissClearing$Village" (⟨"KissClearing$Village", "becomeEmpty", "()V"⟩ : MethodName) (⟨"KissClearing$Village", "becomeEmpty", "()V"⟩ : MethodName) ∈ wl := in_wl (in_t2 (List.mem_of_getElem? (i := 95) rfl)) rfl
theorem wL_R_20 : Cond.methodLink "KissClearing$Reader" 20 (⟨"KissClearing$Reader", "signAt", "(LKissClearing$Strip;I)I"⟩ : MethodName) ∈ wl := in_wl (in_t2 (List.mem_of_getElem? (i := 97) rfl)) rfl
theorem wT_R_signAt : Cond.static (⟨"KissClearing$Reader", "signAt", "(LKissClearing$Strip;I)I"⟩ : MethodName) ∈ wl := in_wl (in_t2 (List.mem_of_getElem? (i := 98) rfl)) rfl
theorem wL_R_67 : Cond.methodLink "KissClearing$Reader" 67 (⟨"KissClearing$Strip", "hasPlace", "(I)Z"⟩ : MethodName) ∈ wl := in_wl (in_t2 (List.mem_of_getElem? (i := 100) rfl)) rfl
theorem wL_R_26 : Cond.methodLink "KissClearing$Reader" 26 (⟨"KissClearing$Reader", "readDraft", "(LKissClearing$Strip;ILKissClearing$Village;)I"⟩ : MethodName) ∈ wl := in_wl (in_t2 (List.mem_of_getElem? (i := 101) rfl)) rfl
theorem wT_R_readDraft : Cond.static (⟨"KissClearing$Reader", "readDraft", "(LKissClearing$Strip;ILKissClearing$Village;)I"⟩ : MethodName) ∈ wl := in_wl (in_t2 (List.mem_of_getElem? (i := 102) rfl)) rfl
theorem wL_R_52 : Cond.methodLink "KissClearing$Reader" 52 (⟨"KissClearing$Village", "hasPerson", "(I)Z"⟩ : MethodName) ∈ wl := in_wl (in_t2 (List.mem_of_getElem? (i := 104) rfl)) rfl
theorem wI_V_hasPerson : Cond.instanceMethod (⟨"KissClearing$Village", "hasPerson", "(I)Z"⟩ : MethodName) ∈ wl := in_wl (in_t2 (List.mem_of_getElem? (i := 105) rfl)) rfl
theorem wS_V_hasPerson : Cond.selects "KissClearing$Village" (⟨"KissClearing$Village", "hasPerson", "(I)Z"⟩ : MethodName) (⟨"KissClearing$Village", "hasPerson", "(I)Z"⟩ : MethodName) ∈ wl := in_wl (in_t2 (List.mem_of_getElem? (i := 106) rfl)) rfl
theorem wL_R_56 : Cond.methodLink "KissClearing$Reader" 56 (⟨"KissClearing$Village", "hasTwo", "(II)Z"⟩ : MethodName) ∈ wl := in_wl (in_t2 (List.mem_of_getElem? (i := 108) rfl)) rfl
theorem wI_V_hasTwo : Cond.instanceMethod (⟨"KissClearing$Village", "hasTwo", "(II)Z"⟩ : MethodName) ∈ wl := in_wl (in_t2 (List.mem_of_getElem? (i := 109) rfl)) rfl
theorem wS_V_hasTwo : Cond.selects "KissClearing$Village" (⟨"KissClearing$Village", "hasTwo", "(II)Z"⟩ : MethodName) (⟨"KissClearing$Village", "hasTwo", "(II)Z"⟩ : MethodName) ∈ wl := in_wl (in_t2 (List.mem_of_getElem? (i := 110) rfl)) rfl
theorem wL_V_29 : Cond.methodLink "KissClearing$Village" 29 (⟨"KissClearing$Village", "hasPerson", "(I)Z"⟩ : MethodName) ∈ wl := in_wl (in_t2 (List.mem_of_getElem? (i := 112) rfl)) rfl
theorem wL_R_41 : Cond.methodLink "KissClearing$Reader" 41 (⟨"KissClearing$Reader", "numberOf", "(I[I)I"⟩ : MethodName) ∈ wl := in_wl (in_t2 (List.mem_of_getElem? (i := 115) rfl)) rfl
theorem wT_R_numberOf : Cond.static (⟨"KissClearing$Reader", "numberOf", "(I[I)I"⟩ : MethodName) ∈ wl := in_wl (in_t2 (List.mem_of_getElem? (i := 116) rfl)) rfl
theorem wL_R_63 : Cond.methodLink "KissClearing$Reader" 63 (⟨"KissClearing$Village", "addDraft", "(IIII)V"⟩ : MethodName) ∈ wl := in_wl (in_t2 (List.mem_of_getElem? (i := 118) rfl)) rfl
theorem wI_V_addDraft : Cond.instanceMethod (⟨"KissClearing$Village", "addDraft", "(IIII)V"⟩ : MethodName) ∈ wl := in_wl (in_t2 (List.mem_of_getElem? (i := 119) rfl)) rfl
theorem wS_V_addDraft : Cond.selects "KissClearing$Village" (⟨"KissClearing$Village", "addDraft", "(IIII)V"⟩ : MethodName) (⟨"KissClearing$Village", "addDraft", "(IIII)V"⟩ : MethodName) ∈ wl := in_wl (in_t2 (List.mem_of_getElem? (i := 120) rfl)) rfl
theorem wL_V_37 : Cond.methodLink "KissClearing$Village" 37 (⟨"KissClearing$Draft", "become", "(IIII)V"⟩ : MethodName) ∈ wl := in_wl (in_t2 (List.mem_of_getElem? (i := 122) rfl)) rfl
theorem wI_D_become : Cond.instanceMethod (⟨"KissClearing$Draft", "become", "(IIII)V"⟩ : MethodName) ∈ wl := in_wl (in_t2 (List.mem_of_getElem? (i := 123) rfl)) rfl
theorem wS_D_become : Cond.selects "KissClearing$Draft" (⟨"KissClearing$Draft", "become", "(IIII)V"⟩ : MethodName) (⟨"KissClearing$Draft", "become", "(IIII)V"⟩ : MethodName) ∈ wl := in_wl (in_t2 (List.mem_of_getElem? (i := 124) rfl)) rfl
theorem wL_R_30 : Cond.methodLink "KissClearing$Reader" 30 (⟨"KissClearing$Reader", "readPerson", "(ILKissClearing$Village;)Z"⟩ : MethodName) ∈ wl := in_wl (in_t2 (List.mem_of_getElem? (i := 126) rfl)) rfl
theorem wT_R_readPerson : Cond.static (⟨"KissClearing$Reader", "readPerson", "(ILKissClearing$Village;)Z"⟩ : MethodName) ∈ wl := in_wl (in_t2 (List.mem_of_getElem? (i := 127) rfl)) rfl
theorem wL_R_48 : Cond.methodLink "KissClearing$Reader" 48 (⟨"KissClearing$Village", "addPerson", "(I)V"⟩ : MethodName) ∈ wl := in_wl (in_t2 (List.mem_of_getElem? (i := 131) rfl)) rfl
theorem wI_V_addPerson : Cond.instanceMethod (⟨"KissClearing$Village", "addPerson", "(I)V"⟩ : MethodName) ∈ wl := in_wl (in_t2 (List.mem_of_getElem? (i := 132) rfl)) rfl
theorem wS_V_addPerson : Cond.selects "KissClearing$Village" (⟨"KissClearing$Village", "addPerson", "(I)V"⟩ : MethodName) (⟨"KissClearing$Village", "addPerson", "(I)V"⟩ : MethodName) ∈ wl := in_wl (in_t2 (List.mem_of_getElem? (i := 133) rfl)) rfl
theorem wL_L_53 : Cond.methodLink "KissClearingLaw" 53 (⟨"KissClearing", "village", "(I)I"⟩ : MethodName) ∈ wl := in_wl (in_t2 (List.mem_of_getElem? (i := 135) rfl)) rfl
theorem wI_K_village : Cond.instanceMethod (⟨"KissClearing", "village", "(I)I"⟩ : MethodName) ∈ wl := in_wl (in_t2 (List.mem_of_getElem? (i := 136) rfl)) rfl
theorem wS_K_village : Cond.selects "KissClearing" (⟨"KissClearing", "village", "(I)I"⟩ : MethodName) (⟨"KissClearing", "village", "(I)I"⟩ : MethodName) ∈ wl := in_wl (in_t2 (List.mem_of_getElem? (i := 137) rfl)) rfl
theorem wL_K_131 : Cond.methodLink "KissClearing" 131 (⟨"KissClearing$Village", "becomeLike", "(LKissClearing$Village;)V"⟩ : MethodName) ∈ wl := in_wl (in_t2 (List.mem_of_getElem? (i := 139) rfl)) rfl
theorem wI_V_becomeLike : Cond.instanceMethod (⟨"KissClearing$Village", "becomeLike", "(LKissClearing$Village;)V"⟩ : MethodName) ∈ wl := in_wl (in_t2 (List.mem_of_getElem? (i := 140) rfl)) rfl
theorem wS_V_becomeLike : Cond.selects "KissClearing$Village" (⟨"KissClearing$Village", "becomeLike", "(LKissClearing$Village;)V"⟩ : MethodName) (⟨"KissClearing$Village", "becomeLike", "(LKissClearing$Village;)V"⟩ : MethodName) ∈ wl := in_wl (in_t2 (List.mem_of_getElem? (i := 141) rfl)) rfl
theorem wL_V_33 : Cond.methodLink "KissClearing$Village" 33 (⟨"KissClearing$Draft", "becomeLike", "(LKissClearing$Draft;)V"⟩ : MethodName) ∈ wl := in_wl (in_t2 (List.mem_of_getElem? (i := 143) rfl)) rfl
theorem wI_D_becomeLike : Cond.instanceMethod (⟨"KissClearing$Draft", "becomeLike", "(LKissClearing$Draft;)V"⟩ : MethodName) ∈ wl := in_wl (in_t2 (List.mem_of_getElem? (i := 144) rfl)) rfl
theorem wS_D_becomeLike : Cond.selects "KissClearing$Draft" (⟨"KissClearing$Draft", "becomeLike", "(LKissClearing$Draft;)V"⟩ : MethodName) (⟨"KissClearing$Draft", "becomeLike", "(LKissClearing$Draft;)V"⟩ : MethodName) ∈ wl := in_wl (in_t2 (List.mem_of_getElem? (i := 145) rfl)) rfl
theorem wL_D_28 : Cond.methodLink "KissClearing$Draft" 28 (⟨"KissClearing$Draft", "become", "(IIII)V"⟩ : MethodName) ∈ wl := in_wl (in_t2 (List.mem_of_getElem? (i := 147) rfl)) rfl
theorem wL_L_57 : Cond.methodLink "KissClearingLaw" 57 (⟨"KissClearing", "person", "(II)I"⟩ : MethodName) ∈ wl := in_wl (in_t2 (List.mem_of_getElem? (i := 148) rfl)) rfl
theorem wI_K_person : Cond.instanceMethod (⟨"KissClearing", "person", "(II)I"⟩ : MethodName) ∈ wl := in_wl (in_t2 (List.mem_of_getElem? (i := 149) rfl)) rfl
theorem wS_K_person : Cond.selects "KissClearing" (⟨"KissClearing", "person", "(II)I"⟩ : MethodName) (⟨"KissClearing", "person", "(II)I"⟩ : MethodName) ∈ wl := in_wl (in_t2 (List.mem_of_getElem? (i := 150) rfl)) rfl
theorem wL_K_138 : Cond.methodLink "KissClearing" 138 (⟨"KissClearing$Village", "hasPerson", "(I)Z"⟩ : MethodName) ∈ wl := in_wl (in_t2 (List.mem_of_getElem? (i := 152) rfl)) rfl
theorem wL_K_141 : Cond.methodLink "KissClearing" 141 (⟨"KissClearing", "ofPerson", "(II)I"⟩ : MethodName) ∈ wl := in_wl (in_t2 (List.mem_of_getElem? (i := 153) rfl)) rfl
theorem wI_K_ofPerson : Cond.instanceMethod (⟨"KissClearing", "ofPerson", "(II)I"⟩ : MethodName) ∈ wl := in_wl (in_t2 (List.mem_of_getElem? (i := 155) rfl)) rfl
theorem wL_K_352 : Cond.methodLink "KissClearing" 352 (⟨"KissClearing$Village", "kindOf", "(I)I"⟩ : MethodName) ∈ wl := in_wl (in_t2 (List.mem_of_getElem? (i := 157) rfl)) rfl
theorem wI_V_kindOf : Cond.instanceMethod (⟨"KissClearing$Village", "kindOf", "(I)I"⟩ : MethodName) ∈ wl := in_wl (in_t2 (List.mem_of_getElem? (i := 158) rfl)) rfl
theorem wS_V_kindOf : Cond.selects "KissClearing$Village" (⟨"KissClearing$Village", "kindOf", "(I)I"⟩ : MethodName) (⟨"KissClearing$Village", "kindOf", "(I)I"⟩ : MethodName) ∈ wl := in_wl (in_t2 (List.mem_of_getElem? (i := 159) rfl)) rfl
theorem wL_K_169 : Cond.methodLink "KissClearing" 169 (⟨"KissClearing$Village", "owing", "(I)I"⟩ : MethodName) ∈ wl := in_wl (in_t2 (List.mem_of_getElem? (i := 161) rfl)) rfl
theorem wI_V_owing : Cond.instanceMethod (⟨"KissClearing$Village", "owing", "(I)I"⟩ : MethodName) ∈ wl := in_wl (in_t2 (List.mem_of_getElem? (i := 162) rfl)) rfl
theorem wS_V_owing : Cond.selects "KissClearing$Village" (⟨"KissClearing$Village", "owing", "(I)I"⟩ : MethodName) (⟨"KissClearing$Village", "owing", "(I)I"⟩ : MethodName) ∈ wl := in_wl (in_t2 (List.mem_of_getElem? (i := 163) rfl)) rfl
theorem wL_V_61 : Cond.methodLink "KissClearing$Village" 61 (⟨"KissClearing$Draft", "worth", "()I"⟩ : MethodName) ∈ wl := in_wl (in_t2 (List.mem_of_getElem? (i := 165) rfl)) rfl
theorem wI_D_worth : Cond.instanceMethod (⟨"KissClearing$Draft", "worth", "()I"⟩ : MethodName) ∈ wl := in_wl (in_t2 (List.mem_of_getElem? (i := 166) rfl)) rfl
theorem wS_D_worth : Cond.selects "KissClearing$Draft" (⟨"KissClearing$Draft", "worth", "()I"⟩ : MethodName) (⟨"KissClearing$Draft", "worth", "()I"⟩ : MethodName) ∈ wl := in_wl (in_t2 (List.mem_of_getElem? (i := 167) rfl)) rfl
theorem wL_K_163 : Cond.methodLink "KissClearing" 163 (⟨"KissClearing$Village", "owed", "(II)I"⟩ : MethodName) ∈ wl := in_wl (in_t2 (List.mem_of_getElem? (i := 169) rfl)) rfl
theorem wI_V_owed : Cond.instanceMethod (⟨"KissClearing$Village", "owed", "(II)I"⟩ : MethodName) ∈ wl := in_wl (in_t2 (List.mem_of_getElem? (i := 170) rfl)) rfl
theorem wS_V_owed : Cond.selects "KissClearing$Village" (⟨"KissClearing$Village", "owed", "(II)I"⟩ : MethodName) (⟨"KissClearing$Village", "owed", "(II)I"⟩ : MethodName) ∈ wl := in_wl (in_t2 (List.mem_of_getElem? (i := 171) rfl)) rfl
theorem wL_K_166 : Cond.methodLink "KissClearing" 166 (⟨"KissClearing$Village", "reserve", "(I)I"⟩ : MethodName) ∈ wl := in_wl (in_t2 (List.mem_of_getElem? (i := 173) rfl)) rfl
theorem wI_V_reserve : Cond.instanceMethod (⟨"KissClearing$Village", "reserve", "(I)I"⟩ : MethodName) ∈ wl := in_wl (in_t2 (List.mem_of_getElem? (i := 174) rfl)) rfl
theorem wS_V_reserve : Cond.selects "KissClearing$Village" (⟨"KissClearing$Village", "reserve", "(I)I"⟩ : MethodName) (⟨"KissClearing$Village", "reserve", "(I)I"⟩ : MethodName) ∈ wl := in_wl (in_t2 (List.mem_of_getElem? (i := 175) rfl)) rfl
theorem wL_V_41 : Cond.methodLink "KissClearing$Village" 41 (⟨"KissClearing$Village", "kindOf", "(I)I"⟩ : MethodName) ∈ wl := in_wl (in_t2 (List.mem_of_getElem? (i := 179) rfl)) rfl
theorem wL_K_314 : Cond.methodLink "KissClearing" 314 (⟨"KissClearing$Village", "owedByAny", "(I)I"⟩ : MethodName) ∈ wl := in_wl (in_t2 (List.mem_of_getElem? (i := 180) rfl)) rfl
theorem wI_V_owedByAny : Cond.instanceMethod (⟨"KissClearing$Village", "owedByAny", "(I)I"⟩ : MethodName) ∈ wl := in_wl (in_t2 (List.mem_of_getElem? (i := 181) rfl)) rfl
theorem wS_V_owedByAny : Cond.selects "KissClearing$Village" (⟨"KissClearing$Village", "owedByAny", "(I)I"⟩ : MethodName) (⟨"KissClearing$Village", "owedByAny", "(I)I"⟩ : MethodName) ∈ wl := in_wl (in_t2 (List.mem_of_getElem? (i := 182) rfl)) rfl
theorem wL_V_68 : Cond.methodLink "KissClearing$Village" 68 (⟨"KissClearing$Draft", "isOpen", "()Z"⟩ : MethodName) ∈ wl := in_wl (in_t2 (List.mem_of_getElem? (i := 184) rfl)) rfl
theorem wI_D_isOpen : Cond.instanceMethod (⟨"KissClearing$Draft", "isOpen", "()Z"⟩ : MethodName) ∈ wl := in_wl (in_t2 (List.mem_of_getElem? (i := 185) rfl)) rfl
theorem wS_D_isOpen : Cond.selects "KissClearing$Draft" (⟨"KissClearing$Draft", "isOpen", "()Z"⟩ : MethodName) (⟨"KissClearing$Draft", "isOpen", "()Z"⟩ : MethodName) ∈ wl := in_wl (in_t2 (List.mem_of_getElem? (i := 186) rfl)) rfl
theorem wL_K_289 : Cond.methodLink "KissClearing" 289 (⟨"java/lang/Integer", "bitCount", "(I)I"⟩ : MethodName) ∈ wl := in_wl (in_t2 (List.mem_of_getElem? (i := 188) rfl)) rfl
theorem wT_J_bitCount : Cond.static (⟨"java/lang/Integer", "bitCount", "(I)I"⟩ : MethodName) ∈ wl := in_wl (in_t2 (List.mem_of_getElem? (i := 189) rfl)) rfl
theorem wc_J_265 : Cond.constant "java/lang/Integer" (265 : Nat) (1431655765 : Int32) ∈ wl := in_wl (in_t2 (List.mem_of_getElem? (i := 191) rfl)) rfl
theorem wc_J_266 : Cond.constant "java/lang/Integer" (266 : Nat) (858993459 : Int32) ∈ wl := in_wl (in_t2 (List.mem_of_getElem? (i := 192) rfl)) rfl
theorem wc_J_267 : Cond.constant "java/lang/Integer" (267 : Nat) (252645135 : Int32) ∈ wl := in_wl (in_t2 (List.mem_of_getElem? (i := 193) rfl)) rfl
theorem wL_L_61 : Cond.methodLink "KissClearingLaw" 61 (⟨"KissClearing", "draft", "(II)I"⟩ : MethodName) ∈ wl := in_wl (in_t2 (List.mem_of_getElem? (i := 194) rfl)) rfl
theorem wI_K_draft : Cond.instanceMethod (⟨"KissClearing", "draft", "(II)I"⟩ : MethodName) ∈ wl := in_wl (in_t2 (List.mem_of_getElem? (i := 195) rfl)) rfl
theorem wS_K_draft : Cond.selects "KissClearing" (⟨"KissClearing", "draft", "(II)I"⟩ : MethodName) (⟨"KissClearing", "draft", "(II)I"⟩ : MethodName) ∈ wl := in_wl (in_t2 (List.mem_of_getElem? (i := 196) rfl)) rfl
theorem wL_K_145 : Cond.methodLink "KissClearing" 145 (⟨"KissClearing$Village", "hasDraft", "(I)Z"⟩ : MethodName) ∈ wl := in_wl (in_t2 (List.mem_of_getElem? (i := 198) rfl)) rfl
theorem wI_V_hasDraft : Cond.instanceMethod (⟨"KissClearing$Village", "hasDraft", "(I)Z"⟩ : MethodName) ∈ wl := in_wl (in_t2 (List.mem_of_getElem? (i := 199) rfl)) rfl
theorem wS_V_hasDraft : Cond.selects "KissClearing$Village" (⟨"KissClearing$Village", "hasDraft", "(I)Z"⟩ : MethodName) (⟨"KissClearing$Village", "hasDraft", "(I)Z"⟩ : MethodName) ∈ wl := in_wl (in_t2 (List.mem_of_getElem? (i := 200) rfl)) rfl
theorem wL_K_148 : Cond.methodLink "KissClearing" 148 (⟨"KissClearing", "ofDraft", "(II)I"⟩ : MethodName) ∈ wl := in_wl (in_t2 (List.mem_of_getElem? (i := 202) rfl)) rfl
theorem wI_K_ofDraft : Cond.instanceMethod (⟨"KissClearing", "ofDraft", "(II)I"⟩ : MethodName) ∈ wl := in_wl (in_t2 (List.mem_of_getElem? (i := 204) rfl)) rfl
theorem wL_L_65 : Cond.methodLink "KissClearingLaw" 65 (⟨"KissClearing", "mark", "(II)I"⟩ : MethodName) ∈ wl := in_wl (in_t2 (List.mem_of_getElem? (i := 206) rfl)) rfl
theorem wI_K_mark : Cond.instanceMethod (⟨"KissClearing", "mark", "(II)I"⟩ : MethodName) ∈ wl := in_wl (in_t2 (List.mem_of_getElem? (i := 207) rfl)) rfl
theorem wS_K_mark : Cond.selects "KissClearing" (⟨"KissClearing", "mark", "(II)I"⟩ : MethodName) (⟨"KissClearing", "mark", "(II)I"⟩ : MethodName) ∈ wl := in_wl (in_t2 (List.mem_of_getElem? (i := 208) rfl)) rfl
theorem wL_K_151 : Cond.methodLink "KissClearing" 151 (⟨"KissClearing$Village", "isOfKind", "(II)Z"⟩ : MethodName) ∈ wl := in_wl (in_t2 (List.mem_of_getElem? (i := 210) rfl)) rfl
theorem wI_V_isOfKind : Cond.instanceMethod (⟨"KissClearing$Village", "isOfKind", "(II)Z"⟩ : MethodName) ∈ wl := in_wl (in_t2 (List.mem_of_getElem? (i := 211) rfl)) rfl
theorem wS_V_isOfKind : Cond.selects "KissClearing$Village" (⟨"KissClearing$Village", "isOfKind", "(II)Z"⟩ : MethodName) (⟨"KissClearing$Village", "isOfKind", "(II)Z"⟩ : MethodName) ∈ wl := in_wl (in_t2 (List.mem_of_getElem? (i := 212) rfl)) rfl
theorem wL_K_154 : Cond.methodLink "KissClearing" 154 (⟨"KissClearing$Village", "openOwedTo", "(I)I"⟩ : MethodName) ∈ wl := in_wl (in_t2 (List.mem_of_getElem? (i := 216) rfl)) rfl
theorem wI_V_openOwedTo : Cond.instanceMethod (⟨"KissClearing$Village", "openOwedTo", "(I)I"⟩ : MethodName) ∈ wl := in_wl (in_t2 (List.mem_of_getElem? (i := 217) rfl)) rfl
theorem wS_V_openOwedTo : Cond.selects "KissClearing$Village" (⟨"KissClearing$Village", "openOwedTo", "(I)I"⟩ : MethodName) (⟨"KissClearing$Village", "openOwedTo", "(I)I"⟩ : MethodName) ∈ wl := in_wl (in_t2 (List.mem_of_getElem? (i := 218) rfl)) rfl
theorem wL_K_157 : Cond.methodLink "KissClearing" 157 (⟨"KissClearing$Village", "growthFor", "(I)I"⟩ : MethodName) ∈ wl := in_wl (in_t2 (List.mem_of_getElem? (i := 220) rfl)) rfl
theorem wI_V_growthFor : Cond.instanceMethod (⟨"KissClearing$Village", "growthFor", "(I)I"⟩ : MethodName) ∈ wl := in_wl (in_t2 (List.mem_of_getElem? (i := 221) rfl)) rfl
theorem wS_V_growthFor : Cond.selects "KissClearing$Village" (⟨"KissClearing$Village", "growthFor", "(I)I"⟩ : MethodName) (⟨"KissClearing$Village", "growthFor", "(I)I"⟩ : MethodName) ∈ wl := in_wl (in_t2 (List.mem_of_getElem? (i := 222) rfl)) rfl
theorem wL_K_160 : Cond.methodLink "KissClearing" 160 (⟨"KissClearing$Village", "openOn", "(I)I"⟩ : MethodName) ∈ wl := in_wl (in_t2 (List.mem_of_getElem? (i := 226) rfl)) rfl
theorem wI_V_openOn : Cond.instanceMethod (⟨"KissClearing$Village", "openOn", "(I)I"⟩ : MethodName) ∈ wl := in_wl (in_t2 (List.mem_of_getElem? (i := 227) rfl)) rfl
theorem wS_V_openOn : Cond.selects "KissClearing$Village" (⟨"KissClearing$Village", "openOn", "(I)I"⟩ : MethodName) (⟨"KissClearing$Village", "openOn", "(I)I"⟩ : MethodName) ∈ wl := in_wl (in_t2 (List.mem_of_getElem? (i := 228) rfl)) rfl
theorem wL_K_172 : Cond.methodLink "KissClearing" 172 (⟨"java/lang/Math", "max", "(II)I"⟩ : MethodName) ∈ wl := in_wl (in_t2 (List.mem_of_getElem? (i := 230) rfl)) rfl
theorem wT_T_max : Cond.static (⟨"java/lang/Math", "max", "(II)I"⟩ : MethodName) ∈ wl := in_wl (in_t2 (List.mem_of_getElem? (i := 231) rfl)) rfl
theorem wL_K_177 : Cond.methodLink "KissClearing" 177 (⟨"KissClearing$Village", "souringFor", "(I)I"⟩ : MethodName) ∈ wl := in_wl (in_t2 (List.mem_of_getElem? (i := 233) rfl)) rfl
theorem wI_V_souringFor : Cond.instanceMethod (⟨"KissClearing$Village", "souringFor", "(I)I"⟩ : MethodName) ∈ wl := in_wl (in_t2 (List.mem_of_getElem? (i := 234) rfl)) rfl
theorem wS_V_souringFor : Cond.selects "KissClearing$Village" (⟨"KissClearing$Village", "souringFor", "(I)I"⟩ : MethodName) (⟨"KissClearing$Village", "souringFor", "(I)I"⟩ : MethodName) ∈ wl := in_wl (in_t2 (List.mem_of_getElem? (i := 235) rfl)) rfl
theorem wL_K_180 : Cond.methodLink "KissClearing" 180 (⟨"KissClearing", "ringsThrough", "(I)I"⟩ : MethodName) ∈ wl := in_wl (in_t2 (List.mem_of_getElem? (i := 237) rfl)) rfl
theorem wI_K_ringsThrough : Cond.instanceMethod (⟨"KissClearing", "ringsThrough", "(I)I"⟩ : MethodName) ∈ wl := in_wl (in_t2 (List.mem_of_getElem? (i := 239) rfl)) rfl
theorem wL_K_261 : Cond.methodLink "KissClearing" 261 (⟨"KissClearing$Rings", "search", "(LKissClearing$Village;I)V"⟩ : MethodName) ∈ wl := in_wl (in_t3 (List.mem_of_getElem? (i := 1) rfl)) rfl
theorem wI_G_search : Cond.instanceMethod (⟨"KissClearing$Rings", "search", "(LKissClearing$Village;I)V"⟩ : MethodName) ∈ wl := in_wl (in_t3 (List.mem_of_getElem? (i := 2) rfl)) rfl
theorem wS_G_search : Cond.selects "KissClearing$Rings" (⟨"KissClearing$Rings", "search", "(LKissClearing$Village;I)V"⟩ : MethodName) (⟨"KissClearing$Rings", "search", "(LKissClearing$Village;I)V"⟩ : MethodName) ∈ wl := in_wl (in_t3 (List.mem_of_getElem? (i := 3) rfl)) rfl
theorem wL_G_43 : Cond.methodLink "KissClearing$Rings" 43 (⟨"KissClearing$Draft", "isOpenOf", "(I)Z"⟩ : MethodName) ∈ wl := in_wl (in_t3 (List.mem_of_getElem? (i := 5) rfl)) rfl
theorem wI_D_isOpenOf : Cond.instanceMethod (⟨"KissClearing$Draft", "isOpenOf", "(I)Z"⟩ : MethodName) ∈ wl := in_wl (in_t3 (List.mem_of_getElem? (i := 6) rfl)) rfl
theorem wS_D_isOpenOf : Cond.selects "KissClearing$Draft" (⟨"KissClearing$Draft", "isOpenOf", "(I)Z"⟩ : MethodName) (⟨"KissClearing$Draft", "isOpenOf", "(I)Z"⟩ : MethodName) ∈ wl := in_wl (in_t3 (List.mem_of_getElem? (i := 7) rfl)) rfl
theorem wL_G_55 : Cond.methodLink "KissClearing$Rings" 55 (⟨"KissClearing$Rings", "extend", "(LKissClearing$Village;III)V"⟩ : MethodName) ∈ wl := in_wl (in_t3 (List.mem_of_getElem? (i := 9) rfl)) rfl
theorem wI_G_extend : Cond.instanceMethod (⟨"KissClearing$Rings", "extend", "(LKissClearing$Village;III)V"⟩ : MethodName) ∈ wl := in_wl (in_t3 (List.mem_of_getElem? (i := 11) rfl)) rfl
theorem wL_G_62 : Cond.methodLink "KissClearing$Rings" 62 (⟨"KissClearing$Rings", "takeRing", "(LKissClearing$Village;II)V"⟩ : MethodName) ∈ wl := in_wl (in_t3 (List.mem_of_getElem? (i := 13) rfl)) rfl
theorem wI_G_takeRing : Cond.instanceMethod (⟨"KissClearing$Rings", "takeRing", "(LKissClearing$Village;II)V"⟩ : MethodName) ∈ wl := in_wl (in_t3 (List.mem_of_getElem? (i := 15) rfl)) rfl
theorem wL_G_75 : Cond.methodLink "KissClearing$Rings" 75 (⟨"java/lang/System", "arraycopy", "(Ljava/lang/Object;ILjava/lang/Object;II)V"⟩ : MethodName) ∈ wl := in_wl (in_t3 (List.mem_of_getElem? (i := 17) rfl)) rfl
theorem wL_G_69 : Cond.methodLink "KissClearing$Rings" 69 (⟨"java/lang/Math", "min", "(II)I"⟩ : MethodName) ∈ wl := in_wl (in_t3 (List.mem_of_getElem? (i := 18) rfl)) rfl
theorem wT_T_min : Cond.static (⟨"java/lang/Math", "min", "(II)I"⟩ : MethodName) ∈ wl := in_wl (in_t3 (List.mem_of_getElem? (i := 19) rfl)) rfl
theorem wL_L_69 : Cond.methodLink "KissClearingLaw" 69 (⟨"KissClearing", "owe", "(II)I"⟩ : MethodName) ∈ wl := in_wl (in_t3 (List.mem_of_getElem? (i := 21) rfl)) rfl
theorem wI_K_owe : Cond.instanceMethod (⟨"KissClearing", "owe", "(II)I"⟩ : MethodName) ∈ wl := in_wl (in_t3 (List.mem_of_getElem? (i := 22) rfl)) rfl
theorem wS_K_owe : Cond.selects "KissClearing" (⟨"KissClearing", "owe", "(II)I"⟩ : MethodName) (⟨"KissClearing", "owe", "(II)I"⟩ : MethodName) ∈ wl := in_wl (in_t3 (List.mem_of_getElem? (i := 23) rfl)) rfl
theorem wL_K_183 : Cond.methodLink "KissClearing" 183 (⟨"KissClearing$Village", "hasTwo", "(II)Z"⟩ : MethodName) ∈ wl := in_wl (in_t3 (List.mem_of_getElem? (i := 25) rfl)) rfl
theorem wL_K_189 : Cond.methodLink "KissClearing" 189 (⟨"KissClearing$History", "isFullFor", "(I)Z"⟩ : MethodName) ∈ wl := in_wl (in_t3 (List.mem_of_getElem? (i := 26) rfl)) rfl
theorem wI_H_isFullFor : Cond.instanceMethod (⟨"KissClearing$History", "isFullFor", "(I)Z"⟩ : MethodName) ∈ wl := in_wl (in_t3 (List.mem_of_getElem? (i := 27) rfl)) rfl
theorem wS_H_isFullFor : Cond.selects "KissClearing$History" (⟨"KissClearing$History", "isFullFor", "(I)Z"⟩ : MethodName) (⟨"KissClearing$History", "isFullFor", "(I)Z"⟩ : MethodName) ∈ wl := in_wl (in_t3 (List.mem_of_getElem? (i := 28) rfl)) rfl
theorem wL_K_192 : Cond.methodLink "KissClearing" 192 (⟨"KissClearing$History", "begin", "(LKissClearing$Village;)V"⟩ : MethodName) ∈ wl := in_wl (in_t3 (List.mem_of_getElem? (i := 30) rfl)) rfl
theorem wI_H_begin : Cond.instanceMethod (⟨"KissClearing$History", "begin", "(LKissClearing$Village;)V"⟩ : MethodName) ∈ wl := in_wl (in_t3 (List.mem_of_getElem? (i := 31) rfl)) rfl
theorem wS_H_begin : Cond.selects "KissClearing$History" (⟨"KissClearing$History", "begin", "(LKissClearing$Village;)V"⟩ : MethodName) (⟨"KissClearing$History", "begin", "(LKissClearing$Village;)V"⟩ : MethodName) ∈ wl := in_wl (in_t3 (List.mem_of_getElem? (i := 32) rfl)) rfl
theorem wL_H_22 : Cond.methodLink "KissClearing$History" 22 (⟨"KissClearing$History", "isFullFor", "(I)Z"⟩ : MethodName) ∈ wl := in_wl (in_t3 (List.mem_of_getElem? (i := 34) rfl)) rfl
theorem wL_H_26 : Cond.methodLink "KissClearing$History" 26 (⟨"KissClearing$History", "save", "(LKissClearing$Village;)V"⟩ : MethodName) ∈ wl := in_wl (in_t3 (List.mem_of_getElem? (i := 35) rfl)) rfl
theorem wI_H_save : Cond.instanceMethod (⟨"KissClearing$History", "save", "(LKissClearing$Village;)V"⟩ : MethodName) ∈ wl := in_wl (in_t3 (List.mem_of_getElem? (i := 36) rfl)) rfl
theorem wS_H_save : Cond.selects "KissClearing$History" (⟨"KissClearing$History", "save", "(LKissClearing$Village;)V"⟩ : MethodName) (⟨"KissClearing$History", "save", "(LKissClearing$Village;)V"⟩ : MethodName) ∈ wl := in_wl (in_t3 (List.mem_of_getElem? (i := 37) rfl)) rfl
theorem wL_H_39 : Cond.methodLink "KissClearing$History" 39 (⟨"KissClearing$Draft", "packed", "()I"⟩ : MethodName) ∈ wl := in_wl (in_t3 (List.mem_of_getElem? (i := 39) rfl)) rfl
theorem wI_D_packed : Cond.instanceMethod (⟨"KissClearing$Draft", "packed", "()I"⟩ : MethodName) ∈ wl := in_wl (in_t3 (List.mem_of_getElem? (i := 40) rfl)) rfl
theorem wS_D_packed : Cond.selects "KissClearing$Draft" (⟨"KissClearing$Draft", "packed", "()I"⟩ : MethodName) (⟨"KissClearing$Draft", "packed", "()I"⟩ : MethodName) ∈ wl := in_wl (in_t3 (List.mem_of_getElem? (i := 41) rfl)) rfl
theorem wL_K_195 : Cond.methodLink "KissClearing" 195 (⟨"KissClearing$Village", "addDraft", "(IIII)V"⟩ : MethodName) ∈ wl := in_wl (in_t3 (List.mem_of_getElem? (i := 43) rfl)) rfl
theorem wL_L_73 : Cond.methodLink "KissClearingLaw" 73 (⟨"KissClearing", "meet", "(II)I"⟩ : MethodName) ∈ wl := in_wl (in_t3 (List.mem_of_getElem? (i := 44) rfl)) rfl
theorem wI_K_meet : Cond.instanceMethod (⟨"KissClearing", "meet", "(II)I"⟩ : MethodName) ∈ wl := in_wl (in_t3 (List.mem_of_getElem? (i := 45) rfl)) rfl
theorem wS_K_meet : Cond.selects "KissClearing" (⟨"KissClearing", "meet", "(II)I"⟩ : MethodName) (⟨"KissClearing", "meet", "(II)I"⟩ : MethodName) ∈ wl := in_wl (in_t3 (List.mem_of_getElem? (i := 46) rfl)) rfl
theorem wL_K_199 : Cond.methodLink "KissClearing" 199 (⟨"KissClearing$Village", "netTwo", "(II)I"⟩ : MethodName) ∈ wl := in_wl (in_t3 (List.mem_of_getElem? (i := 48) rfl)) rfl
theorem wI_V_netTwo : Cond.instanceMethod (⟨"KissClearing$Village", "netTwo", "(II)I"⟩ : MethodName) ∈ wl := in_wl (in_t3 (List.mem_of_getElem? (i := 49) rfl)) rfl
theorem wS_V_netTwo : Cond.selects "KissClearing$Village" (⟨"KissClearing$Village", "netTwo", "(II)I"⟩ : MethodName) (⟨"KissClearing$Village", "netTwo", "(II)I"⟩ : MethodName) ∈ wl := in_wl (in_t3 (List.mem_of_getElem? (i := 50) rfl)) rfl
theorem wL_V_81 : Cond.methodLink "KissClearing$Village" 81 (⟨"KissClearing$Village", "kissesBetween", "(III)I"⟩ : MethodName) ∈ wl := in_wl (in_t3 (List.mem_of_getElem? (i := 52) rfl)) rfl
theorem wI_V_kissesBetween : Cond.instanceMethod (⟨"KissClearing$Village", "kissesBetween", "(III)I"⟩ : MethodName) ∈ wl := in_wl (in_t3 (List.mem_of_getElem? (i := 53) rfl)) rfl
theorem wS_V_kissesBetween : Cond.selects "KissClearing$Village" (⟨"KissClearing$Village", "kissesBetween", "(III)I"⟩ : MethodName) (⟨"KissClearing$Village", "kissesBetween", "(III)I"⟩ : MethodName) ∈ wl := in_wl (in_t3 (List.mem_of_getElem? (i := 54) rfl)) rfl
theorem wL_V_85 : Cond.methodLink "KissClearing$Village" 85 (⟨"java/lang/Math", "min", "(II)I"⟩ : MethodName) ∈ wl := in_wl (in_t3 (List.mem_of_getElem? (i := 56) rfl)) rfl
theorem wL_V_91 : Cond.methodLink "KissClearing$Village" 91 (⟨"KissClearing$Village", "lessen", "(IIII)V"⟩ : MethodName) ∈ wl := in_wl (in_t3 (List.mem_of_getElem? (i := 57) rfl)) rfl
theorem wI_V_lessen : Cond.instanceMethod (⟨"KissClearing$Village", "lessen", "(IIII)V"⟩ : MethodName) ∈ wl := in_wl (in_t3 (List.mem_of_getElem? (i := 59) rfl)) rfl
theorem wL_K_202 : Cond.methodLink "KissClearing" 202 (⟨"KissClearing$Village", "payTwo", "(II)I"⟩ : MethodName) ∈ wl := in_wl (in_t3 (List.mem_of_getElem? (i := 61) rfl)) rfl
theorem wI_V_payTwo : Cond.instanceMethod (⟨"KissClearing$Village", "payTwo", "(II)I"⟩ : MethodName) ∈ wl := in_wl (in_t3 (List.mem_of_getElem? (i := 62) rfl)) rfl
theorem wS_V_payTwo : Cond.selects "KissClearing$Village" (⟨"KissClearing$Village", "payTwo", "(II)I"⟩ : MethodName) (⟨"KissClearing$Village", "payTwo", "(II)I"⟩ : MethodName) ∈ wl := in_wl (in_t3 (List.mem_of_getElem? (i := 63) rfl)) rfl
theorem wL_V_48 : Cond.methodLink "KissClearing$Village" 48 (⟨"KissClearing$Village", "isOfKind", "(II)Z"⟩ : MethodName) ∈ wl := in_wl (in_t3 (List.mem_of_getElem? (i := 65) rfl)) rfl
theorem wL_L_77 : Cond.methodLink "KissClearingLaw" 77 (⟨"KissClearing", "clear", "(I)I"⟩ : MethodName) ∈ wl := in_wl (in_t3 (List.mem_of_getElem? (i := 66) rfl)) rfl
theorem wI_K_clear : Cond.instanceMethod (⟨"KissClearing", "clear", "(I)I"⟩ : MethodName) ∈ wl := in_wl (in_t3 (List.mem_of_getElem? (i := 67) rfl)) rfl
theorem wS_K_clear : Cond.selects "KissClearing" (⟨"KissClearing", "clear", "(I)I"⟩ : MethodName) (⟨"KissClearing", "clear", "(I)I"⟩ : MethodName) ∈ wl := in_wl (in_t3 (List.mem_of_getElem? (i := 68) rfl)) rfl
theorem wL_K_205 : Cond.methodLink "KissClearing" 205 (⟨"KissClearing$Village", "isRing", "([II)Z"⟩ : MethodName) ∈ wl := in_wl (in_t3 (List.mem_of_getElem? (i := 70) rfl)) rfl
theorem wI_V_isRing : Cond.instanceMethod (⟨"KissClearing$Village", "isRing", "([II)Z"⟩ : MethodName) ∈ wl := in_wl (in_t3 (List.mem_of_getElem? (i := 71) rfl)) rfl
theorem wS_V_isRing : Cond.selects "KissClearing$Village" (⟨"KissClearing$Village", "isRing", "([II)Z"⟩ : MethodName) (⟨"KissClearing$Village", "isRing", "([II)Z"⟩ : MethodName) ∈ wl := in_wl (in_t3 (List.mem_of_getElem? (i := 72) rfl)) rfl
theorem wL_V_94 : Cond.methodLink "KissClearing$Village" 94 (⟨"KissClearing$Village", "hasDraft", "(I)Z"⟩ : MethodName) ∈ wl := in_wl (in_t3 (List.mem_of_getElem? (i := 74) rfl)) rfl
theorem wL_V_97 : Cond.methodLink "KissClearing$Village" 97 (⟨"KissClearing$Draft", "isOpenOf", "(I)Z"⟩ : MethodName) ∈ wl := in_wl (in_t3 (List.mem_of_getElem? (i := 75) rfl)) rfl
theorem wL_K_209 : Cond.methodLink "KissClearing" 209 (⟨"KissClearing$Village", "clearRing", "([II)I"⟩ : MethodName) ∈ wl := in_wl (in_t3 (List.mem_of_getElem? (i := 76) rfl)) rfl
theorem wI_V_clearRing : Cond.instanceMethod (⟨"KissClearing$Village", "clearRing", "([II)I"⟩ : MethodName) ∈ wl := in_wl (in_t3 (List.mem_of_getElem? (i := 77) rfl)) rfl
theorem wS_V_clearRing : Cond.selects "KissClearing$Village" (⟨"KissClearing$Village", "clearRing", "([II)I"⟩ : MethodName) (⟨"KissClearing$Village", "clearRing", "([II)I"⟩ : MethodName) ∈ wl := in_wl (in_t3 (List.mem_of_getElem? (i := 78) rfl)) rfl
theorem wL_V_100 : Cond.methodLink "KissClearing$Village" 100 (⟨"KissClearing$Village", "isRing", "([II)Z"⟩ : MethodName) ∈ wl := in_wl (in_t3 (List.mem_of_getElem? (i := 80) rfl)) rfl
theorem wL_L_81 : Cond.methodLink "KissClearingLaw" 81 (⟨"KissClearing", "endorse", "(II)I"⟩ : MethodName) ∈ wl := in_wl (in_t3 (List.mem_of_getElem? (i := 81) rfl)) rfl
theorem wI_K_endorse : Cond.instanceMethod (⟨"KissClearing", "endorse", "(II)I"⟩ : MethodName) ∈ wl := in_wl (in_t3 (List.mem_of_getElem? (i := 82) rfl)) rfl
theorem wS_K_endorse : Cond.selects "KissClearing" (⟨"KissClearing", "endorse", "(II)I"⟩ : MethodName) (⟨"KissClearing", "endorse", "(II)I"⟩ : MethodName) ∈ wl := in_wl (in_t3 (List.mem_of_getElem? (i := 83) rfl)) rfl
theorem wL_K_222 : Cond.methodLink "KissClearing" 222 (⟨"KissClearing$Draft", "isOpen", "()Z"⟩ : MethodName) ∈ wl := in_wl (in_t3 (List.mem_of_getElem? (i := 85) rfl)) rfl
theorem wL_L_85 : Cond.methodLink "KissClearingLaw" 85 (⟨"KissClearing", "week", "()I"⟩ : MethodName) ∈ wl := in_wl (in_t3 (List.mem_of_getElem? (i := 86) rfl)) rfl
theorem wI_K_week : Cond.instanceMethod (⟨"KissClearing", "week", "()I"⟩ : MethodName) ∈ wl := in_wl (in_t3 (List.mem_of_getElem? (i := 87) rfl)) rfl
theorem wS_K_week : Cond.selects "KissClearing" (⟨"KissClearing", "week", "()I"⟩ : MethodName) (⟨"KissClearing", "week", "()I"⟩ : MethodName) ∈ wl := in_wl (in_t3 (List.mem_of_getElem? (i := 88) rfl)) rfl
theorem wL_K_231 : Cond.methodLink "KissClearing" 231 (⟨"KissClearing$Village", "isEmpty", "()Z"⟩ : MethodName) ∈ wl := in_wl (in_t3 (List.mem_of_getElem? (i := 90) rfl)) rfl
theorem wI_V_isEmpty : Cond.instanceMethod (⟨"KissClearing$Village", "isEmpty", "()Z"⟩ : MethodName) ∈ wl := in_wl (in_t3 (List.mem_of_getElem? (i := 91) rfl)) rfl
theorem wS_V_isEmpty : Cond.selects "KissClearing$Village" (⟨"KissClearing$Village", "isEmpty", "()Z"⟩ : MethodName) (⟨"KissClearing$Village", "isEmpty", "()Z"⟩ : MethodName) ∈ wl := in_wl (in_t3 (List.mem_of_getElem? (i := 92) rfl)) rfl
theorem wL_K_234 : Cond.methodLink "KissClearing" 234 (⟨"KissClearing$Village", "passWeek", "()I"⟩ : MethodName) ∈ wl := in_wl (in_t3 (List.mem_of_getElem? (i := 94) rfl)) rfl
theorem wI_V_passWeek : Cond.instanceMethod (⟨"KissClearing$Village", "passWeek", "()I"⟩ : MethodName) ∈ wl := in_wl (in_t3 (List.mem_of_getElem? (i := 95) rfl)) rfl
theorem wS_V_passWeek : Cond.selects "KissClearing$Village" (⟨"KissClearing$Village", "passWeek", "()I"⟩ : MethodName) (⟨"KissClearing$Village", "passWeek", "()I"⟩ : MethodName) ∈ wl := in_wl (in_t3 (List.mem_of_getElem? (i := 96) rfl)) rfl
theorem wL_V_104 : Cond.methodLink "KissClearing$Village" 104 (⟨"KissClearing$Village", "growthFor", "(I)I"⟩ : MethodName) ∈ wl := in_wl (in_t3 (List.mem_of_getElem? (i := 98) rfl)) rfl
theorem wL_L_90 : Cond.methodLink "KissClearingLaw" 90 (⟨"KissClearing", "undo", "(I)I"⟩ : MethodName) ∈ wl := in_wl (in_t3 (List.mem_of_getElem? (i := 99) rfl)) rfl
theorem wI_K_undo : Cond.instanceMethod (⟨"KissClearing", "undo", "(I)I"⟩ : MethodName) ∈ wl := in_wl (in_t3 (List.mem_of_getElem? (i := 100) rfl)) rfl
theorem wS_K_undo : Cond.selects "KissClearing" (⟨"KissClearing", "undo", "(I)I"⟩ : MethodName) (⟨"KissClearing", "undo", "(I)I"⟩ : MethodName) ∈ wl := in_wl (in_t3 (List.mem_of_getElem? (i := 101) rfl)) rfl
theorem wL_K_238 : Cond.methodLink "KissClearing" 238 (⟨"KissClearing$History", "goBack", "(ILKissClearing$Village;)V"⟩ : MethodName) ∈ wl := in_wl (in_t3 (List.mem_of_getElem? (i := 103) rfl)) rfl
theorem wI_H_goBack : Cond.instanceMethod (⟨"KissClearing$History", "goBack", "(ILKissClearing$Village;)V"⟩ : MethodName) ∈ wl := in_wl (in_t3 (List.mem_of_getElem? (i := 104) rfl)) rfl
theorem wS_H_goBack : Cond.selects "KissClearing$History" (⟨"KissClearing$History", "goBack", "(ILKissClearing$Village;)V"⟩ : MethodName) (⟨"KissClearing$History", "goBack", "(ILKissClearing$Village;)V"⟩ : MethodName) ∈ wl := in_wl (in_t3 (List.mem_of_getElem? (i := 105) rfl)) rfl
theorem wL_H_45 : Cond.methodLink "KissClearing$History" 45 (⟨"KissClearing$Draft", "unpack", "(I)V"⟩ : MethodName) ∈ wl := in_wl (in_t3 (List.mem_of_getElem? (i := 107) rfl)) rfl
theorem wI_D_unpack : Cond.instanceMethod (⟨"KissClearing$Draft", "unpack", "(I)V"⟩ : MethodName) ∈ wl := in_wl (in_t3 (List.mem_of_getElem? (i := 108) rfl)) rfl
theorem wS_D_unpack : Cond.selects "KissClearing$Draft" (⟨"KissClearing$Draft", "unpack", "(I)V"⟩ : MethodName) (⟨"KissClearing$Draft", "unpack", "(I)V"⟩ : MethodName) ∈ wl := in_wl (in_t3 (List.mem_of_getElem? (i := 109) rfl)) rfl
theorem wL_L_94 : Cond.methodLink "KissClearingLaw" 94 (⟨"KissClearing", "keep", "(I)I"⟩ : MethodName) ∈ wl := in_wl (in_t3 (List.mem_of_getElem? (i := 111) rfl)) rfl
theorem wI_K_keep : Cond.instanceMethod (⟨"KissClearing", "keep", "(I)I"⟩ : MethodName) ∈ wl := in_wl (in_t3 (List.mem_of_getElem? (i := 112) rfl)) rfl
theorem wS_K_keep : Cond.selects "KissClearing" (⟨"KissClearing", "keep", "(I)I"⟩ : MethodName) (⟨"KissClearing", "keep", "(I)I"⟩ : MethodName) ∈ wl := in_wl (in_t3 (List.mem_of_getElem? (i := 113) rfl)) rfl
theorem wL_K_242 : Cond.methodLink "KissClearing" 242 (⟨"KissClearing", "isKeptPlace", "(I)Z"⟩ : MethodName) ∈ wl := in_wl (in_t3 (List.mem_of_getElem? (i := 115) rfl)) rfl
theorem wT_K_isKeptPlace : Cond.static (⟨"KissClearing", "isKeptPlace", "(I)Z"⟩ : MethodName) ∈ wl := in_wl (in_t3 (List.mem_of_getElem? (i := 116) rfl)) rfl
theorem wL_K_245 : Cond.methodLink "KissClearing" 245 (⟨"KissClearing$History", "save", "(LKissClearing$Village;)V"⟩ : MethodName) ∈ wl := in_wl (in_t3 (List.mem_of_getElem? (i := 118) rfl)) rfl
theorem wL_K_248 : Cond.methodLink "KissClearing" 248 (⟨"KissClearing$History", "becomeLike", "(LKissClearing$History;)V"⟩ : MethodName) ∈ wl := in_wl (in_t3 (List.mem_of_getElem? (i := 119) rfl)) rfl
theorem wI_H_becomeLike : Cond.instanceMethod (⟨"KissClearing$History", "becomeLike", "(LKissClearing$History;)V"⟩ : MethodName) ∈ wl := in_wl (in_t3 (List.mem_of_getElem? (i := 120) rfl)) rfl
theorem wS_H_becomeLike : Cond.selects "KissClearing$History" (⟨"KissClearing$History", "becomeLike", "(LKissClearing$History;)V"⟩ : MethodName) (⟨"KissClearing$History", "becomeLike", "(LKissClearing$History;)V"⟩ : MethodName) ∈ wl := in_wl (in_t3 (List.mem_of_getElem? (i := 121) rfl)) rfl
theorem wL_H_49 : Cond.methodLink "KissClearing$History" 49 (⟨"java/lang/System", "arraycopy", "(Ljava/lang/Object;ILjava/lang/Object;II)V"⟩ : MethodName) ∈ wl := in_wl (in_t3 (List.mem_of_getElem? (i := 123) rfl)) rfl
theorem wL_L_98 : Cond.methodLink "KissClearingLaw" 98 (⟨"KissClearing", "on", "(I)I"⟩ : MethodName) ∈ wl := in_wl (in_t3 (List.mem_of_getElem? (i := 124) rfl)) rfl
theorem wI_K_on : Cond.instanceMethod (⟨"KissClearing", "on", "(I)I"⟩ : MethodName) ∈ wl := in_wl (in_t3 (List.mem_of_getElem? (i := 125) rfl)) rfl
theorem wS_K_on : Cond.selects "KissClearing" (⟨"KissClearing", "on", "(I)I"⟩ : MethodName) (⟨"KissClearing", "on", "(I)I"⟩ : MethodName) ∈ wl := in_wl (in_t3 (List.mem_of_getElem? (i := 126) rfl)) rfl
theorem wL_L_102 : Cond.methodLink "KissClearingLaw" 102 (⟨"KissClearing", "between", "(III)I"⟩ : MethodName) ∈ wl := in_wl (in_t3 (List.mem_of_getElem? (i := 128) rfl)) rfl
theorem wI_K_between : Cond.instanceMethod (⟨"KissClearing", "between", "(III)I"⟩ : MethodName) ∈ wl := in_wl (in_t3 (List.mem_of_getElem? (i := 129) rfl)) rfl
theorem wS_K_between : Cond.selects "KissClearing" (⟨"KissClearing", "between", "(III)I"⟩ : MethodName) (⟨"KissClearing", "between", "(III)I"⟩ : MethodName) ∈ wl := in_wl (in_t3 (List.mem_of_getElem? (i := 130) rfl)) rfl
theorem wL_K_251 : Cond.methodLink "KissClearing" 251 (⟨"KissClearing", "isSort", "(I)Z"⟩ : MethodName) ∈ wl := in_wl (in_t3 (List.mem_of_getElem? (i := 132) rfl)) rfl
theorem wT_K_isSort : Cond.static (⟨"KissClearing", "isSort", "(I)Z"⟩ : MethodName) ∈ wl := in_wl (in_t3 (List.mem_of_getElem? (i := 133) rfl)) rfl
theorem wL_K_254 : Cond.methodLink "KissClearing" 254 (⟨"KissClearing$Village", "kissesBetween", "(III)I"⟩ : MethodName) ∈ wl := in_wl (in_t3 (List.mem_of_getElem? (i := 135) rfl)) rfl
theorem wL_L_106 : Cond.methodLink "KissClearingLaw" 106 (⟨"KissClearing", "all", "(I)I"⟩ : MethodName) ∈ wl := in_wl (in_t3 (List.mem_of_getElem? (i := 136) rfl)) rfl
theorem wI_K_all : Cond.instanceMethod (⟨"KissClearing", "all", "(I)I"⟩ : MethodName) ∈ wl := in_wl (in_t3 (List.mem_of_getElem? (i := 137) rfl)) rfl
theorem wS_K_all : Cond.selects "KissClearing" (⟨"KissClearing", "all", "(I)I"⟩ : MethodName) (⟨"KissClearing", "all", "(I)I"⟩ : MethodName) ∈ wl := in_wl (in_t3 (List.mem_of_getElem? (i := 138) rfl)) rfl
theorem wL_K_258 : Cond.methodLink "KissClearing" 258 (⟨"KissClearing", "isRingSort", "(I)Z"⟩ : MethodName) ∈ wl := in_wl (in_t3 (List.mem_of_getElem? (i := 140) rfl)) rfl
theorem wT_K_isRingSort : Cond.static (⟨"KissClearing", "isRingSort", "(I)Z"⟩ : MethodName) ∈ wl := in_wl (in_t3 (List.mem_of_getElem? (i := 141) rfl)) rfl
theorem wL_L_110 : Cond.methodLink "KissClearingLaw" 110 (⟨"KissClearing", "ring", "(II)I"⟩ : MethodName) ∈ wl := in_wl (in_t3 (List.mem_of_getElem? (i := 143) rfl)) rfl
theorem wI_K_ring : Cond.instanceMethod (⟨"KissClearing", "ring", "(II)I"⟩ : MethodName) ∈ wl := in_wl (in_t3 (List.mem_of_getElem? (i := 144) rfl)) rfl
theorem wS_K_ring : Cond.selects "KissClearing" (⟨"KissClearing", "ring", "(II)I"⟩ : MethodName) (⟨"KissClearing", "ring", "(II)I"⟩ : MethodName) ∈ wl := in_wl (in_t3 (List.mem_of_getElem? (i := 145) rfl)) rfl
theorem wL_L_114 : Cond.methodLink "KissClearingLaw" 114 (⟨"KissClearing", "net", "(I)I"⟩ : MethodName) ∈ wl := in_wl (in_t3 (List.mem_of_getElem? (i := 147) rfl)) rfl
theorem wI_K_net : Cond.instanceMethod (⟨"KissClearing", "net", "(I)I"⟩ : MethodName) ∈ wl := in_wl (in_t3 (List.mem_of_getElem? (i := 148) rfl)) rfl
theorem wS_K_net : Cond.selects "KissClearing" (⟨"KissClearing", "net", "(I)I"⟩ : MethodName) (⟨"KissClearing", "net", "(I)I"⟩ : MethodName) ∈ wl := in_wl (in_t3 (List.mem_of_getElem? (i := 149) rfl)) rfl
theorem wL_K_280 : Cond.methodLink "KissClearing" 280 (⟨"KissClearing$Village", "netOwing", "(II)I"⟩ : MethodName) ∈ wl := in_wl (in_t3 (List.mem_of_getElem? (i := 151) rfl)) rfl
theorem wI_V_netOwing : Cond.instanceMethod (⟨"KissClearing$Village", "netOwing", "(II)I"⟩ : MethodName) ∈ wl := in_wl (in_t3 (List.mem_of_getElem? (i := 152) rfl)) rfl
theorem wS_V_netOwing : Cond.selects "KissClearing$Village" (⟨"KissClearing$Village", "netOwing", "(II)I"⟩ : MethodName) (⟨"KissClearing$Village", "netOwing", "(II)I"⟩ : MethodName) ∈ wl := in_wl (in_t3 (List.mem_of_getElem? (i := 153) rfl)) rfl
theorem wL_L_118 : Cond.methodLink "KissClearingLaw" 118 (⟨"KissClearing", "left", "(I)I"⟩ : MethodName) ∈ wl := in_wl (in_t3 (List.mem_of_getElem? (i := 155) rfl)) rfl
theorem wI_K_left : Cond.instanceMethod (⟨"KissClearing", "left", "(I)I"⟩ : MethodName) ∈ wl := in_wl (in_t3 (List.mem_of_getElem? (i := 156) rfl)) rfl
theorem wS_K_left : Cond.selects "KissClearing" (⟨"KissClearing", "left", "(I)I"⟩ : MethodName) (⟨"KissClearing", "left", "(I)I"⟩ : MethodName) ∈ wl := in_wl (in_t3 (List.mem_of_getElem? (i := 157) rfl)) rfl
theorem wL_K_283 : Cond.methodLink "KissClearing" 283 (⟨"KissClearing$Village", "kissesOfSort", "(I)I"⟩ : MethodName) ∈ wl := in_wl (in_t3 (List.mem_of_getElem? (i := 159) rfl)) rfl
theorem wI_V_kissesOfSort : Cond.instanceMethod (⟨"KissClearing$Village", "kissesOfSort", "(I)I"⟩ : MethodName) ∈ wl := in_wl (in_t3 (List.mem_of_getElem? (i := 160) rfl)) rfl
theorem wS_V_kissesOfSort : Cond.selects "KissClearing$Village" (⟨"KissClearing$Village", "kissesOfSort", "(I)I"⟩ : MethodName) (⟨"KissClearing$Village", "kissesOfSort", "(I)I"⟩ : MethodName) ∈ wl := in_wl (in_t3 (List.mem_of_getElem? (i := 161) rfl)) rfl
theorem wL_L_122 : Cond.methodLink "KissClearingLaw" 122 (⟨"KissClearing", "falls", "(I)I"⟩ : MethodName) ∈ wl := in_wl (in_t3 (List.mem_of_getElem? (i := 163) rfl)) rfl
theorem wI_K_falls : Cond.instanceMethod (⟨"KissClearing", "falls", "(I)I"⟩ : MethodName) ∈ wl := in_wl (in_t3 (List.mem_of_getElem? (i := 164) rfl)) rfl
theorem wS_K_falls : Cond.selects "KissClearing" (⟨"KissClearing", "falls", "(I)I"⟩ : MethodName) (⟨"KissClearing", "falls", "(I)I"⟩ : MethodName) ∈ wl := in_wl (in_t3 (List.mem_of_getElem? (i := 165) rfl)) rfl
theorem wL_K_286 : Cond.methodLink "KissClearing" 286 (⟨"KissClearing$Village", "fallen", "(II)I"⟩ : MethodName) ∈ wl := in_wl (in_t3 (List.mem_of_getElem? (i := 167) rfl)) rfl
theorem wI_V_fallen : Cond.instanceMethod (⟨"KissClearing$Village", "fallen", "(II)I"⟩ : MethodName) ∈ wl := in_wl (in_t3 (List.mem_of_getElem? (i := 168) rfl)) rfl
theorem wS_V_fallen : Cond.selects "KissClearing$Village" (⟨"KissClearing$Village", "fallen", "(II)I"⟩ : MethodName) (⟨"KissClearing$Village", "fallen", "(II)I"⟩ : MethodName) ∈ wl := in_wl (in_t3 (List.mem_of_getElem? (i := 169) rfl)) rfl
theorem wL_V_107 : Cond.methodLink "KissClearing$Village" 107 (⟨"KissClearing$Village", "owing", "(I)I"⟩ : MethodName) ∈ wl := in_wl (in_t3 (List.mem_of_getElem? (i := 171) rfl)) rfl
theorem wL_V_110 : Cond.methodLink "KissClearing$Village" 110 (⟨"KissClearing$Village", "owed", "(II)I"⟩ : MethodName) ∈ wl := in_wl (in_t3 (List.mem_of_getElem? (i := 172) rfl)) rfl
theorem wL_V_113 : Cond.methodLink "KissClearing$Village" 113 (⟨"KissClearing$Village", "reserve", "(I)I"⟩ : MethodName) ∈ wl := in_wl (in_t3 (List.mem_of_getElem? (i := 173) rfl)) rfl
theorem wL_L_126 : Cond.methodLink "KissClearingLaw" 126 (⟨"KissClearing", "worst", "()I"⟩ : MethodName) ∈ wl := in_wl (in_t3 (List.mem_of_getElem? (i := 174) rfl)) rfl
theorem wI_K_worst : Cond.instanceMethod (⟨"KissClearing", "worst", "()I"⟩ : MethodName) ∈ wl := in_wl (in_t3 (List.mem_of_getElem? (i := 175) rfl)) rfl
theorem wS_K_worst : Cond.selects "KissClearing" (⟨"KissClearing", "worst", "()I"⟩ : MethodName) (⟨"KissClearing", "worst", "()I"⟩ : MethodName) ∈ wl := in_wl (in_t3 (List.mem_of_getElem? (i := 176) rfl)) rfl
theorem wL_L_130 : Cond.methodLink "KissClearingLaw" 130 (⟨"KissClearing", "saved", "(II)I"⟩ : MethodName) ∈ wl := in_wl (in_t3 (List.mem_of_getElem? (i := 178) rfl)) rfl
theorem wI_K_saved : Cond.instanceMethod (⟨"KissClearing", "saved", "(II)I"⟩ : MethodName) ∈ wl := in_wl (in_t3 (List.mem_of_getElem? (i := 179) rfl)) rfl
theorem wS_K_saved : Cond.selects "KissClearing" (⟨"KissClearing", "saved", "(II)I"⟩ : MethodName) (⟨"KissClearing", "saved", "(II)I"⟩ : MethodName) ∈ wl := in_wl (in_t3 (List.mem_of_getElem? (i := 180) rfl)) rfl
theorem wL_L_134 : Cond.methodLink "KissClearingLaw" 134 (⟨"KissClearing", "pairs", "()I"⟩ : MethodName) ∈ wl := in_wl (in_t3 (List.mem_of_getElem? (i := 182) rfl)) rfl
theorem wI_K_pairs : Cond.instanceMethod (⟨"KissClearing", "pairs", "()I"⟩ : MethodName) ∈ wl := in_wl (in_t3 (List.mem_of_getElem? (i := 183) rfl)) rfl
theorem wS_K_pairs : Cond.selects "KissClearing" (⟨"KissClearing", "pairs", "()I"⟩ : MethodName) (⟨"KissClearing", "pairs", "()I"⟩ : MethodName) ∈ wl := in_wl (in_t3 (List.mem_of_getElem? (i := 184) rfl)) rfl
theorem wL_K_294 : Cond.methodLink "KissClearing" 294 (⟨"KissClearing$Rounds", "gather", "(LKissClearing$Village;)V"⟩ : MethodName) ∈ wl := in_wl (in_t3 (List.mem_of_getElem? (i := 186) rfl)) rfl
theorem wI_O_gather : Cond.instanceMethod (⟨"KissClearing$Rounds", "gather", "(LKissClearing$Village;)V"⟩ : MethodName) ∈ wl := in_wl (in_t3 (List.mem_of_getElem? (i := 187) rfl)) rfl
theorem wS_O_gather : Cond.selects "KissClearing$Rounds" (⟨"KissClearing$Rounds", "gather", "(LKissClearing$Village;)V"⟩ : MethodName) (⟨"KissClearing$Rounds", "gather", "(LKissClearing$Village;)V"⟩ : MethodName) ∈ wl := in_wl (in_t3 (List.mem_of_getElem? (i := 188) rfl)) rfl
theorem wL_O_30 : Cond.methodLink "KissClearing$Rounds" 30 (⟨"KissClearing$Village", "owedByAny", "(I)I"⟩ : MethodName) ∈ wl := in_wl (in_t3 (List.mem_of_getElem? (i := 190) rfl)) rfl
theorem wL_L_138 : Cond.methodLink "KissClearingLaw" 138 (⟨"KissClearing", "rounds", "()I"⟩ : MethodName) ∈ wl := in_wl (in_t3 (List.mem_of_getElem? (i := 191) rfl)) rfl
theorem wI_K_rounds : Cond.instanceMethod (⟨"KissClearing", "rounds", "()I"⟩ : MethodName) ∈ wl := in_wl (in_t3 (List.mem_of_getElem? (i := 192) rfl)) rfl
theorem wS_K_rounds : Cond.selects "KissClearing" (⟨"KissClearing", "rounds", "()I"⟩ : MethodName) (⟨"KissClearing", "rounds", "()I"⟩ : MethodName) ∈ wl := in_wl (in_t3 (List.mem_of_getElem? (i := 193) rfl)) rfl
theorem wL_K_304 : Cond.methodLink "KissClearing" 304 (⟨"KissClearing$Rounds", "fewest", "()I"⟩ : MethodName) ∈ wl := in_wl (in_t3 (List.mem_of_getElem? (i := 195) rfl)) rfl
theorem wI_O_fewest : Cond.instanceMethod (⟨"KissClearing$Rounds", "fewest", "()I"⟩ : MethodName) ∈ wl := in_wl (in_t3 (List.mem_of_getElem? (i := 196) rfl)) rfl
theorem wS_O_fewest : Cond.selects "KissClearing$Rounds" (⟨"KissClearing$Rounds", "fewest", "()I"⟩ : MethodName) (⟨"KissClearing$Rounds", "fewest", "()I"⟩ : MethodName) ∈ wl := in_wl (in_t3 (List.mem_of_getElem? (i := 197) rfl)) rfl
theorem wL_O_34 : Cond.methodLink "KissClearing$Rounds" 34 (⟨"KissClearing$Rounds", "mostOfOne", "()I"⟩ : MethodName) ∈ wl := in_wl (in_t3 (List.mem_of_getElem? (i := 199) rfl)) rfl
theorem wI_O_mostOfOne : Cond.instanceMethod (⟨"KissClearing$Rounds", "mostOfOne", "()I"⟩ : MethodName) ∈ wl := in_wl (in_t3 (List.mem_of_getElem? (i := 201) rfl)) rfl
theorem wL_O_42 : Cond.methodLink "KissClearing$Rounds" 42 (⟨"java/lang/Math", "max", "(II)I"⟩ : MethodName) ∈ wl := in_wl (in_t3 (List.mem_of_getElem? (i := 203) rfl)) rfl
theorem wL_O_38 : Cond.methodLink "KissClearing$Rounds" 38 (⟨"KissClearing$Rounds", "fit", "(III)Z"⟩ : MethodName) ∈ wl := in_wl (in_t3 (List.mem_of_getElem? (i := 204) rfl)) rfl
theorem wI_O_fit : Cond.instanceMethod (⟨"KissClearing$Rounds", "fit", "(III)Z"⟩ : MethodName) ∈ wl := in_wl (in_t3 (List.mem_of_getElem? (i := 206) rfl)) rfl
theorem wL_L_142 : Cond.methodLink "KissClearingLaw" 142 (⟨"KissClearing", "mistletoe", "()I"⟩ : MethodName) ∈ wl := in_wl (in_t3 (List.mem_of_getElem? (i := 208) rfl)) rfl
theorem wI_K_mistletoe : Cond.instanceMethod (⟨"KissClearing", "mistletoe", "()I"⟩ : MethodName) ∈ wl := in_wl (in_t3 (List.mem_of_getElem? (i := 209) rfl)) rfl
theorem wS_K_mistletoe : Cond.selects "KissClearing" (⟨"KissClearing", "mistletoe", "()I"⟩ : MethodName) (⟨"KissClearing", "mistletoe", "()I"⟩ : MethodName) ∈ wl := in_wl (in_t3 (List.mem_of_getElem? (i := 210) rfl)) rfl
theorem wL_K_307 : Cond.methodLink "KissClearing" 307 (⟨"KissClearing$Village", "clearedByHalving", "(I)I"⟩ : MethodName) ∈ wl := in_wl (in_t3 (List.mem_of_getElem? (i := 212) rfl)) rfl
theorem wI_V_clearedByHalving : Cond.instanceMethod (⟨"KissClearing$Village", "clearedByHalving", "(I)I"⟩ : MethodName) ∈ wl := in_wl (in_t3 (List.mem_of_getElem? (i := 213) rfl)) rfl
theorem wS_V_clearedByHalving : Cond.selects "KissClearing$Village" (⟨"KissClearing$Village", "clearedByHalving", "(I)I"⟩ : MethodName) (⟨"KissClearing$Village", "clearedByHalving", "(I)I"⟩ : MethodName) ∈ wl := in_wl (in_t3 (List.mem_of_getElem? (i := 214) rfl)) rfl
theorem wL_L_146 : Cond.methodLink "KissClearingLaw" 146 (⟨"KissClearing", "gain", "(I)I"⟩ : MethodName) ∈ wl := in_wl (in_t3 (List.mem_of_getElem? (i := 216) rfl)) rfl
theorem wI_K_gain : Cond.instanceMethod (⟨"KissClearing", "gain", "(I)I"⟩ : MethodName) ∈ wl := in_wl (in_t3 (List.mem_of_getElem? (i := 217) rfl)) rfl
theorem wS_K_gain : Cond.selects "KissClearing" (⟨"KissClearing", "gain", "(I)I"⟩ : MethodName) (⟨"KissClearing", "gain", "(I)I"⟩ : MethodName) ∈ wl := in_wl (in_t3 (List.mem_of_getElem? (i := 218) rfl)) rfl
theorem wL_K_310 : Cond.methodLink "KissClearing" 310 (⟨"KissClearing", "firstGain", "([I)I"⟩ : MethodName) ∈ wl := in_wl (in_t3 (List.mem_of_getElem? (i := 220) rfl)) rfl
theorem wT_K_firstGain : Cond.static (⟨"KissClearing", "firstGain", "([I)I"⟩ : MethodName) ∈ wl := in_wl (in_t3 (List.mem_of_getElem? (i := 221) rfl)) rfl
theorem wJ_K_380 : Cond.constantLong "KissClearing" (380 : Nat) (10000 : Int64) ∈ wl := in_wl (in_t3 (List.mem_of_getElem? (i := 223) rfl)) rfl
theorem wJ_K_382 : Cond.constantLong "KissClearing" (382 : Nat) (1000000 : Int64) ∈ wl := in_wl (in_t3 (List.mem_of_getElem? (i := 224) rfl)) rfl
theorem wL_L_150 : Cond.methodLink "KissClearingLaw" 150 (⟨"KissClearing", "trust", "(II)I"⟩ : MethodName) ∈ wl := in_wl (in_t3 (List.mem_of_getElem? (i := 225) rfl)) rfl
theorem wI_K_trust : Cond.instanceMethod (⟨"KissClearing", "trust", "(II)I"⟩ : MethodName) ∈ wl := in_wl (in_t3 (List.mem_of_getElem? (i := 226) rfl)) rfl
theorem wS_K_trust : Cond.selects "KissClearing" (⟨"KissClearing", "trust", "(II)I"⟩ : MethodName) (⟨"KissClearing", "trust", "(II)I"⟩ : MethodName) ∈ wl := in_wl (in_t3 (List.mem_of_getElem? (i := 227) rfl)) rfl
theorem wL_L_154 : Cond.methodLink "KissClearingLaw" 154 (⟨"KissClearing", "blushes", "(I)I"⟩ : MethodName) ∈ wl := in_wl (in_t3 (List.mem_of_getElem? (i := 229) rfl)) rfl
theorem wI_K_blushes : Cond.instanceMethod (⟨"KissClearing", "blushes", "(I)I"⟩ : MethodName) ∈ wl := in_wl (in_t3 (List.mem_of_getElem? (i := 230) rfl)) rfl
theorem wS_K_blushes : Cond.selects "KissClearing" (⟨"KissClearing", "blushes", "(I)I"⟩ : MethodName) (⟨"KissClearing", "blushes", "(I)I"⟩ : MethodName) ∈ wl := in_wl (in_t3 (List.mem_of_getElem? (i := 231) rfl)) rfl
theorem wL_K_317 : Cond.methodLink "KissClearing" 317 (⟨"KissClearing", "blushesRefused", "(I)I"⟩ : MethodName) ∈ wl := in_wl (in_t3 (List.mem_of_getElem? (i := 233) rfl)) rfl
theorem wI_K_blushesRefused : Cond.instanceMethod (⟨"KissClearing", "blushesRefused", "(I)I"⟩ : MethodName) ∈ wl := in_wl (in_t3 (List.mem_of_getElem? (i := 235) rfl)) rfl
theorem wL_K_320 : Cond.methodLink "KissClearing" 320 (⟨"KissClearing$Blushes", "search", "(LKissClearing$Village;[I)V"⟩ : MethodName) ∈ wl := in_wl (in_t3 (List.mem_of_getElem? (i := 237) rfl)) rfl
theorem wI_B_search : Cond.instanceMethod (⟨"KissClearing$Blushes", "search", "(LKissClearing$Village;[I)V"⟩ : MethodName) ∈ wl := in_wl (in_t3 (List.mem_of_getElem? (i := 238) rfl)) rfl
theorem wS_B_search : Cond.selects "KissClearing$Blushes" (⟨"KissClearing$Blushes", "search", "(LKissClearing$Village;[I)V"⟩ : MethodName) (⟨"KissClearing$Blushes", "search", "(LKissClearing$Village;[I)V"⟩ : MethodName) ∈ wl := in_wl (in_t3 (List.mem_of_getElem? (i := 239) rfl)) rfl
theorem wL_B_33 : Cond.methodLink "KissClearing$Blushes" 33 (⟨"KissClearing$Blushes", "choose", "(LKissClearing$Village;II)V"⟩ : MethodName) ∈ wl := in_wl (in_t4 (List.mem_of_getElem? (i := 1) rfl)) rfl
theorem wI_B_choose : Cond.instanceMethod (⟨"KissClearing$Blushes", "choose", "(LKissClearing$Village;II)V"⟩ : MethodName) ∈ wl := in_wl (in_t4 (List.mem_of_getElem? (i := 3) rfl)) rfl
theorem wL_B_37 : Cond.methodLink "KissClearing$Blushes" 37 (⟨"KissClearing$Blushes", "takeIfFitting", "(LKissClearing$Village;I)V"⟩ : MethodName) ∈ wl := in_wl (in_t4 (List.mem_of_getElem? (i := 5) rfl)) rfl
theorem wI_B_takeIfFitting : Cond.instanceMethod (⟨"KissClearing$Blushes", "takeIfFitting", "(LKissClearing$Village;I)V"⟩ : MethodName) ∈ wl := in_wl (in_t4 (List.mem_of_getElem? (i := 7) rfl)) rfl
theorem wL_B_50 : Cond.methodLink "KissClearing$Blushes" 50 (⟨"KissClearing$Draft", "isOpen", "()Z"⟩ : MethodName) ∈ wl := in_wl (in_t4 (List.mem_of_getElem? (i := 9) rfl)) rfl
theorem wL_L_158 : Cond.methodLink "KissClearingLaw" 158 (⟨"KissClearing", "sure", "(I)I"⟩ : MethodName) ∈ wl := in_wl (in_t4 (List.mem_of_getElem? (i := 10) rfl)) rfl
theorem wI_K_sure : Cond.instanceMethod (⟨"KissClearing", "sure", "(I)I"⟩ : MethodName) ∈ wl := in_wl (in_t4 (List.mem_of_getElem? (i := 11) rfl)) rfl
theorem wS_K_sure : Cond.selects "KissClearing" (⟨"KissClearing", "sure", "(I)I"⟩ : MethodName) (⟨"KissClearing", "sure", "(I)I"⟩ : MethodName) ∈ wl := in_wl (in_t4 (List.mem_of_getElem? (i := 12) rfl)) rfl
theorem wL_L_162 : Cond.methodLink "KissClearingLaw" 162 (⟨"KissClearing", "odds", "()I"⟩ : MethodName) ∈ wl := in_wl (in_t4 (List.mem_of_getElem? (i := 14) rfl)) rfl
theorem wI_K_odds : Cond.instanceMethod (⟨"KissClearing", "odds", "()I"⟩ : MethodName) ∈ wl := in_wl (in_t4 (List.mem_of_getElem? (i := 15) rfl)) rfl
theorem wS_K_odds : Cond.selects "KissClearing" (⟨"KissClearing", "odds", "()I"⟩ : MethodName) (⟨"KissClearing", "odds", "()I"⟩ : MethodName) ∈ wl := in_wl (in_t4 (List.mem_of_getElem? (i := 16) rfl)) rfl
theorem wL_K_332 : Cond.methodLink "KissClearing" 332 (⟨"KissClearing", "greatestCommon", "(II)I"⟩ : MethodName) ∈ wl := in_wl (in_t4 (List.mem_of_getElem? (i := 18) rfl)) rfl
theorem wT_K_greatestCommon : Cond.static (⟨"KissClearing", "greatestCommon", "(II)I"⟩ : MethodName) ∈ wl := in_wl (in_t4 (List.mem_of_getElem? (i := 19) rfl)) rfl
theorem wL_K_384 : Cond.methodLink "KissClearing" 384 (⟨"java/lang/Math", "min", "(II)I"⟩ : MethodName) ∈ wl := in_wl (in_t4 (List.mem_of_getElem? (i := 21) rfl)) rfl
theorem wL_L_166 : Cond.methodLink "KissClearingLaw" 166 (⟨"KissClearing", "lots", "(II)I"⟩ : MethodName) ∈ wl := in_wl (in_t4 (List.mem_of_getElem? (i := 22) rfl)) rfl
theorem wI_K_lots : Cond.instanceMethod (⟨"KissClearing", "lots", "(II)I"⟩ : MethodName) ∈ wl := in_wl (in_t4 (List.mem_of_getElem? (i := 23) rfl)) rfl
theorem wS_K_lots : Cond.selects "KissClearing" (⟨"KissClearing", "lots", "(II)I"⟩ : MethodName) (⟨"KissClearing", "lots", "(II)I"⟩ : MethodName) ∈ wl := in_wl (in_t4 (List.mem_of_getElem? (i := 24) rfl)) rfl
theorem wJ_K_335 : Cond.constantLong "KissClearing" (335 : Nat) (2147483647 : Int64) ∈ wl := in_wl (in_t4 (List.mem_of_getElem? (i := 26) rfl)) rfl
theorem wJ_K_337 : Cond.constantLong "KissClearing" (337 : Nat) (48271 : Int64) ∈ wl := in_wl (in_t4 (List.mem_of_getElem? (i := 27) rfl)) rfl
theorem wJ_K_339 : Cond.constantLong "KissClearing" (339 : Nat) (32 : Int64) ∈ wl := in_wl (in_t4 (List.mem_of_getElem? (i := 28) rfl)) rfl
theorem wL_L_170 : Cond.methodLink "KissClearingLaw" 170 (⟨"KissClearing", "asked", "()I"⟩ : MethodName) ∈ wl := in_wl (in_t4 (List.mem_of_getElem? (i := 29) rfl)) rfl
theorem wI_K_asked : Cond.instanceMethod (⟨"KissClearing", "asked", "()I"⟩ : MethodName) ∈ wl := in_wl (in_t4 (List.mem_of_getElem? (i := 30) rfl)) rfl
theorem wS_K_asked : Cond.selects "KissClearing" (⟨"KissClearing", "asked", "()I"⟩ : MethodName) (⟨"KissClearing", "asked", "()I"⟩ : MethodName) ∈ wl := in_wl (in_t4 (List.mem_of_getElem? (i := 31) rfl)) rfl
theorem wL_L_174 : Cond.methodLink "KissClearingLaw" 174 (⟨"KissClearing", "upper", "()J"⟩ : MethodName) ∈ wl := in_wl (in_t4 (List.mem_of_getElem? (i := 33) rfl)) rfl
theorem wI_K_upper : Cond.instanceMethod (⟨"KissClearing", "upper", "()J"⟩ : MethodName) ∈ wl := in_wl (in_t4 (List.mem_of_getElem? (i := 34) rfl)) rfl
theorem wS_K_upper : Cond.selects "KissClearing" (⟨"KissClearing", "upper", "()J"⟩ : MethodName) (⟨"KissClearing", "upper", "()J"⟩ : MethodName) ∈ wl := in_wl (in_t4 (List.mem_of_getElem? (i := 35) rfl)) rfl
theorem wL_L_179 : Cond.methodLink "KissClearingLaw" 179 (⟨"KissClearing", "lower", "()J"⟩ : MethodName) ∈ wl := in_wl (in_t4 (List.mem_of_getElem? (i := 37) rfl)) rfl
theorem wI_K_lower : Cond.instanceMethod (⟨"KissClearing", "lower", "()J"⟩ : MethodName) ∈ wl := in_wl (in_t4 (List.mem_of_getElem? (i := 38) rfl)) rfl
theorem wS_K_lower : Cond.selects "KissClearing" (⟨"KissClearing", "lower", "()J"⟩ : MethodName) (⟨"KissClearing", "lower", "()J"⟩ : MethodName) ∈ wl := in_wl (in_t4 (List.mem_of_getElem? (i := 39) rfl)) rfl
theorem wL_L_183 : Cond.methodLink "KissClearingLaw" 183 (⟨"KissClearing", "count", "(I)I"⟩ : MethodName) ∈ wl := in_wl (in_t4 (List.mem_of_getElem? (i := 41) rfl)) rfl
theorem wI_K_count : Cond.instanceMethod (⟨"KissClearing", "count", "(I)I"⟩ : MethodName) ∈ wl := in_wl (in_t4 (List.mem_of_getElem? (i := 42) rfl)) rfl
theorem wS_K_count : Cond.selects "KissClearing" (⟨"KissClearing", "count", "(I)I"⟩ : MethodName) (⟨"KissClearing", "count", "(I)I"⟩ : MethodName) ∈ wl := in_wl (in_t4 (List.mem_of_getElem? (i := 43) rfl)) rfl
theorem wL_K_341 : Cond.methodLink "KissClearing" 341 (⟨"KissClearing", "howMany", "(I)I"⟩ : MethodName) ∈ wl := in_wl (in_t4 (List.mem_of_getElem? (i := 45) rfl)) rfl
theorem wI_K_howMany : Cond.instanceMethod (⟨"KissClearing", "howMany", "(I)I"⟩ : MethodName) ∈ wl := in_wl (in_t4 (List.mem_of_getElem? (i := 47) rfl)) rfl
theorem wL_K_364 : Cond.methodLink "KissClearing" 364 (⟨"KissClearing$Village", "openDrafts", "()I"⟩ : MethodName) ∈ wl := in_wl (in_t4 (List.mem_of_getElem? (i := 49) rfl)) rfl
theorem wI_V_openDrafts : Cond.instanceMethod (⟨"KissClearing$Village", "openDrafts", "()I"⟩ : MethodName) ∈ wl := in_wl (in_t4 (List.mem_of_getElem? (i := 50) rfl)) rfl
theorem wS_V_openDrafts : Cond.selects "KissClearing$Village" (⟨"KissClearing$Village", "openDrafts", "()I"⟩ : MethodName) (⟨"KissClearing$Village", "openDrafts", "()I"⟩ : MethodName) ∈ wl := in_wl (in_t4 (List.mem_of_getElem? (i := 51) rfl)) rfl
theorem wL_K_367 : Cond.methodLink "KissClearing" 367 (⟨"KissClearing$Village", "personsOfKind", "(I)I"⟩ : MethodName) ∈ wl := in_wl (in_t4 (List.mem_of_getElem? (i := 53) rfl)) rfl
theorem wI_V_personsOfKind : Cond.instanceMethod (⟨"KissClearing$Village", "personsOfKind", "(I)I"⟩ : MethodName) ∈ wl := in_wl (in_t4 (List.mem_of_getElem? (i := 54) rfl)) rfl
theorem wS_V_personsOfKind : Cond.selects "KissClearing$Village" (⟨"KissClearing$Village", "personsOfKind", "(I)I"⟩ : MethodName) (⟨"KissClearing$Village", "personsOfKind", "(I)I"⟩ : MethodName) ∈ wl := in_wl (in_t4 (List.mem_of_getElem? (i := 55) rfl)) rfl
theorem wL_K_370 : Cond.methodLink "KissClearing" 370 (⟨"KissClearing", "thoseThere", "([LKissClearing$Strip;)I"⟩ : MethodName) ∈ wl := in_wl (in_t4 (List.mem_of_getElem? (i := 57) rfl)) rfl
theorem wT_K_thoseThere : Cond.static (⟨"KissClearing", "thoseThere", "([LKissClearing$Strip;)I"⟩ : MethodName) ∈ wl := in_wl (in_t4 (List.mem_of_getElem? (i := 58) rfl)) rfl
theorem wL_K_374 : Cond.methodLink "KissClearing" 374 (⟨"KissClearing", "keptVillages", "()I"⟩ : MethodName) ∈ wl := in_wl (in_t4 (List.mem_of_getElem? (i := 60) rfl)) rfl
theorem wI_K_keptVillages : Cond.instanceMethod (⟨"KissClearing", "keptVillages", "()I"⟩ : MethodName) ∈ wl := in_wl (in_t4 (List.mem_of_getElem? (i := 62) rfl)) rfl
theorem wL_L_187 : Cond.methodLink "KissClearingLaw" 187 (⟨"KissClearing", "finding", "()I"⟩ : MethodName) ∈ wl := in_wl (in_t4 (List.mem_of_getElem? (i := 64) rfl)) rfl
theorem wI_K_finding : Cond.instanceMethod (⟨"KissClearing", "finding", "()I"⟩ : MethodName) ∈ wl := in_wl (in_t4 (List.mem_of_getElem? (i := 65) rfl)) rfl
theorem wS_K_finding : Cond.selects "KissClearing" (⟨"KissClearing", "finding", "()I"⟩ : MethodName) (⟨"KissClearing", "finding", "()I"⟩ : MethodName) ∈ wl := in_wl (in_t4 (List.mem_of_getElem? (i := 66) rfl)) rfl
theorem wL_L_191 : Cond.methodLink "KissClearingLaw" 191 (⟨"KissClearing", "findings", "(I)I"⟩ : MethodName) ∈ wl := in_wl (in_t4 (List.mem_of_getElem? (i := 68) rfl)) rfl
theorem wI_K_findings : Cond.instanceMethod (⟨"KissClearing", "findings", "(I)I"⟩ : MethodName) ∈ wl := in_wl (in_t4 (List.mem_of_getElem? (i := 69) rfl)) rfl
theorem wS_K_findings : Cond.selects "KissClearing" (⟨"KissClearing", "findings", "(I)I"⟩ : MethodName) (⟨"KissClearing", "findings", "(I)I"⟩ : MethodName) ∈ wl := in_wl (in_t4 (List.mem_of_getElem? (i := 70) rfl)) rfl
theorem wL_L_195 : Cond.methodLink "KissClearingLaw" 195 (⟨"KissClearing", "digest", "()J"⟩ : MethodName) ∈ wl := in_wl (in_t4 (List.mem_of_getElem? (i := 72) rfl)) rfl
theorem wI_K_digest : Cond.instanceMethod (⟨"KissClearing", "digest", "()J"⟩ : MethodName) ∈ wl := in_wl (in_t4 (List.mem_of_getElem? (i := 73) rfl)) rfl
theorem wS_K_digest : Cond.selects "KissClearing" (⟨"KissClearing", "digest", "()J"⟩ : MethodName) (⟨"KissClearing", "digest", "()J"⟩ : MethodName) ∈ wl := in_wl (in_t4 (List.mem_of_getElem? (i := 74) rfl)) rfl
theorem wJ_K_344 : Cond.constantLong "KissClearing" (344 : Nat) (17 : Int64) ∈ wl := in_wl (in_t4 (List.mem_of_getElem? (i := 76) rfl)) rfl
theorem wJ_K_346 : Cond.constantLong "KissClearing" (346 : Nat) (31 : Int64) ∈ wl := in_wl (in_t4 (List.mem_of_getElem? (i := 77) rfl)) rfl
theorem wL_K_348 : Cond.methodLink "KissClearing" 348 (⟨"KissClearing$Strip", "mixedInto", "(J)J"⟩ : MethodName) ∈ wl := in_wl (in_t4 (List.mem_of_getElem? (i := 78) rfl)) rfl
theorem wI_S_mixedInto : Cond.instanceMethod (⟨"KissClearing$Strip", "mixedInto", "(J)J"⟩ : MethodName) ∈ wl := in_wl (in_t4 (List.mem_of_getElem? (i := 79) rfl)) rfl
theorem wS_S_mixedInto : Cond.selects "KissClearing$Strip" (⟨"KissClearing$Strip", "mixedInto", "(J)J"⟩ : MethodName) (⟨"KissClearing$Strip", "mixedInto", "(J)J"⟩ : MethodName) ∈ wl := in_wl (in_t4 (List.mem_of_getElem? (i := 80) rfl)) rfl
theorem wJ_S_27 : Cond.constantLong "KissClearing$Strip" (27 : Nat) (31 : Int64) ∈ wl := in_wl (in_t4 (List.mem_of_getElem? (i := 82) rfl)) rfl
theorem wK_L_10 : Cond.classLink "KissClearingLaw" 10 "KissClearingModel" ∈ wl := in_wl (in_t4 (List.mem_of_getElem? (i := 83) rfl)) rfl
theorem wE_M : Cond.instantiable "KissClearingModel" 31 ∈ wl := in_wl (in_t4 (List.mem_of_getElem? (i := 84) rfl)) rfl
theorem wL_L_12 : Cond.methodLink "KissClearingLaw" 12 (⟨"KissClearingModel", "<init>", "()V"⟩ : MethodName) ∈ wl := in_wl (in_t4 (List.mem_of_getElem? (i := 85) rfl)) rfl
theorem wI_M_init : Cond.instanceMethod (⟨"KissClearingModel", "<init>", "()V"⟩ : MethodName) ∈ wl := in_wl (in_t4 (List.mem_of_getElem? (i := 86) rfl)) rfl
theorem wL_M_1 : Cond.methodLink "KissClearingModel" 1 (⟨"java/lang/Object", "<init>", "()V"⟩ : MethodName) ∈ wl := in_wl (in_t4 (List.mem_of_getElem? (i := 88) rfl)) rfl
theorem wF_M_7 : Cond.fieldLink "KissClearingModel" 7 "KissClearingModel" "row" "[I" ∈ wl := in_wl (in_t4 (List.mem_of_getElem? (i := 89) rfl)) rfl
theorem wF_M_136 : Cond.fieldLink "KissClearingModel" 136 "KissClearingModel" "persons" "I" ∈ wl := in_wl (in_t4 (List.mem_of_getElem? (i := 90) rfl)) rfl
theorem wF_M_13 : Cond.fieldLink "KissClearingModel" 13 "KissClearingModel" "kinds" "[I" ∈ wl := in_wl (in_t4 (List.mem_of_getElem? (i := 91) rfl)) rfl
theorem wF_M_16 : Cond.fieldLink "KissClearingModel" 16 "KissClearingModel" "sizes" "[I" ∈ wl := in_wl (in_t4 (List.mem_of_getElem? (i := 92) rfl)) rfl
theorem wF_M_19 : Cond.fieldLink "KissClearingModel" 19 "KissClearingModel" "items" "[I" ∈ wl := in_wl (in_t4 (List.mem_of_getElem? (i := 93) rfl)) rfl
theorem wF_M_22 : Cond.fieldLink "KissClearingModel" 22 "KissClearingModel" "lengths" "[I" ∈ wl := in_wl (in_t4 (List.mem_of_getElem? (i := 94) rfl)) rfl
theorem wF_M_25 : Cond.fieldLink "KissClearingModel" 25 "KissClearingModel" "bytes" "[I" ∈ wl := in_wl (in_t4 (List.mem_of_getElem? (i := 95) rfl)) rfl
theorem wF_M_60 : Cond.fieldLink "KissClearingModel" 60 "KissClearingModel" "asked" "I" ∈ wl := in_wl (in_t4 (List.mem_of_getElem? (i := 96) rfl)) rfl
theorem wF_M_326 : Cond.fieldLink "KissClearingModel" 326 "KissClearingModel" "upper" "J" ∈ wl := in_wl (in_t4 (List.mem_of_getElem? (i := 97) rfl)) rfl
theorem wF_M_28 : Cond.fieldLink "KissClearingModel" 28 "KissClearingModel" "lower" "J" ∈ wl := in_wl (in_t4 (List.mem_of_getElem? (i := 98) rfl)) rfl
theorem wF_M_56 : Cond.fieldLink "KissClearingModel" 56 "KissClearingModel" "finding" "I" ∈ wl := in_wl (in_t4 (List.mem_of_getElem? (i := 99) rfl)) rfl
theorem wF_M_32 : Cond.fieldLink "KissClearingModel" 32 "KissClearingModel" "findings" "[I" ∈ wl := in_wl (in_t4 (List.mem_of_getElem? (i := 100) rfl)) rfl
theorem wF_M_97 : Cond.fieldLink "KissClearingModel" 97 "KissClearingModel" "from" "I" ∈ wl := in_wl (in_t4 (List.mem_of_getElem? (i := 101) rfl)) rfl
theorem wF_M_100 : Cond.fieldLink "KissClearingModel" 100 "KissClearingModel" "place" "I" ∈ wl := in_wl (in_t4 (List.mem_of_getElem? (i := 102) rfl)) rfl
theorem wF_M_103 : Cond.fieldLink "KissClearingModel" 103 "KissClearingModel" "end" "I" ∈ wl := in_wl (in_t4 (List.mem_of_getElem? (i := 103) rfl)) rfl
theorem wF_M_35 : Cond.fieldLink "KissClearingModel" 35 "KissClearingModel" "readKinds" "[I" ∈ wl := in_wl (in_t4 (List.mem_of_getElem? (i := 104) rfl)) rfl
theorem wF_M_113 : Cond.fieldLink "KissClearingModel" 113 "KissClearingModel" "readPersons" "I" ∈ wl := in_wl (in_t4 (List.mem_of_getElem? (i := 105) rfl)) rfl
theorem wF_M_38 : Cond.fieldLink "KissClearingModel" 38 "KissClearingModel" "readDrafts" "[I" ∈ wl := in_wl (in_t4 (List.mem_of_getElem? (i := 106) rfl)) rfl
theorem wF_M_116 : Cond.fieldLink "KissClearingModel" 116 "KissClearingModel" "readMany" "I" ∈ wl := in_wl (in_t4 (List.mem_of_getElem? (i := 107) rfl)) rfl
theorem wF_M_41 : Cond.fieldLink "KissClearingModel" 41 "KissClearingModel" "tried" "[I" ∈ wl := in_wl (in_t4 (List.mem_of_getElem? (i := 108) rfl)) rfl
theorem wF_M_44 : Cond.fieldLink "KissClearingModel" 44 "KissClearingModel" "chain" "[I" ∈ wl := in_wl (in_t4 (List.mem_of_getElem? (i := 109) rfl)) rfl
theorem wF_M_243 : Cond.fieldLink "KissClearingModel" 243 "KissClearingModel" "chainMany" "I" ∈ wl := in_wl (in_t4 (List.mem_of_getElem? (i := 110) rfl)) rfl
theorem wF_M_47 : Cond.fieldLink "KissClearingModel" 47 "KissClearingModel" "best" "[I" ∈ wl := in_wl (in_t4 (List.mem_of_getElem? (i := 111) rfl)) rfl
theorem wF_M_265 : Cond.fieldLink "KissClearingModel" 265 "KissClearingModel" "bestMany" "I" ∈ wl := in_wl (in_t4 (List.mem_of_getElem? (i := 112) rfl)) rfl
theorem wF_M_268 : Cond.fieldLink "KissClearingModel" 268 "KissClearingModel" "bestBy" "I" ∈ wl := in_wl (in_t4 (List.mem_of_getElem? (i := 113) rfl)) rfl
theorem wF_M_50 : Cond.fieldLink "KissClearingModel" 50 "KissClearingModel" "met" "[I" ∈ wl := in_wl (in_t4 (List.mem_of_getElem? (i := 114) rfl)) rfl
theorem wF_M_277 : Cond.fieldLink "KissClearingModel" 277 "KissClearingModel" "metMany" "I" ∈ wl := in_wl (in_t4 (List.mem_of_getElem? (i := 115) rfl)) rfl
theorem wF_M_53 : Cond.fieldLink "KissClearingModel" 53 "KissClearingModel" "round" "[I" ∈ wl := in_wl (in_t4 (List.mem_of_getElem? (i := 116) rfl)) rfl
theorem wF_M_305 : Cond.fieldLink "KissClearingModel" 305 "KissClearingModel" "blushesMany" "I" ∈ wl := in_wl (in_t4 (List.mem_of_getElem? (i := 117) rfl)) rfl
theorem wF_M_308 : Cond.fieldLink "KissClearingModel" 308 "KissClearingModel" "blushesFirst" "I" ∈ wl := in_wl (in_t4 (List.mem_of_getElem? (i := 118) rfl)) rfl
theorem wF_M_311 : Cond.fieldLink "KissClearingModel" 311 "KissClearingModel" "blushesSure" "I" ∈ wl := in_wl (in_t4 (List.mem_of_getElem? (i := 119) rfl)) rfl
theorem wL_L_17 : Cond.methodLink "KissClearingLaw" 17 (⟨"KissClearingModel", "row", "(II)I"⟩ : MethodName) ∈ wl := in_wl (in_t4 (List.mem_of_getElem? (i := 183) rfl)) rfl
theorem wI_M_row : Cond.instanceMethod (⟨"KissClearingModel", "row", "(II)I"⟩ : MethodName) ∈ wl := in_wl (in_t4 (List.mem_of_getElem? (i := 184) rfl)) rfl
theorem wS_M_row : Cond.selects "KissClearingModel" (⟨"KissClearingModel", "row", "(II)I"⟩ : MethodName) (⟨"KissClearingModel", "row", "(II)I"⟩ : MethodName) ∈ wl := in_wl (in_t4 (List.mem_of_getElem? (i := 185) rfl)) rfl
theorem wL_M_71 : Cond.methodLink "KissClearingModel" 71 (⟨"KissClearingModel", "isRow", "(I)Z"⟩ : MethodName) ∈ wl := in_wl (in_t4 (List.mem_of_getElem? (i := 187) rfl)) rfl
theorem wT_M_isRow : Cond.static (⟨"KissClearingModel", "isRow", "(I)Z"⟩ : MethodName) ∈ wl := in_wl (in_t4 (List.mem_of_getElem? (i := 188) rfl)) rfl
theorem wJ_M_63 : Cond.constantLong "KissClearingModel" (63 : Nat) (5 : Int64) ∈ wl := in_wl (in_t4 (List.mem_of_getElem? (i := 190) rfl)) rfl
theorem wL_M_65 : Cond.methodLink "KissClearingModel" 65 (⟨"KissClearingModel", "in", "(JJJ)Z"⟩ : MethodName) ∈ wl := in_wl (in_t4 (List.mem_of_getElem? (i := 191) rfl)) rfl
theorem wT_M_in : Cond.static (⟨"KissClearingModel", "in", "(JJJ)Z"⟩ : MethodName) ∈ wl := in_wl (in_t4 (List.mem_of_getElem? (i := 192) rfl)) rfl
theorem wL_M_75 : Cond.methodLink "KissClearingModel" 75 (⟨"KissClearingModel", "find", "(I)I"⟩ : MethodName) ∈ wl := in_wl (in_t4 (List.mem_of_getElem? (i := 194) rfl)) rfl
theorem wI_M_find : Cond.instanceMethod (⟨"KissClearingModel", "find", "(I)I"⟩ : MethodName) ∈ wl := in_wl (in_t4 (List.mem_of_getElem? (i := 196) rfl)) rfl
theorem wL_M_79 : Cond.methodLink "KissClearingModel" 79 (⟨"KissClearingModel", "makeRow", "(II)V"⟩ : MethodName) ∈ wl := in_wl (in_t4 (List.mem_of_getElem? (i := 198) rfl)) rfl
theorem wI_M_makeRow : Cond.instanceMethod (⟨"KissClearingModel", "makeRow", "(II)V"⟩ : MethodName) ∈ wl := in_wl (in_t4 (List.mem_of_getElem? (i := 200) rfl)) rfl
theorem wL_L_22 : Cond.methodLink "KissClearingLaw" 22 (⟨"KissClearingModel", "lay", "(III)I"⟩ : MethodName) ∈ wl := in_wl (in_t4 (List.mem_of_getElem? (i := 202) rfl)) rfl
theorem wI_M_lay : Cond.instanceMethod (⟨"KissClearingModel", "lay", "(III)I"⟩ : MethodName) ∈ wl := in_wl (in_t4 (List.mem_of_getElem? (i := 203) rfl)) rfl
theorem wS_M_lay : Cond.selects "KissClearingModel" (⟨"KissClearingModel", "lay", "(III)I"⟩ : MethodName) (⟨"KissClearingModel", "lay", "(III)I"⟩ : MethodName) ∈ wl := in_wl (in_t4 (List.mem_of_getElem? (i := 204) rfl)) rfl
theorem wL_M_83 : Cond.methodLink "KissClearingModel" 83 (⟨"KissClearingModel", "refused", "(II)I"⟩ : MethodName) ∈ wl := in_wl (in_t4 (List.mem_of_getElem? (i := 206) rfl)) rfl
theorem wI_M_refused : Cond.instanceMethod (⟨"KissClearingModel", "refused", "(II)I"⟩ : MethodName) ∈ wl := in_wl (in_t4 (List.mem_of_getElem? (i := 208) rfl)) rfl
theorem wL_M_87 : Cond.methodLink "KissClearingModel" 87 (⟨"KissClearingModel", "tell", "(I)I"⟩ : MethodName) ∈ wl := in_wl (in_t4 (List.mem_of_getElem? (i := 210) rfl)) rfl
theorem wI_M_tell : Cond.instanceMethod (⟨"KissClearingModel", "tell", "(I)I"⟩ : MethodName) ∈ wl := in_wl (in_t4 (List.mem_of_getElem? (i := 212) rfl)) rfl
theorem wL_L_26 : Cond.methodLink "KissClearingLaw" 26 (⟨"KissClearingModel", "at", "(II)I"⟩ : MethodName) ∈ wl := in_wl (in_t4 (List.mem_of_getElem? (i := 214) rfl)) rfl
theorem wI_M_at : Cond.instanceMethod (⟨"KissClearingModel", "at", "(II)I"⟩ : MethodName) ∈ wl := in_wl (in_t4 (List.mem_of_getElem? (i := 215) rfl)) rfl
theorem wS_M_at : Cond.selects "KissClearingModel" (⟨"KissClearingModel", "at", "(II)I"⟩ : MethodName) (⟨"KissClearingModel", "at", "(II)I"⟩ : MethodName) ∈ wl := in_wl (in_t4 (List.mem_of_getElem? (i := 216) rfl)) rfl
theorem wL_L_31 : Cond.methodLink "KissClearingLaw" 31 (⟨"KissClearingModel", "tear", "(I)I"⟩ : MethodName) ∈ wl := in_wl (in_t4 (List.mem_of_getElem? (i := 218) rfl)) rfl
theorem wI_M_tear : Cond.instanceMethod (⟨"KissClearingModel", "tear", "(I)I"⟩ : MethodName) ∈ wl := in_wl (in_t4 (List.mem_of_getElem? (i := 219) rfl)) rfl
theorem wS_M_tear : Cond.selects "KissClearingModel" (⟨"KissClearingModel", "tear", "(I)I"⟩ : MethodName) (⟨"KissClearingModel", "tear", "(I)I"⟩ : MethodName) ∈ wl := in_wl (in_t4 (List.mem_of_getElem? (i := 220) rfl)) rfl
theorem wL_L_36 : Cond.methodLink "KissClearingLaw" 36 (⟨"KissClearingModel", "copy", "(IIIII)I"⟩ : MethodName) ∈ wl := in_wl (in_t4 (List.mem_of_getElem? (i := 222) rfl)) rfl
theorem wI_M_copy : Cond.instanceMethod (⟨"KissClearingModel", "copy", "(IIIII)I"⟩ : MethodName) ∈ wl := in_wl (in_t4 (List.mem_of_getElem? (i := 223) rfl)) rfl
theorem wS_M_copy : Cond.selects "KissClearingModel" (⟨"KissClearingModel", "copy", "(IIIII)I"⟩ : MethodName) (⟨"KissClearingModel", "copy", "(IIIII)I"⟩ : MethodName) ∈ wl := in_wl (in_t4 (List.mem_of_getElem? (i := 224) rfl)) rfl
theorem wL_M_90 : Cond.methodLink "KissClearingModel" 90 (⟨"KissClearingModel", "isSpan", "(III)Z"⟩ : MethodName) ∈ wl := in_wl (in_t4 (List.mem_of_getElem? (i := 226) rfl)) rfl
theorem wI_M_isSpan : Cond.instanceMethod (⟨"KissClearingModel", "isSpan", "(III)Z"⟩ : MethodName) ∈ wl := in_wl (in_t4 (List.mem_of_getElem? (i := 228) rfl)) rfl
theorem wL_L_40 : Cond.methodLink "KissClearingLaw" 40 (⟨"KissClearingModel", "mean", "(I)I"⟩ : MethodName) ∈ wl := in_wl (in_t4 (List.mem_of_getElem? (i := 230) rfl)) rfl
theorem wI_M_mean : Cond.instanceMethod (⟨"KissClearingModel", "mean", "(I)I"⟩ : MethodName) ∈ wl := in_wl (in_t4 (List.mem_of_getElem? (i := 231) rfl)) rfl
theorem wS_M_mean : Cond.selects "KissClearingModel" (⟨"KissClearingModel", "mean", "(I)I"⟩ : MethodName) (⟨"KissClearingModel", "mean", "(I)I"⟩ : MethodName) ∈ wl := in_wl (in_t4 (List.mem_of_getElem? (i := 232) rfl)) rfl
theorem wL_L_44 : Cond.methodLink "KissClearingLaw" 44 (⟨"KissClearingModel", "text", "(II)I"⟩ : MethodName) ∈ wl := in_wl (in_t4 (List.mem_of_getElem? (i := 234) rfl)) rfl
theorem wI_M_text : Cond.instanceMethod (⟨"KissClearingModel", "text", "(II)I"⟩ : MethodName) ∈ wl := in_wl (in_t4 (List.mem_of_getElem? (i := 235) rfl)) rfl
theorem wS_M_text : Cond.selects "KissClearingModel" (⟨"KissClearingModel", "text", "(II)I"⟩ : MethodName) (⟨"KissClearingModel", "text", "(II)I"⟩ : MethodName) ∈ wl := in_wl (in_t4 (List.mem_of_getElem? (i := 236) rfl)) rfl
theorem wL_M_94 : Cond.methodLink "KissClearingModel" 94 (⟨"KissClearingModel", "isText", "(I)Z"⟩ : MethodName) ∈ wl := in_wl (in_t4 (List.mem_of_getElem? (i := 238) rfl)) rfl
theorem wT_M_isText : Cond.static (⟨"KissClearingModel", "isText", "(I)Z"⟩ : MethodName) ∈ wl := in_wl (in_t4 (List.mem_of_getElem? (i := 239) rfl)) rfl
theorem wJ_M_69 : Cond.constantLong "KissClearingModel" (69 : Nat) (3 : Int64) ∈ wl := in_wl (in_t5 (List.mem_of_getElem? (i := 1) rfl)) rfl
theorem wL_L_48 : Cond.methodLink "KissClearingLaw" 48 (⟨"KissClearingModel", "put", "(III)I"⟩ : MethodName) ∈ wl := in_wl (in_t5 (List.mem_of_getElem? (i := 2) rfl)) rfl
theorem wI_M_put : Cond.instanceMethod (⟨"KissClearingModel", "put", "(III)I"⟩ : MethodName) ∈ wl := in_wl (in_t5 (List.mem_of_getElem? (i := 3) rfl)) rfl
theorem wS_M_put : Cond.selects "KissClearingModel" (⟨"KissClearingModel", "put", "(III)I"⟩ : MethodName) (⟨"KissClearingModel", "put", "(III)I"⟩ : MethodName) ∈ wl := in_wl (in_t5 (List.mem_of_getElem? (i := 4) rfl)) rfl
theorem wL_L_52 : Cond.methodLink "KissClearingLaw" 52 (⟨"KissClearingModel", "fault", "(I)I"⟩ : MethodName) ∈ wl := in_wl (in_t5 (List.mem_of_getElem? (i := 6) rfl)) rfl
theorem wI_M_fault : Cond.instanceMethod (⟨"KissClearingModel", "fault", "(I)I"⟩ : MethodName) ∈ wl := in_wl (in_t5 (List.mem_of_getElem? (i := 7) rfl)) rfl
theorem wS_M_fault : Cond.selects "KissClearingModel" (⟨"KissClearingModel", "fault", "(I)I"⟩ : MethodName) (⟨"KissClearingModel", "fault", "(I)I"⟩ : MethodName) ∈ wl := in_wl (in_t5 (List.mem_of_getElem? (i := 8) rfl)) rfl
theorem wL_M_133 : Cond.methodLink "KissClearingModel" 133 (⟨"KissClearingModel", "faultOf", "(I)I"⟩ : MethodName) ∈ wl := in_wl (in_t5 (List.mem_of_getElem? (i := 10) rfl)) rfl
theorem wI_M_faultOf : Cond.instanceMethod (⟨"KissClearingModel", "faultOf", "(I)I"⟩ : MethodName) ∈ wl := in_wl (in_t5 (List.mem_of_getElem? (i := 12) rfl)) rfl
theorem wL_M_123 : Cond.methodLink "KissClearingModel" 123 (⟨"KissClearingModel", "skip", "()V"⟩ : MethodName) ∈ wl := in_wl (in_t5 (List.mem_of_getElem? (i := 14) rfl)) rfl
theorem wI_M_skip : Cond.instanceMethod (⟨"KissClearingModel", "skip", "()V"⟩ : MethodName) ∈ wl := in_wl (in_t5 (List.mem_of_getElem? (i := 16) rfl)) rfl
theorem wL_M_106 : Cond.methodLink "KissClearingModel" 106 (⟨"KissClearingModel", "here", "()I"⟩ : MethodName) ∈ wl := in_wl (in_t5 (List.mem_of_getElem? (i := 18) rfl)) rfl
theorem wI_M_here : Cond.instanceMethod (⟨"KissClearingModel", "here", "()I"⟩ : MethodName) ∈ wl := in_wl (in_t5 (List.mem_of_getElem? (i := 20) rfl)) rfl
theorem wL_M_126 : Cond.methodLink "KissClearingModel" 126 (⟨"KissClearingModel", "readsDraft", "()Z"⟩ : MethodName) ∈ wl := in_wl (in_t5 (List.mem_of_getElem? (i := 22) rfl)) rfl
theorem wI_M_readsDraft : Cond.instanceMethod (⟨"KissClearingModel", "readsDraft", "()Z"⟩ : MethodName) ∈ wl := in_wl (in_t5 (List.mem_of_getElem? (i := 24) rfl)) rfl
theorem wL_M_119 : Cond.methodLink "KissClearingModel" 119 (⟨"KissClearingModel", "figure", "(III)I"⟩ : MethodName) ∈ wl := in_wl (in_t5 (List.mem_of_getElem? (i := 26) rfl)) rfl
theorem wI_M_figure : Cond.instanceMethod (⟨"KissClearingModel", "figure", "(III)I"⟩ : MethodName) ∈ wl := in_wl (in_t5 (List.mem_of_getElem? (i := 28) rfl)) rfl
theorem wL_M_130 : Cond.methodLink "KissClearingModel" 130 (⟨"KissClearingModel", "readsPerson", "()Z"⟩ : MethodName) ∈ wl := in_wl (in_t5 (List.mem_of_getElem? (i := 30) rfl)) rfl
theorem wI_M_readsPerson : Cond.instanceMethod (⟨"KissClearingModel", "readsPerson", "()Z"⟩ : MethodName) ∈ wl := in_wl (in_t5 (List.mem_of_getElem? (i := 32) rfl)) rfl
theorem wL_M_110 : Cond.methodLink "KissClearingModel" 110 (⟨"KissClearingModel", "kindOfLetter", "(I)I"⟩ : MethodName) ∈ wl := in_wl (in_t5 (List.mem_of_getElem? (i := 34) rfl)) rfl
theorem wT_M_kindOfLetter : Cond.static (⟨"KissClearingModel", "kindOfLetter", "(I)I"⟩ : MethodName) ∈ wl := in_wl (in_t5 (List.mem_of_getElem? (i := 35) rfl)) rfl
theorem wL_L_56 : Cond.methodLink "KissClearingLaw" 56 (⟨"KissClearingModel", "village", "(I)I"⟩ : MethodName) ∈ wl := in_wl (in_t5 (List.mem_of_getElem? (i := 37) rfl)) rfl
theorem wI_M_village : Cond.instanceMethod (⟨"KissClearingModel", "village", "(I)I"⟩ : MethodName) ∈ wl := in_wl (in_t5 (List.mem_of_getElem? (i := 38) rfl)) rfl
theorem wS_M_village : Cond.selects "KissClearingModel" (⟨"KissClearingModel", "village", "(I)I"⟩ : MethodName) (⟨"KissClearingModel", "village", "(I)I"⟩ : MethodName) ∈ wl := in_wl (in_t5 (List.mem_of_getElem? (i := 39) rfl)) rfl
theorem wL_M_139 : Cond.methodLink "KissClearingModel" 139 (⟨"KissClearingModel", "addDraft", "(IIII)V"⟩ : MethodName) ∈ wl := in_wl (in_t5 (List.mem_of_getElem? (i := 41) rfl)) rfl
theorem wI_M_addDraft : Cond.instanceMethod (⟨"KissClearingModel", "addDraft", "(IIII)V"⟩ : MethodName) ∈ wl := in_wl (in_t5 (List.mem_of_getElem? (i := 43) rfl)) rfl
theorem wL_L_60 : Cond.methodLink "KissClearingLaw" 60 (⟨"KissClearingModel", "person", "(II)I"⟩ : MethodName) ∈ wl := in_wl (in_t5 (List.mem_of_getElem? (i := 45) rfl)) rfl
theorem wI_M_person : Cond.instanceMethod (⟨"KissClearingModel", "person", "(II)I"⟩ : MethodName) ∈ wl := in_wl (in_t5 (List.mem_of_getElem? (i := 46) rfl)) rfl
theorem wS_M_person : Cond.selects "KissClearingModel" (⟨"KissClearingModel", "person", "(II)I"⟩ : MethodName) (⟨"KissClearingModel", "person", "(II)I"⟩ : MethodName) ∈ wl := in_wl (in_t5 (List.mem_of_getElem? (i := 47) rfl)) rfl
theorem wL_M_143 : Cond.methodLink "KissClearingModel" 143 (⟨"KissClearingModel", "isPerson", "(I)Z"⟩ : MethodName) ∈ wl := in_wl (in_t5 (List.mem_of_getElem? (i := 49) rfl)) rfl
theorem wI_M_isPerson : Cond.instanceMethod (⟨"KissClearingModel", "isPerson", "(I)Z"⟩ : MethodName) ∈ wl := in_wl (in_t5 (List.mem_of_getElem? (i := 51) rfl)) rfl
theorem wJ_M_174 : Cond.constantLong "KissClearingModel" (174 : Nat) (4 : Int64) ∈ wl := in_wl (in_t5 (List.mem_of_getElem? (i := 53) rfl)) rfl
theorem wL_M_176 : Cond.methodLink "KissClearingModel" 176 (⟨"KissClearingModel", "toldOf", "(II)I"⟩ : MethodName) ∈ wl := in_wl (in_t5 (List.mem_of_getElem? (i := 54) rfl)) rfl
theorem wI_M_toldOf : Cond.instanceMethod (⟨"KissClearingModel", "toldOf", "(II)I"⟩ : MethodName) ∈ wl := in_wl (in_t5 (List.mem_of_getElem? (i := 56) rfl)) rfl
theorem wL_M_162 : Cond.methodLink "KissClearingModel" 162 (⟨"KissClearingModel", "owing", "(I)I"⟩ : MethodName) ∈ wl := in_wl (in_t5 (List.mem_of_getElem? (i := 58) rfl)) rfl
theorem wI_M_owing : Cond.instanceMethod (⟨"KissClearingModel", "owing", "(I)I"⟩ : MethodName) ∈ wl := in_wl (in_t5 (List.mem_of_getElem? (i := 60) rfl)) rfl
theorem wL_M_146 : Cond.methodLink "KissClearingModel" 146 (⟨"KissClearingModel", "of", "(II)I"⟩ : MethodName) ∈ wl := in_wl (in_t5 (List.mem_of_getElem? (i := 62) rfl)) rfl
theorem wI_M_of : Cond.instanceMethod (⟨"KissClearingModel", "of", "(II)I"⟩ : MethodName) ∈ wl := in_wl (in_t5 (List.mem_of_getElem? (i := 64) rfl)) rfl
theorem wL_M_149 : Cond.methodLink "KissClearingModel" 149 (⟨"KissClearingModel", "worth", "(I)I"⟩ : MethodName) ∈ wl := in_wl (in_t5 (List.mem_of_getElem? (i := 66) rfl)) rfl
theorem wI_M_worth : Cond.instanceMethod (⟨"KissClearingModel", "worth", "(I)I"⟩ : MethodName) ∈ wl := in_wl (in_t5 (List.mem_of_getElem? (i := 68) rfl)) rfl
theorem wL_M_165 : Cond.methodLink "KissClearingModel" 165 (⟨"KissClearingModel", "owed", "(II)I"⟩ : MethodName) ∈ wl := in_wl (in_t5 (List.mem_of_getElem? (i := 70) rfl)) rfl
theorem wI_M_owed : Cond.instanceMethod (⟨"KissClearingModel", "owed", "(II)I"⟩ : MethodName) ∈ wl := in_wl (in_t5 (List.mem_of_getElem? (i := 72) rfl)) rfl
theorem wL_M_152 : Cond.methodLink "KissClearingModel" 152 (⟨"KissClearingModel", "has", "(II)Z"⟩ : MethodName) ∈ wl := in_wl (in_t5 (List.mem_of_getElem? (i := 74) rfl)) rfl
theorem wT_M_has : Cond.static (⟨"KissClearingModel", "has", "(II)Z"⟩ : MethodName) ∈ wl := in_wl (in_t5 (List.mem_of_getElem? (i := 75) rfl)) rfl
theorem wL_M_168 : Cond.methodLink "KissClearingModel" 168 (⟨"KissClearingModel", "reserve", "(I)I"⟩ : MethodName) ∈ wl := in_wl (in_t5 (List.mem_of_getElem? (i := 77) rfl)) rfl
theorem wI_M_reserve : Cond.instanceMethod (⟨"KissClearingModel", "reserve", "(I)I"⟩ : MethodName) ∈ wl := in_wl (in_t5 (List.mem_of_getElem? (i := 79) rfl)) rfl
theorem wL_M_171 : Cond.methodLink "KissClearingModel" 171 (⟨"KissClearingModel", "owesTo", "(I)I"⟩ : MethodName) ∈ wl := in_wl (in_t5 (List.mem_of_getElem? (i := 81) rfl)) rfl
theorem wI_M_owesTo : Cond.instanceMethod (⟨"KissClearingModel", "owesTo", "(I)I"⟩ : MethodName) ∈ wl := in_wl (in_t5 (List.mem_of_getElem? (i := 83) rfl)) rfl
theorem wL_M_156 : Cond.methodLink "KissClearingModel" 156 (⟨"KissClearingModel", "isOpen", "(I)Z"⟩ : MethodName) ∈ wl := in_wl (in_t5 (List.mem_of_getElem? (i := 85) rfl)) rfl
theorem wI_M_isOpen : Cond.instanceMethod (⟨"KissClearingModel", "isOpen", "(I)Z"⟩ : MethodName) ∈ wl := in_wl (in_t5 (List.mem_of_getElem? (i := 87) rfl)) rfl
theorem wL_M_159 : Cond.methodLink "KissClearingModel" 159 (⟨"KissClearingModel", "bits", "(I)I"⟩ : MethodName) ∈ wl := in_wl (in_t5 (List.mem_of_getElem? (i := 89) rfl)) rfl
theorem wT_M_bits : Cond.static (⟨"KissClearingModel", "bits", "(I)I"⟩ : MethodName) ∈ wl := in_wl (in_t5 (List.mem_of_getElem? (i := 90) rfl)) rfl
theorem wL_L_64 : Cond.methodLink "KissClearingLaw" 64 (⟨"KissClearingModel", "draft", "(II)I"⟩ : MethodName) ∈ wl := in_wl (in_t5 (List.mem_of_getElem? (i := 92) rfl)) rfl
theorem wI_M_draft : Cond.instanceMethod (⟨"KissClearingModel", "draft", "(II)I"⟩ : MethodName) ∈ wl := in_wl (in_t5 (List.mem_of_getElem? (i := 93) rfl)) rfl
theorem wS_M_draft : Cond.selects "KissClearingModel" (⟨"KissClearingModel", "draft", "(II)I"⟩ : MethodName) (⟨"KissClearingModel", "draft", "(II)I"⟩ : MethodName) ∈ wl := in_wl (in_t5 (List.mem_of_getElem? (i := 94) rfl)) rfl
theorem wL_M_179 : Cond.methodLink "KissClearingModel" 179 (⟨"KissClearingModel", "isDraft", "(I)Z"⟩ : MethodName) ∈ wl := in_wl (in_t5 (List.mem_of_getElem? (i := 96) rfl)) rfl
theorem wI_M_isDraft : Cond.instanceMethod (⟨"KissClearingModel", "isDraft", "(I)Z"⟩ : MethodName) ∈ wl := in_wl (in_t5 (List.mem_of_getElem? (i := 98) rfl)) rfl
theorem wL_L_68 : Cond.methodLink "KissClearingLaw" 68 (⟨"KissClearingModel", "mark", "(II)I"⟩ : MethodName) ∈ wl := in_wl (in_t5 (List.mem_of_getElem? (i := 100) rfl)) rfl
theorem wI_M_mark : Cond.instanceMethod (⟨"KissClearingModel", "mark", "(II)I"⟩ : MethodName) ∈ wl := in_wl (in_t5 (List.mem_of_getElem? (i := 101) rfl)) rfl
theorem wS_M_mark : Cond.selects "KissClearingModel" (⟨"KissClearingModel", "mark", "(II)I"⟩ : MethodName) (⟨"KissClearingModel", "mark", "(II)I"⟩ : MethodName) ∈ wl := in_wl (in_t5 (List.mem_of_getElem? (i := 102) rfl)) rfl
theorem wL_M_182 : Cond.methodLink "KissClearingModel" 182 (⟨"KissClearingModel", "isOf", "(II)Z"⟩ : MethodName) ∈ wl := in_wl (in_t5 (List.mem_of_getElem? (i := 104) rfl)) rfl
theorem wI_M_isOf : Cond.instanceMethod (⟨"KissClearingModel", "isOf", "(II)Z"⟩ : MethodName) ∈ wl := in_wl (in_t5 (List.mem_of_getElem? (i := 106) rfl)) rfl
theorem wL_M_185 : Cond.methodLink "KissClearingModel" 185 (⟨"KissClearingModel", "openTo", "(I)I"⟩ : MethodName) ∈ wl := in_wl (in_t5 (List.mem_of_getElem? (i := 108) rfl)) rfl
theorem wI_M_openTo : Cond.instanceMethod (⟨"KissClearingModel", "openTo", "(I)I"⟩ : MethodName) ∈ wl := in_wl (in_t5 (List.mem_of_getElem? (i := 110) rfl)) rfl
theorem wL_M_188 : Cond.methodLink "KissClearingModel" 188 (⟨"KissClearingModel", "growth", "(I)I"⟩ : MethodName) ∈ wl := in_wl (in_t5 (List.mem_of_getElem? (i := 112) rfl)) rfl
theorem wI_M_growth : Cond.instanceMethod (⟨"KissClearingModel", "growth", "(I)I"⟩ : MethodName) ∈ wl := in_wl (in_t5 (List.mem_of_getElem? (i := 114) rfl)) rfl
theorem wL_M_191 : Cond.methodLink "KissClearingModel" 191 (⟨"KissClearingModel", "openOn", "(I)I"⟩ : MethodName) ∈ wl := in_wl (in_t5 (List.mem_of_getElem? (i := 116) rfl)) rfl
theorem wI_M_openOn : Cond.instanceMethod (⟨"KissClearingModel", "openOn", "(I)I"⟩ : MethodName) ∈ wl := in_wl (in_t5 (List.mem_of_getElem? (i := 118) rfl)) rfl
theorem wL_M_194 : Cond.methodLink "KissClearingModel" 194 (⟨"KissClearingModel", "souring", "(I)I"⟩ : MethodName) ∈ wl := in_wl (in_t5 (List.mem_of_getElem? (i := 120) rfl)) rfl
theorem wI_M_souring : Cond.instanceMethod (⟨"KissClearingModel", "souring", "(I)I"⟩ : MethodName) ∈ wl := in_wl (in_t5 (List.mem_of_getElem? (i := 122) rfl)) rfl
theorem wL_M_197 : Cond.methodLink "KissClearingModel" 197 (⟨"KissClearingModel", "ringsOf", "(II)I"⟩ : MethodName) ∈ wl := in_wl (in_t5 (List.mem_of_getElem? (i := 124) rfl)) rfl
theorem wI_M_ringsOf : Cond.instanceMethod (⟨"KissClearingModel", "ringsOf", "(II)I"⟩ : MethodName) ∈ wl := in_wl (in_t5 (List.mem_of_getElem? (i := 126) rfl)) rfl
theorem wL_M_255 : Cond.methodLink "KissClearingModel" 255 (⟨"KissClearingModel", "beginRings", "(I)V"⟩ : MethodName) ∈ wl := in_wl (in_t5 (List.mem_of_getElem? (i := 128) rfl)) rfl
theorem wI_M_beginRings : Cond.instanceMethod (⟨"KissClearingModel", "beginRings", "(I)V"⟩ : MethodName) ∈ wl := in_wl (in_t5 (List.mem_of_getElem? (i := 130) rfl)) rfl
theorem wL_M_259 : Cond.methodLink "KissClearingModel" 259 (⟨"KissClearingModel", "nextRing", "()Z"⟩ : MethodName) ∈ wl := in_wl (in_t5 (List.mem_of_getElem? (i := 132) rfl)) rfl
theorem wI_M_nextRing : Cond.instanceMethod (⟨"KissClearingModel", "nextRing", "()Z"⟩ : MethodName) ∈ wl := in_wl (in_t5 (List.mem_of_getElem? (i := 134) rfl)) rfl
theorem wL_M_249 : Cond.methodLink "KissClearingModel" 249 (⟨"KissClearingModel", "following", "(I)I"⟩ : MethodName) ∈ wl := in_wl (in_t5 (List.mem_of_getElem? (i := 136) rfl)) rfl
theorem wI_M_following : Cond.instanceMethod (⟨"KissClearingModel", "following", "(I)I"⟩ : MethodName) ∈ wl := in_wl (in_t5 (List.mem_of_getElem? (i := 138) rfl)) rfl
theorem wL_M_246 : Cond.methodLink "KissClearingModel" 246 (⟨"KissClearingModel", "follows", "(I)Z"⟩ : MethodName) ∈ wl := in_wl (in_t5 (List.mem_of_getElem? (i := 140) rfl)) rfl
theorem wI_M_follows : Cond.instanceMethod (⟨"KissClearingModel", "follows", "(I)Z"⟩ : MethodName) ∈ wl := in_wl (in_t5 (List.mem_of_getElem? (i := 142) rfl)) rfl
theorem wL_M_252 : Cond.methodLink "KissClearingModel" 252 (⟨"KissClearingModel", "closes", "()Z"⟩ : MethodName) ∈ wl := in_wl (in_t5 (List.mem_of_getElem? (i := 144) rfl)) rfl
theorem wI_M_closes : Cond.instanceMethod (⟨"KissClearingModel", "closes", "()Z"⟩ : MethodName) ∈ wl := in_wl (in_t5 (List.mem_of_getElem? (i := 146) rfl)) rfl
theorem wL_L_72 : Cond.methodLink "KissClearingLaw" 72 (⟨"KissClearingModel", "owe", "(II)I"⟩ : MethodName) ∈ wl := in_wl (in_t5 (List.mem_of_getElem? (i := 148) rfl)) rfl
theorem wI_M_owe : Cond.instanceMethod (⟨"KissClearingModel", "owe", "(II)I"⟩ : MethodName) ∈ wl := in_wl (in_t5 (List.mem_of_getElem? (i := 149) rfl)) rfl
theorem wS_M_owe : Cond.selects "KissClearingModel" (⟨"KissClearingModel", "owe", "(II)I"⟩ : MethodName) (⟨"KissClearingModel", "owe", "(II)I"⟩ : MethodName) ∈ wl := in_wl (in_t5 (List.mem_of_getElem? (i := 150) rfl)) rfl
theorem wL_M_200 : Cond.methodLink "KissClearingModel" 200 (⟨"KissClearingModel", "areTwo", "(II)Z"⟩ : MethodName) ∈ wl := in_wl (in_t5 (List.mem_of_getElem? (i := 152) rfl)) rfl
theorem wI_M_areTwo : Cond.instanceMethod (⟨"KissClearingModel", "areTwo", "(II)Z"⟩ : MethodName) ∈ wl := in_wl (in_t5 (List.mem_of_getElem? (i := 154) rfl)) rfl
theorem wJ_M_203 : Cond.constantLong "KissClearingModel" (203 : Nat) (2 : Int64) ∈ wl := in_wl (in_t5 (List.mem_of_getElem? (i := 156) rfl)) rfl
theorem wJ_M_205 : Cond.constantLong "KissClearingModel" (205 : Nat) (9 : Int64) ∈ wl := in_wl (in_t5 (List.mem_of_getElem? (i := 157) rfl)) rfl
theorem wL_M_207 : Cond.methodLink "KissClearingModel" 207 (⟨"KissClearingModel", "isFull", "()Z"⟩ : MethodName) ∈ wl := in_wl (in_t5 (List.mem_of_getElem? (i := 158) rfl)) rfl
theorem wI_M_isFull : Cond.instanceMethod (⟨"KissClearingModel", "isFull", "()Z"⟩ : MethodName) ∈ wl := in_wl (in_t5 (List.mem_of_getElem? (i := 160) rfl)) rfl
theorem wL_M_210 : Cond.methodLink "KissClearingModel" 210 (⟨"KissClearingModel", "keepPast", "()V"⟩ : MethodName) ∈ wl := in_wl (in_t5 (List.mem_of_getElem? (i := 162) rfl)) rfl
theorem wI_M_keepPast : Cond.instanceMethod (⟨"KissClearingModel", "keepPast", "()V"⟩ : MethodName) ∈ wl := in_wl (in_t5 (List.mem_of_getElem? (i := 164) rfl)) rfl
theorem wL_L_76 : Cond.methodLink "KissClearingLaw" 76 (⟨"KissClearingModel", "meet", "(II)I"⟩ : MethodName) ∈ wl := in_wl (in_t5 (List.mem_of_getElem? (i := 166) rfl)) rfl
theorem wI_M_meet : Cond.instanceMethod (⟨"KissClearingModel", "meet", "(II)I"⟩ : MethodName) ∈ wl := in_wl (in_t5 (List.mem_of_getElem? (i := 167) rfl)) rfl
theorem wS_M_meet : Cond.selects "KissClearingModel" (⟨"KissClearingModel", "meet", "(II)I"⟩ : MethodName) (⟨"KissClearingModel", "meet", "(II)I"⟩ : MethodName) ∈ wl := in_wl (in_t5 (List.mem_of_getElem? (i := 168) rfl)) rfl
theorem wL_M_222 : Cond.methodLink "KissClearingModel" 222 (⟨"KissClearingModel", "netted", "(III)I"⟩ : MethodName) ∈ wl := in_wl (in_t5 (List.mem_of_getElem? (i := 170) rfl)) rfl
theorem wI_M_netted : Cond.instanceMethod (⟨"KissClearingModel", "netted", "(III)I"⟩ : MethodName) ∈ wl := in_wl (in_t5 (List.mem_of_getElem? (i := 172) rfl)) rfl
theorem wL_M_216 : Cond.methodLink "KissClearingModel" 216 (⟨"KissClearingModel", "sumOf", "(III)I"⟩ : MethodName) ∈ wl := in_wl (in_t5 (List.mem_of_getElem? (i := 174) rfl)) rfl
theorem wI_M_sumOf : Cond.instanceMethod (⟨"KissClearingModel", "sumOf", "(III)I"⟩ : MethodName) ∈ wl := in_wl (in_t5 (List.mem_of_getElem? (i := 176) rfl)) rfl
theorem wL_M_213 : Cond.methodLink "KissClearingModel" 213 (⟨"KissClearingModel", "isOn", "(III)Z"⟩ : MethodName) ∈ wl := in_wl (in_t5 (List.mem_of_getElem? (i := 178) rfl)) rfl
theorem wI_M_isOn : Cond.instanceMethod (⟨"KissClearingModel", "isOn", "(III)Z"⟩ : MethodName) ∈ wl := in_wl (in_t5 (List.mem_of_getElem? (i := 180) rfl)) rfl
theorem wL_M_231 : Cond.methodLink "KissClearingModel" 231 (⟨"KissClearingModel", "doMeet", "(II)I"⟩ : MethodName) ∈ wl := in_wl (in_t5 (List.mem_of_getElem? (i := 182) rfl)) rfl
theorem wI_M_doMeet : Cond.instanceMethod (⟨"KissClearingModel", "doMeet", "(II)I"⟩ : MethodName) ∈ wl := in_wl (in_t5 (List.mem_of_getElem? (i := 184) rfl)) rfl
theorem wL_M_225 : Cond.methodLink "KissClearingModel" 225 (⟨"KissClearingModel", "given", "(II)I"⟩ : MethodName) ∈ wl := in_wl (in_t5 (List.mem_of_getElem? (i := 186) rfl)) rfl
theorem wI_M_given : Cond.instanceMethod (⟨"KissClearingModel", "given", "(II)I"⟩ : MethodName) ∈ wl := in_wl (in_t5 (List.mem_of_getElem? (i := 188) rfl)) rfl
theorem wL_M_228 : Cond.methodLink "KissClearingModel" 228 (⟨"KissClearingModel", "lessen", "(IIII)V"⟩ : MethodName) ∈ wl := in_wl (in_t5 (List.mem_of_getElem? (i := 190) rfl)) rfl
theorem wI_M_lessen : Cond.instanceMethod (⟨"KissClearingModel", "lessen", "(IIII)V"⟩ : MethodName) ∈ wl := in_wl (in_t5 (List.mem_of_getElem? (i := 192) rfl)) rfl
theorem wL_M_219 : Cond.methodLink "KissClearingModel" 219 (⟨"KissClearingModel", "leave", "(II)V"⟩ : MethodName) ∈ wl := in_wl (in_t5 (List.mem_of_getElem? (i := 194) rfl)) rfl
theorem wI_M_leave : Cond.instanceMethod (⟨"KissClearingModel", "leave", "(II)V"⟩ : MethodName) ∈ wl := in_wl (in_t5 (List.mem_of_getElem? (i := 196) rfl)) rfl
theorem wL_L_80 : Cond.methodLink "KissClearingLaw" 80 (⟨"KissClearingModel", "clear", "(I)I"⟩ : MethodName) ∈ wl := in_wl (in_t5 (List.mem_of_getElem? (i := 198) rfl)) rfl
theorem wI_M_clear : Cond.instanceMethod (⟨"KissClearingModel", "clear", "(I)I"⟩ : MethodName) ∈ wl := in_wl (in_t5 (List.mem_of_getElem? (i := 199) rfl)) rfl
theorem wS_M_clear : Cond.selects "KissClearingModel" (⟨"KissClearingModel", "clear", "(I)I"⟩ : MethodName) (⟨"KissClearingModel", "clear", "(I)I"⟩ : MethodName) ∈ wl := in_wl (in_t5 (List.mem_of_getElem? (i := 200) rfl)) rfl
theorem wL_M_234 : Cond.methodLink "KissClearingModel" 234 (⟨"KissClearingModel", "areDrafts", "(I)Z"⟩ : MethodName) ∈ wl := in_wl (in_t5 (List.mem_of_getElem? (i := 202) rfl)) rfl
theorem wI_M_areDrafts : Cond.instanceMethod (⟨"KissClearingModel", "areDrafts", "(I)Z"⟩ : MethodName) ∈ wl := in_wl (in_t5 (List.mem_of_getElem? (i := 204) rfl)) rfl
theorem wL_M_237 : Cond.methodLink "KissClearingModel" 237 (⟨"KissClearingModel", "isRing", "(I)Z"⟩ : MethodName) ∈ wl := in_wl (in_t5 (List.mem_of_getElem? (i := 206) rfl)) rfl
theorem wI_M_isRing : Cond.instanceMethod (⟨"KissClearingModel", "isRing", "(I)Z"⟩ : MethodName) ∈ wl := in_wl (in_t5 (List.mem_of_getElem? (i := 208) rfl)) rfl
theorem wL_L_84 : Cond.methodLink "KissClearingLaw" 84 (⟨"KissClearingModel", "endorse", "(II)I"⟩ : MethodName) ∈ wl := in_wl (in_t5 (List.mem_of_getElem? (i := 210) rfl)) rfl
theorem wI_M_endorse : Cond.instanceMethod (⟨"KissClearingModel", "endorse", "(II)I"⟩ : MethodName) ∈ wl := in_wl (in_t5 (List.mem_of_getElem? (i := 211) rfl)) rfl
theorem wS_M_endorse : Cond.selects "KissClearingModel" (⟨"KissClearingModel", "endorse", "(II)I"⟩ : MethodName) (⟨"KissClearingModel", "endorse", "(II)I"⟩ : MethodName) ∈ wl := in_wl (in_t5 (List.mem_of_getElem? (i := 212) rfl)) rfl
theorem wL_L_89 : Cond.methodLink "KissClearingLaw" 89 (⟨"KissClearingModel", "week", "()I"⟩ : MethodName) ∈ wl := in_wl (in_t5 (List.mem_of_getElem? (i := 214) rfl)) rfl
theorem wI_M_week : Cond.instanceMethod (⟨"KissClearingModel", "week", "()I"⟩ : MethodName) ∈ wl := in_wl (in_t5 (List.mem_of_getElem? (i := 215) rfl)) rfl
theorem wS_M_week : Cond.selects "KissClearingModel" (⟨"KissClearingModel", "week", "()I"⟩ : MethodName) (⟨"KissClearingModel", "week", "()I"⟩ : MethodName) ∈ wl := in_wl (in_t5 (List.mem_of_getElem? (i := 216) rfl)) rfl
theorem wL_L_93 : Cond.methodLink "KissClearingLaw" 93 (⟨"KissClearingModel", "undo", "(I)I"⟩ : MethodName) ∈ wl := in_wl (in_t5 (List.mem_of_getElem? (i := 218) rfl)) rfl
theorem wI_M_undo : Cond.instanceMethod (⟨"KissClearingModel", "undo", "(I)I"⟩ : MethodName) ∈ wl := in_wl (in_t5 (List.mem_of_getElem? (i := 219) rfl)) rfl
theorem wS_M_undo : Cond.selects "KissClearingModel" (⟨"KissClearingModel", "undo", "(I)I"⟩ : MethodName) (⟨"KissClearingModel", "undo", "(I)I"⟩ : MethodName) ∈ wl := in_wl (in_t5 (List.mem_of_getElem? (i := 220) rfl)) rfl
theorem wL_L_97 : Cond.methodLink "KissClearingLaw" 97 (⟨"KissClearingModel", "keep", "(I)I"⟩ : MethodName) ∈ wl := in_wl (in_t5 (List.mem_of_getElem? (i := 222) rfl)) rfl
theorem wI_M_keep : Cond.instanceMethod (⟨"KissClearingModel", "keep", "(I)I"⟩ : MethodName) ∈ wl := in_wl (in_t5 (List.mem_of_getElem? (i := 223) rfl)) rfl
theorem wS_M_keep : Cond.selects "KissClearingModel" (⟨"KissClearingModel", "keep", "(I)I"⟩ : MethodName) (⟨"KissClearingModel", "keep", "(I)I"⟩ : MethodName) ∈ wl := in_wl (in_t5 (List.mem_of_getElem? (i := 224) rfl)) rfl
theorem wL_M_240 : Cond.methodLink "KissClearingModel" 240 (⟨"KissClearingModel", "copyVillage", "(II)V"⟩ : MethodName) ∈ wl := in_wl (in_t5 (List.mem_of_getElem? (i := 226) rfl)) rfl
theorem wI_M_copyVillage : Cond.instanceMethod (⟨"KissClearingModel", "copyVillage", "(II)V"⟩ : MethodName) ∈ wl := in_wl (in_t5 (List.mem_of_getElem? (i := 228) rfl)) rfl
theorem wL_L_101 : Cond.methodLink "KissClearingLaw" 101 (⟨"KissClearingModel", "on", "(I)I"⟩ : MethodName) ∈ wl := in_wl (in_t5 (List.mem_of_getElem? (i := 230) rfl)) rfl
theorem wI_M_on : Cond.instanceMethod (⟨"KissClearingModel", "on", "(I)I"⟩ : MethodName) ∈ wl := in_wl (in_t5 (List.mem_of_getElem? (i := 231) rfl)) rfl
theorem wS_M_on : Cond.selects "KissClearingModel" (⟨"KissClearingModel", "on", "(I)I"⟩ : MethodName) (⟨"KissClearingModel", "on", "(I)I"⟩ : MethodName) ∈ wl := in_wl (in_t5 (List.mem_of_getElem? (i := 232) rfl)) rfl
theorem wL_L_105 : Cond.methodLink "KissClearingLaw" 105 (⟨"KissClearingModel", "between", "(III)I"⟩ : MethodName) ∈ wl := in_wl (in_t5 (List.mem_of_getElem? (i := 234) rfl)) rfl
theorem wI_M_between : Cond.instanceMethod (⟨"KissClearingModel", "between", "(III)I"⟩ : MethodName) ∈ wl := in_wl (in_t5 (List.mem_of_getElem? (i := 235) rfl)) rfl
theorem wS_M_between : Cond.selects "KissClearingModel" (⟨"KissClearingModel", "between", "(III)I"⟩ : MethodName) (⟨"KissClearingModel", "between", "(III)I"⟩ : MethodName) ∈ wl := in_wl (in_t5 (List.mem_of_getElem? (i := 236) rfl)) rfl
theorem wL_L_109 : Cond.methodLink "KissClearingLaw" 109 (⟨"KissClearingModel", "all", "(I)I"⟩ : MethodName) ∈ wl := in_wl (in_t5 (List.mem_of_getElem? (i := 238) rfl)) rfl
theorem wI_M_all : Cond.instanceMethod (⟨"KissClearingModel", "all", "(I)I"⟩ : MethodName) ∈ wl := in_wl (in_t5 (List.mem_of_getElem? (i := 239) rfl)) rfl
theorem wS_M_all : Cond.selects "KissClearingModel" (⟨"KissClearingModel", "all", "(I)I"⟩ : MethodName) (⟨"KissClearingModel", "all", "(I)I"⟩ : MethodName) ∈ wl := in_wl (in_t6 (List.mem_of_getElem? (i := 0) rfl)) rfl
theorem wL_M_262 : Cond.methodLink "KissClearingModel" 262 (⟨"KissClearingModel", "leastOfRing", "()I"⟩ : MethodName) ∈ wl := in_wl (in_t6 (List.mem_of_getElem? (i := 2) rfl)) rfl
theorem wI_M_leastOfRing : Cond.instanceMethod (⟨"KissClearingModel", "leastOfRing", "()I"⟩ : MethodName) ∈ wl := in_wl (in_t6 (List.mem_of_getElem? (i := 4) rfl)) rfl
theorem wL_L_113 : Cond.methodLink "KissClearingLaw" 113 (⟨"KissClearingModel", "ring", "(II)I"⟩ : MethodName) ∈ wl := in_wl (in_t6 (List.mem_of_getElem? (i := 6) rfl)) rfl
theorem wI_M_ring : Cond.instanceMethod (⟨"KissClearingModel", "ring", "(II)I"⟩ : MethodName) ∈ wl := in_wl (in_t6 (List.mem_of_getElem? (i := 7) rfl)) rfl
theorem wS_M_ring : Cond.selects "KissClearingModel" (⟨"KissClearingModel", "ring", "(II)I"⟩ : MethodName) (⟨"KissClearingModel", "ring", "(II)I"⟩ : MethodName) ∈ wl := in_wl (in_t6 (List.mem_of_getElem? (i := 8) rfl)) rfl
theorem wL_M_271 : Cond.methodLink "KissClearingModel" 271 (⟨"KissClearingModel", "layBest", "()Z"⟩ : MethodName) ∈ wl := in_wl (in_t6 (List.mem_of_getElem? (i := 10) rfl)) rfl
theorem wI_M_layBest : Cond.instanceMethod (⟨"KissClearingModel", "layBest", "()Z"⟩ : MethodName) ∈ wl := in_wl (in_t6 (List.mem_of_getElem? (i := 12) rfl)) rfl
theorem wL_L_117 : Cond.methodLink "KissClearingLaw" 117 (⟨"KissClearingModel", "net", "(I)I"⟩ : MethodName) ∈ wl := in_wl (in_t6 (List.mem_of_getElem? (i := 14) rfl)) rfl
theorem wI_M_net : Cond.instanceMethod (⟨"KissClearingModel", "net", "(I)I"⟩ : MethodName) ∈ wl := in_wl (in_t6 (List.mem_of_getElem? (i := 15) rfl)) rfl
theorem wS_M_net : Cond.selects "KissClearingModel" (⟨"KissClearingModel", "net", "(I)I"⟩ : MethodName) (⟨"KissClearingModel", "net", "(I)I"⟩ : MethodName) ∈ wl := in_wl (in_t6 (List.mem_of_getElem? (i := 16) rfl)) rfl
theorem wL_L_121 : Cond.methodLink "KissClearingLaw" 121 (⟨"KissClearingModel", "left", "(I)I"⟩ : MethodName) ∈ wl := in_wl (in_t6 (List.mem_of_getElem? (i := 18) rfl)) rfl
theorem wI_M_left : Cond.instanceMethod (⟨"KissClearingModel", "left", "(I)I"⟩ : MethodName) ∈ wl := in_wl (in_t6 (List.mem_of_getElem? (i := 19) rfl)) rfl
theorem wS_M_left : Cond.selects "KissClearingModel" (⟨"KissClearingModel", "left", "(I)I"⟩ : MethodName) (⟨"KissClearingModel", "left", "(I)I"⟩ : MethodName) ∈ wl := in_wl (in_t6 (List.mem_of_getElem? (i := 20) rfl)) rfl
theorem wL_L_125 : Cond.methodLink "KissClearingLaw" 125 (⟨"KissClearingModel", "falls", "(I)I"⟩ : MethodName) ∈ wl := in_wl (in_t6 (List.mem_of_getElem? (i := 22) rfl)) rfl
theorem wI_M_falls : Cond.instanceMethod (⟨"KissClearingModel", "falls", "(I)I"⟩ : MethodName) ∈ wl := in_wl (in_t6 (List.mem_of_getElem? (i := 23) rfl)) rfl
theorem wS_M_falls : Cond.selects "KissClearingModel" (⟨"KissClearingModel", "falls", "(I)I"⟩ : MethodName) (⟨"KissClearingModel", "falls", "(I)I"⟩ : MethodName) ∈ wl := in_wl (in_t6 (List.mem_of_getElem? (i := 24) rfl)) rfl
theorem wL_M_274 : Cond.methodLink "KissClearingModel" 274 (⟨"KissClearingModel", "fallen", "(III)I"⟩ : MethodName) ∈ wl := in_wl (in_t6 (List.mem_of_getElem? (i := 26) rfl)) rfl
theorem wI_M_fallen : Cond.instanceMethod (⟨"KissClearingModel", "fallen", "(III)I"⟩ : MethodName) ∈ wl := in_wl (in_t6 (List.mem_of_getElem? (i := 28) rfl)) rfl
theorem wL_L_129 : Cond.methodLink "KissClearingLaw" 129 (⟨"KissClearingModel", "worst", "()I"⟩ : MethodName) ∈ wl := in_wl (in_t6 (List.mem_of_getElem? (i := 30) rfl)) rfl
theorem wI_M_worst : Cond.instanceMethod (⟨"KissClearingModel", "worst", "()I"⟩ : MethodName) ∈ wl := in_wl (in_t6 (List.mem_of_getElem? (i := 31) rfl)) rfl
theorem wS_M_worst : Cond.selects "KissClearingModel" (⟨"KissClearingModel", "worst", "()I"⟩ : MethodName) (⟨"KissClearingModel", "worst", "()I"⟩ : MethodName) ∈ wl := in_wl (in_t6 (List.mem_of_getElem? (i := 32) rfl)) rfl
theorem wL_L_133 : Cond.methodLink "KissClearingLaw" 133 (⟨"KissClearingModel", "saved", "(II)I"⟩ : MethodName) ∈ wl := in_wl (in_t6 (List.mem_of_getElem? (i := 34) rfl)) rfl
theorem wI_M_saved : Cond.instanceMethod (⟨"KissClearingModel", "saved", "(II)I"⟩ : MethodName) ∈ wl := in_wl (in_t6 (List.mem_of_getElem? (i := 35) rfl)) rfl
theorem wS_M_saved : Cond.selects "KissClearingModel" (⟨"KissClearingModel", "saved", "(II)I"⟩ : MethodName) (⟨"KissClearingModel", "saved", "(II)I"⟩ : MethodName) ∈ wl := in_wl (in_t6 (List.mem_of_getElem? (i := 36) rfl)) rfl
theorem wL_L_137 : Cond.methodLink "KissClearingLaw" 137 (⟨"KissClearingModel", "pairs", "()I"⟩ : MethodName) ∈ wl := in_wl (in_t6 (List.mem_of_getElem? (i := 38) rfl)) rfl
theorem wI_M_pairs : Cond.instanceMethod (⟨"KissClearingModel", "pairs", "()I"⟩ : MethodName) ∈ wl := in_wl (in_t6 (List.mem_of_getElem? (i := 39) rfl)) rfl
theorem wS_M_pairs : Cond.selects "KissClearingModel" (⟨"KissClearingModel", "pairs", "()I"⟩ : MethodName) (⟨"KissClearingModel", "pairs", "()I"⟩ : MethodName) ∈ wl := in_wl (in_t6 (List.mem_of_getElem? (i := 40) rfl)) rfl
theorem wL_M_283 : Cond.methodLink "KissClearingModel" 283 (⟨"KissClearingModel", "layPairs", "()V"⟩ : MethodName) ∈ wl := in_wl (in_t6 (List.mem_of_getElem? (i := 42) rfl)) rfl
theorem wI_M_layPairs : Cond.instanceMethod (⟨"KissClearingModel", "layPairs", "()V"⟩ : MethodName) ∈ wl := in_wl (in_t6 (List.mem_of_getElem? (i := 44) rfl)) rfl
theorem wL_M_280 : Cond.methodLink "KissClearingModel" 280 (⟨"KissClearingModel", "isOpenBetween", "(II)Z"⟩ : MethodName) ∈ wl := in_wl (in_t6 (List.mem_of_getElem? (i := 46) rfl)) rfl
theorem wI_M_isOpenBetween : Cond.instanceMethod (⟨"KissClearingModel", "isOpenBetween", "(II)Z"⟩ : MethodName) ∈ wl := in_wl (in_t6 (List.mem_of_getElem? (i := 48) rfl)) rfl
theorem wL_L_141 : Cond.methodLink "KissClearingLaw" 141 (⟨"KissClearingModel", "rounds", "()I"⟩ : MethodName) ∈ wl := in_wl (in_t6 (List.mem_of_getElem? (i := 50) rfl)) rfl
theorem wI_M_rounds : Cond.instanceMethod (⟨"KissClearingModel", "rounds", "()I"⟩ : MethodName) ∈ wl := in_wl (in_t6 (List.mem_of_getElem? (i := 51) rfl)) rfl
theorem wS_M_rounds : Cond.selects "KissClearingModel" (⟨"KissClearingModel", "rounds", "()I"⟩ : MethodName) (⟨"KissClearingModel", "rounds", "()I"⟩ : MethodName) ∈ wl := in_wl (in_t6 (List.mem_of_getElem? (i := 52) rfl)) rfl
theorem wL_M_289 : Cond.methodLink "KissClearingModel" 289 (⟨"KissClearingModel", "canMeet", "(I)Z"⟩ : MethodName) ∈ wl := in_wl (in_t6 (List.mem_of_getElem? (i := 54) rfl)) rfl
theorem wI_M_canMeet : Cond.instanceMethod (⟨"KissClearingModel", "canMeet", "(I)Z"⟩ : MethodName) ∈ wl := in_wl (in_t6 (List.mem_of_getElem? (i := 56) rfl)) rfl
theorem wL_M_286 : Cond.methodLink "KissClearingModel" 286 (⟨"KissClearingModel", "isBusy", "(I)Z"⟩ : MethodName) ∈ wl := in_wl (in_t6 (List.mem_of_getElem? (i := 58) rfl)) rfl
theorem wI_M_isBusy : Cond.instanceMethod (⟨"KissClearingModel", "isBusy", "(I)Z"⟩ : MethodName) ∈ wl := in_wl (in_t6 (List.mem_of_getElem? (i := 60) rfl)) rfl
theorem wL_L_145 : Cond.methodLink "KissClearingLaw" 145 (⟨"KissClearingModel", "mistletoe", "()I"⟩ : MethodName) ∈ wl := in_wl (in_t6 (List.mem_of_getElem? (i := 62) rfl)) rfl
theorem wI_M_mistletoe : Cond.instanceMethod (⟨"KissClearingModel", "mistletoe", "()I"⟩ : MethodName) ∈ wl := in_wl (in_t6 (List.mem_of_getElem? (i := 63) rfl)) rfl
theorem wS_M_mistletoe : Cond.selects "KissClearingModel" (⟨"KissClearingModel", "mistletoe", "()I"⟩ : MethodName) (⟨"KissClearingModel", "mistletoe", "()I"⟩ : MethodName) ∈ wl := in_wl (in_t6 (List.mem_of_getElem? (i := 64) rfl)) rfl
theorem wL_L_149 : Cond.methodLink "KissClearingLaw" 149 (⟨"KissClearingModel", "gain", "(I)I"⟩ : MethodName) ∈ wl := in_wl (in_t6 (List.mem_of_getElem? (i := 66) rfl)) rfl
theorem wI_M_gain : Cond.instanceMethod (⟨"KissClearingModel", "gain", "(I)I"⟩ : MethodName) ∈ wl := in_wl (in_t6 (List.mem_of_getElem? (i := 67) rfl)) rfl
theorem wS_M_gain : Cond.selects "KissClearingModel" (⟨"KissClearingModel", "gain", "(I)I"⟩ : MethodName) (⟨"KissClearingModel", "gain", "(I)I"⟩ : MethodName) ∈ wl := in_wl (in_t6 (List.mem_of_getElem? (i := 68) rfl)) rfl
theorem wL_M_294 : Cond.methodLink "KissClearingModel" 294 (⟨"KissClearingModel", "areRates", "(I)Z"⟩ : MethodName) ∈ wl := in_wl (in_t6 (List.mem_of_getElem? (i := 70) rfl)) rfl
theorem wI_M_areRates : Cond.instanceMethod (⟨"KissClearingModel", "areRates", "(I)Z"⟩ : MethodName) ∈ wl := in_wl (in_t6 (List.mem_of_getElem? (i := 72) rfl)) rfl
theorem wJ_M_292 : Cond.constantLong "KissClearingModel" (292 : Nat) (9999 : Int64) ∈ wl := in_wl (in_t6 (List.mem_of_getElem? (i := 74) rfl)) rfl
theorem wL_M_297 : Cond.methodLink "KissClearingModel" 297 (⟨"KissClearingModel", "rate", "(II)J"⟩ : MethodName) ∈ wl := in_wl (in_t6 (List.mem_of_getElem? (i := 75) rfl)) rfl
theorem wI_M_rate : Cond.instanceMethod (⟨"KissClearingModel", "rate", "(II)J"⟩ : MethodName) ∈ wl := in_wl (in_t6 (List.mem_of_getElem? (i := 77) rfl)) rfl
theorem wJ_M_301 : Cond.constantLong "KissClearingModel" (301 : Nat) (10000 : Int64) ∈ wl := in_wl (in_t6 (List.mem_of_getElem? (i := 79) rfl)) rfl
theorem wJ_M_303 : Cond.constantLong "KissClearingModel" (303 : Nat) (1000000 : Int64) ∈ wl := in_wl (in_t6 (List.mem_of_getElem? (i := 80) rfl)) rfl
theorem wL_L_153 : Cond.methodLink "KissClearingLaw" 153 (⟨"KissClearingModel", "trust", "(II)I"⟩ : MethodName) ∈ wl := in_wl (in_t6 (List.mem_of_getElem? (i := 81) rfl)) rfl
theorem wI_M_trust : Cond.instanceMethod (⟨"KissClearingModel", "trust", "(II)I"⟩ : MethodName) ∈ wl := in_wl (in_t6 (List.mem_of_getElem? (i := 82) rfl)) rfl
theorem wS_M_trust : Cond.selects "KissClearingModel" (⟨"KissClearingModel", "trust", "(II)I"⟩ : MethodName) (⟨"KissClearingModel", "trust", "(II)I"⟩ : MethodName) ∈ wl := in_wl (in_t6 (List.mem_of_getElem? (i := 83) rfl)) rfl
theorem wL_L_157 : Cond.methodLink "KissClearingLaw" 157 (⟨"KissClearingModel", "blushes", "(I)I"⟩ : MethodName) ∈ wl := in_wl (in_t6 (List.mem_of_getElem? (i := 85) rfl)) rfl
theorem wI_M_blushes : Cond.instanceMethod (⟨"KissClearingModel", "blushes", "(I)I"⟩ : MethodName) ∈ wl := in_wl (in_t6 (List.mem_of_getElem? (i := 86) rfl)) rfl
theorem wS_M_blushes : Cond.selects "KissClearingModel" (⟨"KissClearingModel", "blushes", "(I)I"⟩ : MethodName) (⟨"KissClearingModel", "blushes", "(I)I"⟩ : MethodName) ∈ wl := in_wl (in_t6 (List.mem_of_getElem? (i := 87) rfl)) rfl
theorem wL_M_320 : Cond.methodLink "KissClearingModel" 320 (⟨"KissClearingModel", "layBlushes", "(I)I"⟩ : MethodName) ∈ wl := in_wl (in_t6 (List.mem_of_getElem? (i := 89) rfl)) rfl
theorem wI_M_layBlushes : Cond.instanceMethod (⟨"KissClearingModel", "layBlushes", "(I)I"⟩ : MethodName) ∈ wl := in_wl (in_t6 (List.mem_of_getElem? (i := 91) rfl)) rfl
theorem wL_M_314 : Cond.methodLink "KissClearingModel" 314 (⟨"KissClearingModel", "areOpen", "(I)Z"⟩ : MethodName) ∈ wl := in_wl (in_t6 (List.mem_of_getElem? (i := 93) rfl)) rfl
theorem wI_M_areOpen : Cond.instanceMethod (⟨"KissClearingModel", "areOpen", "(I)Z"⟩ : MethodName) ∈ wl := in_wl (in_t6 (List.mem_of_getElem? (i := 95) rfl)) rfl
theorem wL_M_317 : Cond.methodLink "KissClearingModel" 317 (⟨"KissClearingModel", "fits", "(II)Z"⟩ : MethodName) ∈ wl := in_wl (in_t6 (List.mem_of_getElem? (i := 97) rfl)) rfl
theorem wI_M_fits : Cond.instanceMethod (⟨"KissClearingModel", "fits", "(II)Z"⟩ : MethodName) ∈ wl := in_wl (in_t6 (List.mem_of_getElem? (i := 99) rfl)) rfl
theorem wL_L_161 : Cond.methodLink "KissClearingLaw" 161 (⟨"KissClearingModel", "sure", "(I)I"⟩ : MethodName) ∈ wl := in_wl (in_t6 (List.mem_of_getElem? (i := 101) rfl)) rfl
theorem wI_M_sure : Cond.instanceMethod (⟨"KissClearingModel", "sure", "(I)I"⟩ : MethodName) ∈ wl := in_wl (in_t6 (List.mem_of_getElem? (i := 102) rfl)) rfl
theorem wS_M_sure : Cond.selects "KissClearingModel" (⟨"KissClearingModel", "sure", "(I)I"⟩ : MethodName) (⟨"KissClearingModel", "sure", "(I)I"⟩ : MethodName) ∈ wl := in_wl (in_t6 (List.mem_of_getElem? (i := 103) rfl)) rfl
theorem wL_L_165 : Cond.methodLink "KissClearingLaw" 165 (⟨"KissClearingModel", "odds", "()I"⟩ : MethodName) ∈ wl := in_wl (in_t6 (List.mem_of_getElem? (i := 105) rfl)) rfl
theorem wI_M_odds : Cond.instanceMethod (⟨"KissClearingModel", "odds", "()I"⟩ : MethodName) ∈ wl := in_wl (in_t6 (List.mem_of_getElem? (i := 106) rfl)) rfl
theorem wS_M_odds : Cond.selects "KissClearingModel" (⟨"KissClearingModel", "odds", "()I"⟩ : MethodName) (⟨"KissClearingModel", "odds", "()I"⟩ : MethodName) ∈ wl := in_wl (in_t6 (List.mem_of_getElem? (i := 107) rfl)) rfl
theorem wL_M_323 : Cond.methodLink "KissClearingModel" 323 (⟨"KissClearingModel", "divisor", "(II)I"⟩ : MethodName) ∈ wl := in_wl (in_t6 (List.mem_of_getElem? (i := 109) rfl)) rfl
theorem wT_M_divisor : Cond.static (⟨"KissClearingModel", "divisor", "(II)I"⟩ : MethodName) ∈ wl := in_wl (in_t6 (List.mem_of_getElem? (i := 110) rfl)) rfl
theorem wL_L_169 : Cond.methodLink "KissClearingLaw" 169 (⟨"KissClearingModel", "lots", "(II)I"⟩ : MethodName) ∈ wl := in_wl (in_t6 (List.mem_of_getElem? (i := 112) rfl)) rfl
theorem wI_M_lots : Cond.instanceMethod (⟨"KissClearingModel", "lots", "(II)I"⟩ : MethodName) ∈ wl := in_wl (in_t6 (List.mem_of_getElem? (i := 113) rfl)) rfl
theorem wS_M_lots : Cond.selects "KissClearingModel" (⟨"KissClearingModel", "lots", "(II)I"⟩ : MethodName) (⟨"KissClearingModel", "lots", "(II)I"⟩ : MethodName) ∈ wl := in_wl (in_t6 (List.mem_of_getElem? (i := 114) rfl)) rfl
theorem wJ_M_329 : Cond.constantLong "KissClearingModel" (329 : Nat) (20 : Int64) ∈ wl := in_wl (in_t6 (List.mem_of_getElem? (i := 116) rfl)) rfl
theorem wJ_M_331 : Cond.constantLong "KissClearingModel" (331 : Nat) (2147483646 : Int64) ∈ wl := in_wl (in_t6 (List.mem_of_getElem? (i := 117) rfl)) rfl
theorem wJ_M_333 : Cond.constantLong "KissClearingModel" (333 : Nat) (48271 : Int64) ∈ wl := in_wl (in_t6 (List.mem_of_getElem? (i := 118) rfl)) rfl
theorem wJ_M_335 : Cond.constantLong "KissClearingModel" (335 : Nat) (2147483647 : Int64) ∈ wl := in_wl (in_t6 (List.mem_of_getElem? (i := 119) rfl)) rfl
theorem wJ_M_337 : Cond.constantLong "KissClearingModel" (337 : Nat) (32 : Int64) ∈ wl := in_wl (in_t6 (List.mem_of_getElem? (i := 120) rfl)) rfl
theorem wL_L_173 : Cond.methodLink "KissClearingLaw" 173 (⟨"KissClearingModel", "asked", "()I"⟩ : MethodName) ∈ wl := in_wl (in_t6 (List.mem_of_getElem? (i := 121) rfl)) rfl
theorem wI_M_asked : Cond.instanceMethod (⟨"KissClearingModel", "asked", "()I"⟩ : MethodName) ∈ wl := in_wl (in_t6 (List.mem_of_getElem? (i := 122) rfl)) rfl
theorem wS_M_asked : Cond.selects "KissClearingModel" (⟨"KissClearingModel", "asked", "()I"⟩ : MethodName) (⟨"KissClearingModel", "asked", "()I"⟩ : MethodName) ∈ wl := in_wl (in_t6 (List.mem_of_getElem? (i := 123) rfl)) rfl
theorem wL_L_178 : Cond.methodLink "KissClearingLaw" 178 (⟨"KissClearingModel", "upper", "()J"⟩ : MethodName) ∈ wl := in_wl (in_t6 (List.mem_of_getElem? (i := 125) rfl)) rfl
theorem wI_M_upper : Cond.instanceMethod (⟨"KissClearingModel", "upper", "()J"⟩ : MethodName) ∈ wl := in_wl (in_t6 (List.mem_of_getElem? (i := 126) rfl)) rfl
theorem wS_M_upper : Cond.selects "KissClearingModel" (⟨"KissClearingModel", "upper", "()J"⟩ : MethodName) (⟨"KissClearingModel", "upper", "()J"⟩ : MethodName) ∈ wl := in_wl (in_t6 (List.mem_of_getElem? (i := 127) rfl)) rfl
theorem wL_L_182 : Cond.methodLink "KissClearingLaw" 182 (⟨"KissClearingModel", "lower", "()J"⟩ : MethodName) ∈ wl := in_wl (in_t6 (List.mem_of_getElem? (i := 129) rfl)) rfl
theorem wI_M_lower : Cond.instanceMethod (⟨"KissClearingModel", "lower", "()J"⟩ : MethodName) ∈ wl := in_wl (in_t6 (List.mem_of_getElem? (i := 130) rfl)) rfl
theorem wS_M_lower : Cond.selects "KissClearingModel" (⟨"KissClearingModel", "lower", "()J"⟩ : MethodName) (⟨"KissClearingModel", "lower", "()J"⟩ : MethodName) ∈ wl := in_wl (in_t6 (List.mem_of_getElem? (i := 131) rfl)) rfl
theorem wL_L_186 : Cond.methodLink "KissClearingLaw" 186 (⟨"KissClearingModel", "count", "(I)I"⟩ : MethodName) ∈ wl := in_wl (in_t6 (List.mem_of_getElem? (i := 133) rfl)) rfl
theorem wI_M_count : Cond.instanceMethod (⟨"KissClearingModel", "count", "(I)I"⟩ : MethodName) ∈ wl := in_wl (in_t6 (List.mem_of_getElem? (i := 134) rfl)) rfl
theorem wS_M_count : Cond.selects "KissClearingModel" (⟨"KissClearingModel", "count", "(I)I"⟩ : MethodName) (⟨"KissClearingModel", "count", "(I)I"⟩ : MethodName) ∈ wl := in_wl (in_t6 (List.mem_of_getElem? (i := 135) rfl)) rfl
theorem wJ_M_354 : Cond.constantLong "KissClearingModel" (354 : Nat) (8 : Int64) ∈ wl := in_wl (in_t6 (List.mem_of_getElem? (i := 137) rfl)) rfl
theorem wL_M_356 : Cond.methodLink "KissClearingModel" 356 (⟨"KissClearingModel", "countOf", "(I)I"⟩ : MethodName) ∈ wl := in_wl (in_t6 (List.mem_of_getElem? (i := 138) rfl)) rfl
theorem wI_M_countOf : Cond.instanceMethod (⟨"KissClearingModel", "countOf", "(I)I"⟩ : MethodName) ∈ wl := in_wl (in_t6 (List.mem_of_getElem? (i := 140) rfl)) rfl
theorem wL_M_342 : Cond.methodLink "KissClearingModel" 342 (⟨"KissClearingModel", "openMany", "()I"⟩ : MethodName) ∈ wl := in_wl (in_t6 (List.mem_of_getElem? (i := 142) rfl)) rfl
theorem wI_M_openMany : Cond.instanceMethod (⟨"KissClearingModel", "openMany", "()I"⟩ : MethodName) ∈ wl := in_wl (in_t6 (List.mem_of_getElem? (i := 144) rfl)) rfl
theorem wL_M_345 : Cond.methodLink "KissClearingModel" 345 (⟨"KissClearingModel", "openKisses", "()I"⟩ : MethodName) ∈ wl := in_wl (in_t6 (List.mem_of_getElem? (i := 146) rfl)) rfl
theorem wI_M_openKisses : Cond.instanceMethod (⟨"KissClearingModel", "openKisses", "()I"⟩ : MethodName) ∈ wl := in_wl (in_t6 (List.mem_of_getElem? (i := 148) rfl)) rfl
theorem wL_M_348 : Cond.methodLink "KissClearingModel" 348 (⟨"KissClearingModel", "aunts", "()I"⟩ : MethodName) ∈ wl := in_wl (in_t6 (List.mem_of_getElem? (i := 150) rfl)) rfl
theorem wI_M_aunts : Cond.instanceMethod (⟨"KissClearingModel", "aunts", "()I"⟩ : MethodName) ∈ wl := in_wl (in_t6 (List.mem_of_getElem? (i := 152) rfl)) rfl
theorem wL_M_339 : Cond.methodLink "KissClearingModel" 339 (⟨"KissClearingModel", "isAunt", "(I)Z"⟩ : MethodName) ∈ wl := in_wl (in_t6 (List.mem_of_getElem? (i := 154) rfl)) rfl
theorem wT_M_isAunt : Cond.static (⟨"KissClearingModel", "isAunt", "(I)Z"⟩ : MethodName) ∈ wl := in_wl (in_t6 (List.mem_of_getElem? (i := 155) rfl)) rfl
theorem wL_M_351 : Cond.methodLink "KissClearingModel" 351 (⟨"KissClearingModel", "thereOf", "(I)I"⟩ : MethodName) ∈ wl := in_wl (in_t6 (List.mem_of_getElem? (i := 157) rfl)) rfl
theorem wI_M_thereOf : Cond.instanceMethod (⟨"KissClearingModel", "thereOf", "(I)I"⟩ : MethodName) ∈ wl := in_wl (in_t6 (List.mem_of_getElem? (i := 159) rfl)) rfl
theorem wL_L_190 : Cond.methodLink "KissClearingLaw" 190 (⟨"KissClearingModel", "finding", "()I"⟩ : MethodName) ∈ wl := in_wl (in_t6 (List.mem_of_getElem? (i := 161) rfl)) rfl
theorem wI_M_finding : Cond.instanceMethod (⟨"KissClearingModel", "finding", "()I"⟩ : MethodName) ∈ wl := in_wl (in_t6 (List.mem_of_getElem? (i := 162) rfl)) rfl
theorem wS_M_finding : Cond.selects "KissClearingModel" (⟨"KissClearingModel", "finding", "()I"⟩ : MethodName) (⟨"KissClearingModel", "finding", "()I"⟩ : MethodName) ∈ wl := in_wl (in_t6 (List.mem_of_getElem? (i := 163) rfl)) rfl
theorem wL_L_194 : Cond.methodLink "KissClearingLaw" 194 (⟨"KissClearingModel", "findings", "(I)I"⟩ : MethodName) ∈ wl := in_wl (in_t6 (List.mem_of_getElem? (i := 165) rfl)) rfl
theorem wI_M_findings : Cond.instanceMethod (⟨"KissClearingModel", "findings", "(I)I"⟩ : MethodName) ∈ wl := in_wl (in_t6 (List.mem_of_getElem? (i := 166) rfl)) rfl
theorem wS_M_findings : Cond.selects "KissClearingModel" (⟨"KissClearingModel", "findings", "(I)I"⟩ : MethodName) (⟨"KissClearingModel", "findings", "(I)I"⟩ : MethodName) ∈ wl := in_wl (in_t6 (List.mem_of_getElem? (i := 167) rfl)) rfl
theorem wL_L_198 : Cond.methodLink "KissClearingLaw" 198 (⟨"KissClearingModel", "digest", "()J"⟩ : MethodName) ∈ wl := in_wl (in_t6 (List.mem_of_getElem? (i := 169) rfl)) rfl
theorem wI_M_digest : Cond.instanceMethod (⟨"KissClearingModel", "digest", "()J"⟩ : MethodName) ∈ wl := in_wl (in_t6 (List.mem_of_getElem? (i := 170) rfl)) rfl
theorem wS_M_digest : Cond.selects "KissClearingModel" (⟨"KissClearingModel", "digest", "()J"⟩ : MethodName) (⟨"KissClearingModel", "digest", "()J"⟩ : MethodName) ∈ wl := in_wl (in_t6 (List.mem_of_getElem? (i := 171) rfl)) rfl
theorem wJ_M_359 : Cond.constantLong "KissClearingModel" (359 : Nat) (17 : Int64) ∈ wl := in_wl (in_t6 (List.mem_of_getElem? (i := 173) rfl)) rfl
theorem wJ_M_361 : Cond.constantLong "KissClearingModel" (361 : Nat) (31 : Int64) ∈ wl := in_wl (in_t6 (List.mem_of_getElem? (i := 174) rfl)) rfl
theorem wS_K_refuse : Cond.selects "KissClearing" ⟨"KissClearing", "refuse", "(I)I"⟩ ⟨"KissClearing", "refuse", "(I)I"⟩ ∈ wl := in_wl (List.mem_of_getElem? (i := 0) rfl) rfl
theorem wS_K_tell : Cond.selects "KissClearing" ⟨"KissClearing", "tell", "(I)I"⟩ ⟨"KissClearing", "tell", "(I)I"⟩ ∈ wl := in_wl (List.mem_of_getElem? (i := 1) rfl) rfl
theorem wS_K_ofPerson : Cond.selects "KissClearing" ⟨"KissClearing", "ofPerson", "(II)I"⟩ ⟨"KissClearing", "ofPerson", "(II)I"⟩ ∈ wl := in_wl (List.mem_of_getElem? (i := 2) rfl) rfl
theorem wS_K_ofDraft : Cond.selects "KissClearing" ⟨"KissClearing", "ofDraft", "(II)I"⟩ ⟨"KissClearing", "ofDraft", "(II)I"⟩ ∈ wl := in_wl (List.mem_of_getElem? (i := 3) rfl) rfl
theorem wS_K_ringsThrough : Cond.selects "KissClearing" ⟨"KissClearing", "ringsThrough", "(I)I"⟩ ⟨"KissClearing", "ringsThrough", "(I)I"⟩ ∈ wl := in_wl (List.mem_of_getElem? (i := 4) rfl) rfl
theorem wS_G_extend : Cond.selects "KissClearing$Rings" ⟨"KissClearing$Rings", "extend", "(LKissClearing$Village;III)V"⟩ ⟨"KissClearing$Rings", "extend", "(LKissClearing$Village;III)V"⟩ ∈ wl := in_wl (List.mem_of_getElem? (i := 5) rfl) rfl
theorem wS_G_takeRing : Cond.selects "KissClearing$Rings" ⟨"KissClearing$Rings", "takeRing", "(LKissClearing$Village;II)V"⟩ ⟨"KissClearing$Rings", "takeRing", "(LKissClearing$Village;II)V"⟩ ∈ wl := in_wl (List.mem_of_getElem? (i := 6) rfl) rfl
theorem wS_V_lessen : Cond.selects "KissClearing$Village" ⟨"KissClearing$Village", "lessen", "(IIII)V"⟩ ⟨"KissClearing$Village", "lessen", "(IIII)V"⟩ ∈ wl := in_wl (List.mem_of_getElem? (i := 7) rfl) rfl
theorem wS_O_mostOfOne : Cond.selects "KissClearing$Rounds" ⟨"KissClearing$Rounds", "mostOfOne", "()I"⟩ ⟨"KissClearing$Rounds", "mostOfOne", "()I"⟩ ∈ wl := in_wl (List.mem_of_getElem? (i := 8) rfl) rfl
theorem wS_O_fit : Cond.selects "KissClearing$Rounds" ⟨"KissClearing$Rounds", "fit", "(III)Z"⟩ ⟨"KissClearing$Rounds", "fit", "(III)Z"⟩ ∈ wl := in_wl (List.mem_of_getElem? (i := 9) rfl) rfl
theorem wS_K_blushesRefused : Cond.selects "KissClearing" ⟨"KissClearing", "blushesRefused", "(I)I"⟩ ⟨"KissClearing", "blushesRefused", "(I)I"⟩ ∈ wl := in_wl (List.mem_of_getElem? (i := 10) rfl) rfl
theorem wS_B_choose : Cond.selects "KissClearing$Blushes" ⟨"KissClearing$Blushes", "choose", "(LKissClearing$Village;II)V"⟩ ⟨"KissClearing$Blushes", "choose", "(LKissClearing$Village;II)V"⟩ ∈ wl := in_wl (List.mem_of_getElem? (i := 11) rfl) rfl
theorem wS_B_takeIfFitting : Cond.selects "KissClearing$Blushes" ⟨"KissClearing$Blushes", "takeIfFitting", "(LKissClearing$Village;I)V"⟩ ⟨"KissClearing$Blushes", "takeIfFitting", "(LKissClearing$Village;I)V"⟩ ∈ wl := in_wl (List.mem_of_getElem? (i := 12) rfl) rfl
theorem wS_K_howMany : Cond.selects "KissClearing" ⟨"KissClearing", "howMany", "(I)I"⟩ ⟨"KissClearing", "howMany", "(I)I"⟩ ∈ wl := in_wl (List.mem_of_getElem? (i := 13) rfl) rfl
theorem wS_K_keptVillages : Cond.selects "KissClearing" ⟨"KissClearing", "keptVillages", "()I"⟩ ⟨"KissClearing", "keptVillages", "()I"⟩ ∈ wl := in_wl (List.mem_of_getElem? (i := 14) rfl) rfl
theorem wS_M_find : Cond.selects "KissClearingModel" ⟨"KissClearingModel", "find", "(I)I"⟩ ⟨"KissClearingModel", "find", "(I)I"⟩ ∈ wl := in_wl (List.mem_of_getElem? (i := 15) rfl) rfl
theorem wS_M_makeRow : Cond.selects "KissClearingModel" ⟨"KissClearingModel", "makeRow", "(II)V"⟩ ⟨"KissClearingModel", "makeRow", "(II)V"⟩ ∈ wl := in_wl (List.mem_of_getElem? (i := 16) rfl) rfl
theorem wS_M_refused : Cond.selects "KissClearingModel" ⟨"KissClearingModel", "refused", "(II)I"⟩ ⟨"KissClearingModel", "refused", "(II)I"⟩ ∈ wl := in_wl (List.mem_of_getElem? (i := 17) rfl) rfl
theorem wS_M_tell : Cond.selects "KissClearingModel" ⟨"KissClearingModel", "tell", "(I)I"⟩ ⟨"KissClearingModel", "tell", "(I)I"⟩ ∈ wl := in_wl (List.mem_of_getElem? (i := 18) rfl) rfl
theorem wS_M_isSpan : Cond.selects "KissClearingModel" ⟨"KissClearingModel", "isSpan", "(III)Z"⟩ ⟨"KissClearingModel", "isSpan", "(III)Z"⟩ ∈ wl := in_wl (List.mem_of_getElem? (i := 19) rfl) rfl
theorem wS_M_faultOf : Cond.selects "KissClearingModel" ⟨"KissClearingModel", "faultOf", "(I)I"⟩ ⟨"KissClearingModel", "faultOf", "(I)I"⟩ ∈ wl := in_wl (List.mem_of_getElem? (i := 20) rfl) rfl
theorem wS_M_skip : Cond.selects "KissClearingModel" ⟨"KissClearingModel", "skip", "()V"⟩ ⟨"KissClearingModel", "skip", "()V"⟩ ∈ wl := in_wl (List.mem_of_getElem? (i := 21) rfl) rfl
theorem wS_M_here : Cond.selects "KissClearingModel" ⟨"KissClearingModel", "here", "()I"⟩ ⟨"KissClearingModel", "here", "()I"⟩ ∈ wl := in_wl (List.mem_of_getElem? (i := 22) rfl) rfl
theorem wS_M_readsDraft : Cond.selects "KissClearingModel" ⟨"KissClearingModel", "readsDraft", "()Z"⟩ ⟨"KissClearingModel", "readsDraft", "()Z"⟩ ∈ wl := in_wl (List.mem_of_getElem? (i := 23) rfl) rfl
theorem wS_M_figure : Cond.selects "KissClearingModel" ⟨"KissClearingModel", "figure", "(III)I"⟩ ⟨"KissClearingModel", "figure", "(III)I"⟩ ∈ wl := in_wl (List.mem_of_getElem? (i := 24) rfl) rfl
theorem wS_M_readsPerson : Cond.selects "KissClearingModel" ⟨"KissClearingModel", "readsPerson", "()Z"⟩ ⟨"KissClearingModel", "readsPerson", "()Z"⟩ ∈ wl := in_wl (List.mem_of_getElem? (i := 25) rfl) rfl
theorem wS_M_addDraft : Cond.selects "KissClearingModel" ⟨"KissClearingModel", "addDraft", "(IIII)V"⟩ ⟨"KissClearingModel", "addDraft", "(IIII)V"⟩ ∈ wl := in_wl (List.mem_of_getElem? (i := 26) rfl) rfl
theorem wS_M_isPerson : Cond.selects "KissClearingModel" ⟨"KissClearingModel", "isPerson", "(I)Z"⟩ ⟨"KissClearingModel", "isPerson", "(I)Z"⟩ ∈ wl := in_wl (List.mem_of_getElem? (i := 27) rfl) rfl
theorem wS_M_toldOf : Cond.selects "KissClearingModel" ⟨"KissClearingModel", "toldOf", "(II)I"⟩ ⟨"KissClearingModel", "toldOf", "(II)I"⟩ ∈ wl := in_wl (List.mem_of_getElem? (i := 28) rfl) rfl
theorem wS_M_owing : Cond.selects "KissClearingModel" ⟨"KissClearingModel", "owing", "(I)I"⟩ ⟨"KissClearingModel", "owing", "(I)I"⟩ ∈ wl := in_wl (List.mem_of_getElem? (i := 29) rfl) rfl
theorem wS_M_of : Cond.selects "KissClearingModel" ⟨"KissClearingModel", "of", "(II)I"⟩ ⟨"KissClearingModel", "of", "(II)I"⟩ ∈ wl := in_wl (List.mem_of_getElem? (i := 30) rfl) rfl
theorem wS_M_worth : Cond.selects "KissClearingModel" ⟨"KissClearingModel", "worth", "(I)I"⟩ ⟨"KissClearingModel", "worth", "(I)I"⟩ ∈ wl := in_wl (List.mem_of_getElem? (i := 31) rfl) rfl
theorem wS_M_owed : Cond.selects "KissClearingModel" ⟨"KissClearingModel", "owed", "(II)I"⟩ ⟨"KissClearingModel", "owed", "(II)I"⟩ ∈ wl := in_wl (List.mem_of_getElem? (i := 32) rfl) rfl
theorem wS_M_reserve : Cond.selects "KissClearingModel" ⟨"KissClearingModel", "reserve", "(I)I"⟩ ⟨"KissClearingModel", "reserve", "(I)I"⟩ ∈ wl := in_wl (List.mem_of_getElem? (i := 33) rfl) rfl
theorem wS_M_owesTo : Cond.selects "KissClearingModel" ⟨"KissClearingModel", "owesTo", "(I)I"⟩ ⟨"KissClearingModel", "owesTo", "(I)I"⟩ ∈ wl := in_wl (List.mem_of_getElem? (i := 34) rfl) rfl
theorem wS_M_isOpen : Cond.selects "KissClearingModel" ⟨"KissClearingModel", "isOpen", "(I)Z"⟩ ⟨"KissClearingModel", "isOpen", "(I)Z"⟩ ∈ wl := in_wl (List.mem_of_getElem? (i := 35) rfl) rfl
theorem wS_M_isDraft : Cond.selects "KissClearingModel" ⟨"KissClearingModel", "isDraft", "(I)Z"⟩ ⟨"KissClearingModel", "isDraft", "(I)Z"⟩ ∈ wl := in_wl (List.mem_of_getElem? (i := 36) rfl) rfl
theorem wS_M_isOf : Cond.selects "KissClearingModel" ⟨"KissClearingModel", "isOf", "(II)Z"⟩ ⟨"KissClearingModel", "isOf", "(II)Z"⟩ ∈ wl := in_wl (List.mem_of_getElem? (i := 37) rfl) rfl
theorem wS_M_openTo : Cond.selects "KissClearingModel" ⟨"KissClearingModel", "openTo", "(I)I"⟩ ⟨"KissClearingModel", "openTo", "(I)I"⟩ ∈ wl := in_wl (List.mem_of_getElem? (i := 38) rfl) rfl
theorem wS_M_growth : Cond.selects "KissClearingModel" ⟨"KissClearingModel", "growth", "(I)I"⟩ ⟨"KissClearingModel", "growth", "(I)I"⟩ ∈ wl := in_wl (List.mem_of_getElem? (i := 39) rfl) rfl
theorem wS_M_openOn : Cond.selects "KissClearingModel" ⟨"KissClearingModel", "openOn", "(I)I"⟩ ⟨"KissClearingModel", "openOn", "(I)I"⟩ ∈ wl := in_wl (List.mem_of_getElem? (i := 40) rfl) rfl
theorem wS_M_souring : Cond.selects "KissClearingModel" ⟨"KissClearingModel", "souring", "(I)I"⟩ ⟨"KissClearingModel", "souring", "(I)I"⟩ ∈ wl := in_wl (List.mem_of_getElem? (i := 41) rfl) rfl
theorem wS_M_ringsOf : Cond.selects "KissClearingModel" ⟨"KissClearingModel", "ringsOf", "(II)I"⟩ ⟨"KissClearingModel", "ringsOf", "(II)I"⟩ ∈ wl := in_wl (List.mem_of_getElem? (i := 42) rfl) rfl
theorem wS_M_beginRings : Cond.selects "KissClearingModel" ⟨"KissClearingModel", "beginRings", "(I)V"⟩ ⟨"KissClearingModel", "beginRings", "(I)V"⟩ ∈ wl := in_wl (List.mem_of_getElem? (i := 43) rfl) rfl
theorem wS_M_nextRing : Cond.selects "KissClearingModel" ⟨"KissClearingModel", "nextRing", "()Z"⟩ ⟨"KissClearingModel", "nextRing", "()Z"⟩ ∈ wl := in_wl (List.mem_of_getElem? (i := 44) rfl) rfl
theorem wS_M_following : Cond.selects "KissClearingModel" ⟨"KissClearingModel", "following", "(I)I"⟩ ⟨"KissClearingModel", "following", "(I)I"⟩ ∈ wl := in_wl (List.mem_of_getElem? (i := 45) rfl) rfl
theorem wS_M_follows : Cond.selects "KissClearingModel" ⟨"KissClearingModel", "follows", "(I)Z"⟩ ⟨"KissClearingModel", "follows", "(I)Z"⟩ ∈ wl := in_wl (List.mem_of_getElem? (i := 46) rfl) rfl
theorem wS_M_closes : Cond.selects "KissClearingModel" ⟨"KissClearingModel", "closes", "()Z"⟩ ⟨"KissClearingModel", "closes", "()Z"⟩ ∈ wl := in_wl (List.mem_of_getElem? (i := 47) rfl) rfl
theorem wS_M_areTwo : Cond.selects "KissClearingModel" ⟨"KissClearingModel", "areTwo", "(II)Z"⟩ ⟨"KissClearingModel", "areTwo", "(II)Z"⟩ ∈ wl := in_wl (List.mem_of_getElem? (i := 48) rfl) rfl
theorem wS_M_isFull : Cond.selects "KissClearingModel" ⟨"KissClearingModel", "isFull", "()Z"⟩ ⟨"KissClearingModel", "isFull", "()Z"⟩ ∈ wl := in_wl (List.mem_of_getElem? (i := 49) rfl) rfl
theorem wS_M_keepPast : Cond.selects "KissClearingModel" ⟨"KissClearingModel", "keepPast", "()V"⟩ ⟨"KissClearingModel", "keepPast", "()V"⟩ ∈ wl := in_wl (List.mem_of_getElem? (i := 50) rfl) rfl
theorem wS_M_netted : Cond.selects "KissClearingModel" ⟨"KissClearingModel", "netted", "(III)I"⟩ ⟨"KissClearingModel", "netted", "(III)I"⟩ ∈ wl := in_wl (List.mem_of_getElem? (i := 51) rfl) rfl
theorem wS_M_sumOf : Cond.selects "KissClearingModel" ⟨"KissClearingModel", "sumOf", "(III)I"⟩ ⟨"KissClearingModel", "sumOf", "(III)I"⟩ ∈ wl := in_wl (List.mem_of_getElem? (i := 52) rfl) rfl
theorem wS_M_isOn : Cond.selects "KissClearingModel" ⟨"KissClearingModel", "isOn", "(III)Z"⟩ ⟨"KissClearingModel", "isOn", "(III)Z"⟩ ∈ wl := in_wl (List.mem_of_getElem? (i := 53) rfl) rfl
theorem wS_M_doMeet : Cond.selects "KissClearingModel" ⟨"KissClearingModel", "doMeet", "(II)I"⟩ ⟨"KissClearingModel", "doMeet", "(II)I"⟩ ∈ wl := in_wl (List.mem_of_getElem? (i := 54) rfl) rfl
theorem wS_M_given : Cond.selects "KissClearingModel" ⟨"KissClearingModel", "given", "(II)I"⟩ ⟨"KissClearingModel", "given", "(II)I"⟩ ∈ wl := in_wl (List.mem_of_getElem? (i := 55) rfl) rfl
theorem wS_M_lessen : Cond.selects "KissClearingModel" ⟨"KissClearingModel", "lessen", "(IIII)V"⟩ ⟨"KissClearingModel", "lessen", "(IIII)V"⟩ ∈ wl := in_wl (List.mem_of_getElem? (i := 56) rfl) rfl
theorem wS_M_leave : Cond.selects "KissClearingModel" ⟨"KissClearingModel", "leave", "(II)V"⟩ ⟨"KissClearingModel", "leave", "(II)V"⟩ ∈ wl := in_wl (List.mem_of_getElem? (i := 57) rfl) rfl
theorem wS_M_areDrafts : Cond.selects "KissClearingModel" ⟨"KissClearingModel", "areDrafts", "(I)Z"⟩ ⟨"KissClearingModel", "areDrafts", "(I)Z"⟩ ∈ wl := in_wl (List.mem_of_getElem? (i := 58) rfl) rfl
theorem wS_M_isRing : Cond.selects "KissClearingModel" ⟨"KissClearingModel", "isRing", "(I)Z"⟩ ⟨"KissClearingModel", "isRing", "(I)Z"⟩ ∈ wl := in_wl (List.mem_of_getElem? (i := 59) rfl) rfl
theorem wS_M_copyVillage : Cond.selects "KissClearingModel" ⟨"KissClearingModel", "copyVillage", "(II)V"⟩ ⟨"KissClearingModel", "copyVillage", "(II)V"⟩ ∈ wl := in_wl (List.mem_of_getElem? (i := 60) rfl) rfl
theorem wS_M_leastOfRing : Cond.selects "KissClearingModel" ⟨"KissClearingModel", "leastOfRing", "()I"⟩ ⟨"KissClearingModel", "leastOfRing", "()I"⟩ ∈ wl := in_wl (List.mem_of_getElem? (i := 61) rfl) rfl
theorem wS_M_layBest : Cond.selects "KissClearingModel" ⟨"KissClearingModel", "layBest", "()Z"⟩ ⟨"KissClearingModel", "layBest", "()Z"⟩ ∈ wl := in_wl (List.mem_of_getElem? (i := 62) rfl) rfl
theorem wS_M_fallen : Cond.selects "KissClearingModel" ⟨"KissClearingModel", "fallen", "(III)I"⟩ ⟨"KissClearingModel", "fallen", "(III)I"⟩ ∈ wl := in_wl (List.mem_of_getElem? (i := 63) rfl) rfl
theorem wS_M_layPairs : Cond.selects "KissClearingModel" ⟨"KissClearingModel", "layPairs", "()V"⟩ ⟨"KissClearingModel", "layPairs", "()V"⟩ ∈ wl := in_wl (List.mem_of_getElem? (i := 64) rfl) rfl
theorem wS_M_isOpenBetween : Cond.selects "KissClearingModel" ⟨"KissClearingModel", "isOpenBetween", "(II)Z"⟩ ⟨"KissClearingModel", "isOpenBetween", "(II)Z"⟩ ∈ wl := in_wl (List.mem_of_getElem? (i := 65) rfl) rfl
theorem wS_M_canMeet : Cond.selects "KissClearingModel" ⟨"KissClearingModel", "canMeet", "(I)Z"⟩ ⟨"KissClearingModel", "canMeet", "(I)Z"⟩ ∈ wl := in_wl (List.mem_of_getElem? (i := 66) rfl) rfl
theorem wS_M_isBusy : Cond.selects "KissClearingModel" ⟨"KissClearingModel", "isBusy", "(I)Z"⟩ ⟨"KissClearingModel", "isBusy", "(I)Z"⟩ ∈ wl := in_wl (List.mem_of_getElem? (i := 67) rfl) rfl
theorem wS_M_areRates : Cond.selects "KissClearingModel" ⟨"KissClearingModel", "areRates", "(I)Z"⟩ ⟨"KissClearingModel", "areRates", "(I)Z"⟩ ∈ wl := in_wl (List.mem_of_getElem? (i := 68) rfl) rfl
theorem wS_M_rate : Cond.selects "KissClearingModel" ⟨"KissClearingModel", "rate", "(II)J"⟩ ⟨"KissClearingModel", "rate", "(II)J"⟩ ∈ wl := in_wl (List.mem_of_getElem? (i := 69) rfl) rfl
theorem wS_M_layBlushes : Cond.selects "KissClearingModel" ⟨"KissClearingModel", "layBlushes", "(I)I"⟩ ⟨"KissClearingModel", "layBlushes", "(I)I"⟩ ∈ wl := in_wl (List.mem_of_getElem? (i := 70) rfl) rfl
theorem wS_M_areOpen : Cond.selects "KissClearingModel" ⟨"KissClearingModel", "areOpen", "(I)Z"⟩ ⟨"KissClearingModel", "areOpen", "(I)Z"⟩ ∈ wl := in_wl (List.mem_of_getElem? (i := 71) rfl) rfl
theorem wS_M_fits : Cond.selects "KissClearingModel" ⟨"KissClearingModel", "fits", "(II)Z"⟩ ⟨"KissClearingModel", "fits", "(II)Z"⟩ ∈ wl := in_wl (List.mem_of_getElem? (i := 72) rfl) rfl
theorem wS_M_countOf : Cond.selects "KissClearingModel" ⟨"KissClearingModel", "countOf", "(I)I"⟩ ⟨"KissClearingModel", "countOf", "(I)I"⟩ ∈ wl := in_wl (List.mem_of_getElem? (i := 73) rfl) rfl
theorem wS_M_openMany : Cond.selects "KissClearingModel" ⟨"KissClearingModel", "openMany", "()I"⟩ ⟨"KissClearingModel", "openMany", "()I"⟩ ∈ wl := in_wl (List.mem_of_getElem? (i := 74) rfl) rfl
theorem wS_M_openKisses : Cond.selects "KissClearingModel" ⟨"KissClearingModel", "openKisses", "()I"⟩ ⟨"KissClearingModel", "openKisses", "()I"⟩ ∈ wl := in_wl (List.mem_of_getElem? (i := 75) rfl) rfl
theorem wS_M_aunts : Cond.selects "KissClearingModel" ⟨"KissClearingModel", "aunts", "()I"⟩ ⟨"KissClearingModel", "aunts", "()I"⟩ ∈ wl := in_wl (List.mem_of_getElem? (i := 76) rfl) rfl
theorem wS_M_thereOf : Cond.selects "KissClearingModel" ⟨"KissClearingModel", "thereOf", "(I)I"⟩ ⟨"KissClearingModel", "thereOf", "(I)I"⟩ ∈ wl := in_wl (List.mem_of_getElem? (i := 77) rfl) rfl
theorem wC_K_init : Cond.code y_K_init b_K_init 2 none ∈ wl := in_wl (in_t1 (List.mem_of_getElem? (i := 18) rfl)) rfl
theorem wC_K_all : Cond.code y_K_all b_K_all 2 (some .int) ∈ wl := in_wl (in_t3 (List.mem_of_getElem? (i := 139) rfl)) rfl
theorem wC_K_asked : Cond.code y_K_asked b_K_asked 1 (some .int) ∈ wl := in_wl (in_t4 (List.mem_of_getElem? (i := 32) rfl)) rfl
theorem wC_K_at : Cond.code y_K_at b_K_at 4 (some .int) ∈ wl := in_wl (in_t2 (List.mem_of_getElem? (i := 54) rfl)) rfl
theorem wC_K_between : Cond.code y_K_between b_K_between 4 (some .int) ∈ wl := in_wl (in_t3 (List.mem_of_getElem? (i := 131) rfl)) rfl
theorem wC_K_blushes : Cond.code y_K_blushes b_K_blushes 3 (some .int) ∈ wl := in_wl (in_t3 (List.mem_of_getElem? (i := 232) rfl)) rfl
theorem wC_K_blushesRefused : Cond.code y_K_blushesRefused b_K_blushesRefused 2 (some .int) ∈ wl := in_wl (in_t3 (List.mem_of_getElem? (i := 236) rfl)) rfl
theorem wC_K_clear : Cond.code y_K_clear b_K_clear 4 (some .int) ∈ wl := in_wl (in_t3 (List.mem_of_getElem? (i := 69) rfl)) rfl
theorem wC_K_copy : Cond.code y_K_copy b_K_copy 6 (some .int) ∈ wl := in_wl (in_t2 (List.mem_of_getElem? (i := 63) rfl)) rfl
theorem wC_K_count : Cond.code y_K_count b_K_count 2 (some .int) ∈ wl := in_wl (in_t4 (List.mem_of_getElem? (i := 44) rfl)) rfl
theorem wC_K_digest : Cond.code y_K_digest b_K_digest 5 (some .long) ∈ wl := in_wl (in_t4 (List.mem_of_getElem? (i := 75) rfl)) rfl
theorem wC_K_draft : Cond.code y_K_draft b_K_draft 3 (some .int) ∈ wl := in_wl (in_t2 (List.mem_of_getElem? (i := 197) rfl)) rfl
theorem wC_K_endorse : Cond.code y_K_endorse b_K_endorse 4 (some .int) ∈ wl := in_wl (in_t3 (List.mem_of_getElem? (i := 84) rfl)) rfl
theorem wC_K_falls : Cond.code y_K_falls b_K_falls 2 (some .int) ∈ wl := in_wl (in_t3 (List.mem_of_getElem? (i := 166) rfl)) rfl
theorem wC_K_fault : Cond.code y_K_fault b_K_fault 2 (some .int) ∈ wl := in_wl (in_t2 (List.mem_of_getElem? (i := 89) rfl)) rfl
theorem wC_K_finding : Cond.code y_K_finding b_K_finding 1 (some .int) ∈ wl := in_wl (in_t4 (List.mem_of_getElem? (i := 67) rfl)) rfl
theorem wC_K_findings : Cond.code y_K_findings b_K_findings 2 (some .int) ∈ wl := in_wl (in_t4 (List.mem_of_getElem? (i := 71) rfl)) rfl
theorem wC_K_firstGain : Cond.code y_K_firstGain b_K_firstGain 1 (some .int) ∈ wl := in_wl (in_t3 (List.mem_of_getElem? (i := 222) rfl)) rfl
theorem wC_K_gain : Cond.code y_K_gain b_K_gain 4 (some .int) ∈ wl := in_wl (in_t3 (List.mem_of_getElem? (i := 219) rfl)) rfl
theorem wC_K_greatestCommon : Cond.code y_K_greatestCommon b_K_greatestCommon 3 (some .int) ∈ wl := in_wl (in_t4 (List.mem_of_getElem? (i := 20) rfl)) rfl
theorem wC_K_howMany : Cond.code y_K_howMany b_K_howMany 2 (some .int) ∈ wl := in_wl (in_t4 (List.mem_of_getElem? (i := 48) rfl)) rfl
theorem wC_K_isKeptPlace : Cond.code y_K_isKeptPlace b_K_isKeptPlace 1 (some .boolean) ∈ wl := in_wl (in_t3 (List.mem_of_getElem? (i := 117) rfl)) rfl
theorem wC_K_isRingSort : Cond.code y_K_isRingSort b_K_isRingSort 1 (some .boolean) ∈ wl := in_wl (in_t3 (List.mem_of_getElem? (i := 142) rfl)) rfl
theorem wC_K_isRow : Cond.code y_K_isRow b_K_isRow 1 (some .boolean) ∈ wl := in_wl (in_t2 (List.mem_of_getElem? (i := 22) rfl)) rfl
theorem wC_K_isSort : Cond.code y_K_isSort b_K_isSort 1 (some .boolean) ∈ wl := in_wl (in_t3 (List.mem_of_getElem? (i := 134) rfl)) rfl
theorem wC_K_isText : Cond.code y_K_isText b_K_isText 1 (some .boolean) ∈ wl := in_wl (in_t2 (List.mem_of_getElem? (i := 81) rfl)) rfl
theorem wC_K_keep : Cond.code y_K_keep b_K_keep 2 (some .int) ∈ wl := in_wl (in_t3 (List.mem_of_getElem? (i := 114) rfl)) rfl
theorem wC_K_keptVillages : Cond.code y_K_keptVillages b_K_keptVillages 3 (some .int) ∈ wl := in_wl (in_t4 (List.mem_of_getElem? (i := 63) rfl)) rfl
theorem wC_K_lay : Cond.code y_K_lay b_K_lay 6 (some .int) ∈ wl := in_wl (in_t2 (List.mem_of_getElem? (i := 34) rfl)) rfl
theorem wC_K_left : Cond.code y_K_left b_K_left 3 (some .int) ∈ wl := in_wl (in_t3 (List.mem_of_getElem? (i := 158) rfl)) rfl
theorem wC_K_lots : Cond.code y_K_lots b_K_lots 10 (some .int) ∈ wl := in_wl (in_t4 (List.mem_of_getElem? (i := 25) rfl)) rfl
theorem wC_K_lower : Cond.code y_K_lower b_K_lower 1 (some .long) ∈ wl := in_wl (in_t4 (List.mem_of_getElem? (i := 40) rfl)) rfl
theorem wC_K_mark : Cond.code y_K_mark b_K_mark 3 (some .int) ∈ wl := in_wl (in_t2 (List.mem_of_getElem? (i := 209) rfl)) rfl
theorem wC_K_mean : Cond.code y_K_mean b_K_mean 6 (some .int) ∈ wl := in_wl (in_t2 (List.mem_of_getElem? (i := 74) rfl)) rfl
theorem wC_K_meet : Cond.code y_K_meet b_K_meet 3 (some .int) ∈ wl := in_wl (in_t3 (List.mem_of_getElem? (i := 47) rfl)) rfl
theorem wC_K_mistletoe : Cond.code y_K_mistletoe b_K_mistletoe 5 (some .int) ∈ wl := in_wl (in_t3 (List.mem_of_getElem? (i := 211) rfl)) rfl
theorem wC_K_net : Cond.code y_K_net b_K_net 4 (some .int) ∈ wl := in_wl (in_t3 (List.mem_of_getElem? (i := 150) rfl)) rfl
theorem wC_K_odds : Cond.code y_K_odds b_K_odds 3 (some .int) ∈ wl := in_wl (in_t4 (List.mem_of_getElem? (i := 17) rfl)) rfl
theorem wC_K_ofDraft : Cond.code y_K_ofDraft b_K_ofDraft 4 (some .int) ∈ wl := in_wl (in_t2 (List.mem_of_getElem? (i := 205) rfl)) rfl
theorem wC_K_ofPerson : Cond.code y_K_ofPerson b_K_ofPerson 3 (some .int) ∈ wl := in_wl (in_t2 (List.mem_of_getElem? (i := 156) rfl)) rfl
theorem wC_K_on : Cond.code y_K_on b_K_on 2 (some .int) ∈ wl := in_wl (in_t3 (List.mem_of_getElem? (i := 127) rfl)) rfl
theorem wC_K_owe : Cond.code y_K_owe b_K_owe 6 (some .int) ∈ wl := in_wl (in_t3 (List.mem_of_getElem? (i := 24) rfl)) rfl
theorem wC_K_pairs : Cond.code y_K_pairs b_K_pairs 3 (some .int) ∈ wl := in_wl (in_t3 (List.mem_of_getElem? (i := 185) rfl)) rfl
theorem wC_K_person : Cond.code y_K_person b_K_person 3 (some .int) ∈ wl := in_wl (in_t2 (List.mem_of_getElem? (i := 151) rfl)) rfl
theorem wC_K_put : Cond.code y_K_put b_K_put 6 (some .int) ∈ wl := in_wl (in_t2 (List.mem_of_getElem? (i := 85) rfl)) rfl
theorem wC_K_refuse : Cond.code y_K_refuse b_K_refuse 2 (some .int) ∈ wl := in_wl (in_t2 (List.mem_of_getElem? (i := 26) rfl)) rfl
theorem wC_K_ring : Cond.code y_K_ring b_K_ring 3 (some .int) ∈ wl := in_wl (in_t3 (List.mem_of_getElem? (i := 146) rfl)) rfl
theorem wC_K_ringsThrough : Cond.code y_K_ringsThrough b_K_ringsThrough 3 (some .int) ∈ wl := in_wl (in_t3 (List.mem_of_getElem? (i := 0) rfl)) rfl
theorem wC_K_rounds : Cond.code y_K_rounds b_K_rounds 1 (some .int) ∈ wl := in_wl (in_t3 (List.mem_of_getElem? (i := 194) rfl)) rfl
theorem wC_K_row : Cond.code y_K_row b_K_row 3 (some .int) ∈ wl := in_wl (in_t2 (List.mem_of_getElem? (i := 19) rfl)) rfl
theorem wC_K_saved : Cond.code y_K_saved b_K_saved 5 (some .int) ∈ wl := in_wl (in_t3 (List.mem_of_getElem? (i := 181) rfl)) rfl
theorem wC_K_sure : Cond.code y_K_sure b_K_sure 3 (some .int) ∈ wl := in_wl (in_t4 (List.mem_of_getElem? (i := 13) rfl)) rfl
theorem wC_K_tear : Cond.code y_K_tear b_K_tear 2 (some .int) ∈ wl := in_wl (in_t2 (List.mem_of_getElem? (i := 58) rfl)) rfl
theorem wC_K_tell : Cond.code y_K_tell b_K_tell 2 (some .int) ∈ wl := in_wl (in_t2 (List.mem_of_getElem? (i := 50) rfl)) rfl
theorem wC_K_text : Cond.code y_K_text b_K_text 3 (some .int) ∈ wl := in_wl (in_t2 (List.mem_of_getElem? (i := 78) rfl)) rfl
theorem wC_K_thoseThere : Cond.code y_K_thoseThere b_K_thoseThere 3 (some .int) ∈ wl := in_wl (in_t4 (List.mem_of_getElem? (i := 59) rfl)) rfl
theorem wC_K_trust : Cond.code y_K_trust b_K_trust 5 (some .int) ∈ wl := in_wl (in_t3 (List.mem_of_getElem? (i := 228) rfl)) rfl
theorem wC_K_undo : Cond.code y_K_undo b_K_undo 3 (some .int) ∈ wl := in_wl (in_t3 (List.mem_of_getElem? (i := 102) rfl)) rfl
theorem wC_K_upper : Cond.code y_K_upper b_K_upper 1 (some .long) ∈ wl := in_wl (in_t4 (List.mem_of_getElem? (i := 36) rfl)) rfl
theorem wC_K_village : Cond.code y_K_village b_K_village 3 (some .int) ∈ wl := in_wl (in_t2 (List.mem_of_getElem? (i := 138) rfl)) rfl
theorem wC_K_week : Cond.code y_K_week b_K_week 1 (some .int) ∈ wl := in_wl (in_t3 (List.mem_of_getElem? (i := 89) rfl)) rfl
theorem wC_K_worst : Cond.code y_K_worst b_K_worst 5 (some .int) ∈ wl := in_wl (in_t3 (List.mem_of_getElem? (i := 177) rfl)) rfl
theorem wC_B_init : Cond.code y_B_init b_B_init 1 none ∈ wl := in_wl (in_t1 (List.mem_of_getElem? (i := 179) rfl)) rfl
theorem wC_B_choose : Cond.code y_B_choose b_B_choose 6 none ∈ wl := in_wl (in_t4 (List.mem_of_getElem? (i := 4) rfl)) rfl
theorem wC_B_search : Cond.code y_B_search b_B_search 4 none ∈ wl := in_wl (in_t4 (List.mem_of_getElem? (i := 0) rfl)) rfl
theorem wC_B_takeIfFitting : Cond.code y_B_takeIfFitting b_B_takeIfFitting 4 none ∈ wl := in_wl (in_t4 (List.mem_of_getElem? (i := 8) rfl)) rfl
theorem wC_D_init : Cond.code y_D_init b_D_init 1 none ∈ wl := in_wl (in_t1 (List.mem_of_getElem? (i := 35) rfl)) rfl
theorem wC_D_become : Cond.code y_D_become b_D_become 5 none ∈ wl := in_wl (in_t2 (List.mem_of_getElem? (i := 125) rfl)) rfl
theorem wC_D_becomeLike : Cond.code y_D_becomeLike b_D_becomeLike 2 none ∈ wl := in_wl (in_t2 (List.mem_of_getElem? (i := 146) rfl)) rfl
theorem wC_D_isOpen : Cond.code y_D_isOpen b_D_isOpen 1 (some .boolean) ∈ wl := in_wl (in_t2 (List.mem_of_getElem? (i := 187) rfl)) rfl
theorem wC_D_isOpenOf : Cond.code y_D_isOpenOf b_D_isOpenOf 2 (some .boolean) ∈ wl := in_wl (in_t3 (List.mem_of_getElem? (i := 8) rfl)) rfl
theorem wC_D_packed : Cond.code y_D_packed b_D_packed 1 (some .int) ∈ wl := in_wl (in_t3 (List.mem_of_getElem? (i := 42) rfl)) rfl
theorem wC_D_unpack : Cond.code y_D_unpack b_D_unpack 2 none ∈ wl := in_wl (in_t3 (List.mem_of_getElem? (i := 110) rfl)) rfl
theorem wC_D_worth : Cond.code y_D_worth b_D_worth 1 (some .int) ∈ wl := in_wl (in_t2 (List.mem_of_getElem? (i := 168) rfl)) rfl
theorem wC_H_init : Cond.code y_H_init b_H_init 1 none ∈ wl := in_wl (in_t1 (List.mem_of_getElem? (i := 105) rfl)) rfl
theorem wC_H_becomeLike : Cond.code y_H_becomeLike b_H_becomeLike 2 none ∈ wl := in_wl (in_t3 (List.mem_of_getElem? (i := 122) rfl)) rfl
theorem wC_H_begin : Cond.code y_H_begin b_H_begin 2 none ∈ wl := in_wl (in_t3 (List.mem_of_getElem? (i := 33) rfl)) rfl
theorem wC_H_goBack : Cond.code y_H_goBack b_H_goBack 4 none ∈ wl := in_wl (in_t3 (List.mem_of_getElem? (i := 106) rfl)) rfl
theorem wC_H_isFullFor : Cond.code y_H_isFullFor b_H_isFullFor 2 (some .boolean) ∈ wl := in_wl (in_t3 (List.mem_of_getElem? (i := 29) rfl)) rfl
theorem wC_H_save : Cond.code y_H_save b_H_save 3 none ∈ wl := in_wl (in_t3 (List.mem_of_getElem? (i := 38) rfl)) rfl
theorem wC_R_faultOf : Cond.code y_R_faultOf b_R_faultOf 5 (some .int) ∈ wl := in_wl (in_t2 (List.mem_of_getElem? (i := 92) rfl)) rfl
theorem wC_R_numberOf : Cond.code y_R_numberOf b_R_numberOf 3 (some .int) ∈ wl := in_wl (in_t2 (List.mem_of_getElem? (i := 117) rfl)) rfl
theorem wC_R_readDraft : Cond.code y_R_readDraft b_R_readDraft 7 (some .int) ∈ wl := in_wl (in_t2 (List.mem_of_getElem? (i := 103) rfl)) rfl
theorem wC_R_readPerson : Cond.code y_R_readPerson b_R_readPerson 3 (some .boolean) ∈ wl := in_wl (in_t2 (List.mem_of_getElem? (i := 128) rfl)) rfl
theorem wC_R_signAt : Cond.code y_R_signAt b_R_signAt 2 (some .int) ∈ wl := in_wl (in_t2 (List.mem_of_getElem? (i := 99) rfl)) rfl
theorem wC_G_init : Cond.code y_G_init b_G_init 1 none ∈ wl := in_wl (in_t1 (List.mem_of_getElem? (i := 123) rfl)) rfl
theorem wC_G_extend : Cond.code y_G_extend b_G_extend 9 none ∈ wl := in_wl (in_t3 (List.mem_of_getElem? (i := 12) rfl)) rfl
theorem wC_G_search : Cond.code y_G_search b_G_search 5 none ∈ wl := in_wl (in_t3 (List.mem_of_getElem? (i := 4) rfl)) rfl
theorem wC_G_takeRing : Cond.code y_G_takeRing b_G_takeRing 5 none ∈ wl := in_wl (in_t3 (List.mem_of_getElem? (i := 16) rfl)) rfl
theorem wC_O_init : Cond.code y_O_init b_O_init 1 none ∈ wl := in_wl (in_t1 (List.mem_of_getElem? (i := 157) rfl)) rfl
theorem wC_O_fewest : Cond.code y_O_fewest b_O_fewest 3 (some .int) ∈ wl := in_wl (in_t3 (List.mem_of_getElem? (i := 198) rfl)) rfl
theorem wC_O_fit : Cond.code y_O_fit b_O_fit 8 (some .boolean) ∈ wl := in_wl (in_t3 (List.mem_of_getElem? (i := 207) rfl)) rfl
theorem wC_O_gather : Cond.code y_O_gather b_O_gather 6 none ∈ wl := in_wl (in_t3 (List.mem_of_getElem? (i := 189) rfl)) rfl
theorem wC_O_mostOfOne : Cond.code y_O_mostOfOne b_O_mostOfOne 5 (some .int) ∈ wl := in_wl (in_t3 (List.mem_of_getElem? (i := 202) rfl)) rfl
theorem wC_S_init : Cond.code y_S_init b_S_init 2 none ∈ wl := in_wl (in_t1 (List.mem_of_getElem? (i := 200) rfl)) rfl
theorem wC_S_findingAt : Cond.code y_S_findingAt b_S_findingAt 2 (some .int) ∈ wl := in_wl (in_t2 (List.mem_of_getElem? (i := 38) rfl)) rfl
theorem wC_S_hasPlace : Cond.code y_S_hasPlace b_S_hasPlace 2 (some .boolean) ∈ wl := in_wl (in_t2 (List.mem_of_getElem? (i := 46) rfl)) rfl
theorem wC_S_hasStretch : Cond.code y_S_hasStretch b_S_hasStretch 3 (some .boolean) ∈ wl := in_wl (in_t2 (List.mem_of_getElem? (i := 67) rfl)) rfl
theorem wC_S_isMissing : Cond.code y_S_isMissing b_S_isMissing 1 (some .boolean) ∈ wl := in_wl (in_t2 (List.mem_of_getElem? (i := 42) rfl)) rfl
theorem wC_S_mixedInto : Cond.code y_S_mixedInto b_S_mixedInto 6 (some .long) ∈ wl := in_wl (in_t4 (List.mem_of_getElem? (i := 81) rfl)) rfl
theorem wC_S_renew : Cond.code y_S_renew b_S_renew 4 none ∈ wl := in_wl (in_t2 (List.mem_of_getElem? (i := 30) rfl)) rfl
theorem wC_V_init : Cond.code y_V_init b_V_init 2 none ∈ wl := in_wl (in_t1 (List.mem_of_getElem? (i := 28) rfl)) rfl
theorem wC_V_addDraft : Cond.code y_V_addDraft b_V_addDraft 5 none ∈ wl := in_wl (in_t2 (List.mem_of_getElem? (i := 121) rfl)) rfl
theorem wC_V_addPerson : Cond.code y_V_addPerson b_V_addPerson 2 none ∈ wl := in_wl (in_t2 (List.mem_of_getElem? (i := 134) rfl)) rfl
theorem wC_V_becomeEmpty : Cond.code y_V_becomeEmpty b_V_becomeEmpty 1 none ∈ wl := in_wl (in_t2 (List.mem_of_getElem? (i := 96) rfl)) rfl
theorem wC_V_becomeLike : Cond.code y_V_becomeLike b_V_becomeLike 3 none ∈ wl := in_wl (in_t2 (List.mem_of_getElem? (i := 142) rfl)) rfl
theorem wC_V_clearRing : Cond.code y_V_clearRing b_V_clearRing 5 (some .int) ∈ wl := in_wl (in_t3 (List.mem_of_getElem? (i := 79) rfl)) rfl
theorem wC_V_clearedByHalving : Cond.code y_V_clearedByHalving b_V_clearedByHalving 4 (some .int) ∈ wl := in_wl (in_t3 (List.mem_of_getElem? (i := 215) rfl)) rfl
theorem wC_V_fallen : Cond.code y_V_fallen b_V_fallen 8 (some .int) ∈ wl := in_wl (in_t3 (List.mem_of_getElem? (i := 170) rfl)) rfl
theorem wC_V_growthFor : Cond.code y_V_growthFor b_V_growthFor 2 (some .int) ∈ wl := in_wl (in_t2 (List.mem_of_getElem? (i := 223) rfl)) rfl
theorem wC_V_hasDraft : Cond.code y_V_hasDraft b_V_hasDraft 2 (some .boolean) ∈ wl := in_wl (in_t2 (List.mem_of_getElem? (i := 201) rfl)) rfl
theorem wC_V_hasPerson : Cond.code y_V_hasPerson b_V_hasPerson 2 (some .boolean) ∈ wl := in_wl (in_t2 (List.mem_of_getElem? (i := 107) rfl)) rfl
theorem wC_V_hasTwo : Cond.code y_V_hasTwo b_V_hasTwo 3 (some .boolean) ∈ wl := in_wl (in_t2 (List.mem_of_getElem? (i := 111) rfl)) rfl
theorem wC_V_isEmpty : Cond.code y_V_isEmpty b_V_isEmpty 1 (some .boolean) ∈ wl := in_wl (in_t3 (List.mem_of_getElem? (i := 93) rfl)) rfl
theorem wC_V_isOfKind : Cond.code y_V_isOfKind b_V_isOfKind 5 (some .boolean) ∈ wl := in_wl (in_t2 (List.mem_of_getElem? (i := 213) rfl)) rfl
theorem wC_V_isRing : Cond.code y_V_isRing b_V_isRing 8 (some .boolean) ∈ wl := in_wl (in_t3 (List.mem_of_getElem? (i := 73) rfl)) rfl
theorem wC_V_kindOf : Cond.code y_V_kindOf b_V_kindOf 2 (some .int) ∈ wl := in_wl (in_t2 (List.mem_of_getElem? (i := 160) rfl)) rfl
theorem wC_V_kissesBetween : Cond.code y_V_kissesBetween b_V_kissesBetween 6 (some .int) ∈ wl := in_wl (in_t3 (List.mem_of_getElem? (i := 55) rfl)) rfl
theorem wC_V_kissesOfSort : Cond.code y_V_kissesOfSort b_V_kissesOfSort 4 (some .int) ∈ wl := in_wl (in_t3 (List.mem_of_getElem? (i := 162) rfl)) rfl
theorem wC_V_lessen : Cond.code y_V_lessen b_V_lessen 9 none ∈ wl := in_wl (in_t3 (List.mem_of_getElem? (i := 60) rfl)) rfl
theorem wC_V_netOwing : Cond.code y_V_netOwing b_V_netOwing 5 (some .int) ∈ wl := in_wl (in_t3 (List.mem_of_getElem? (i := 154) rfl)) rfl
theorem wC_V_netTwo : Cond.code y_V_netTwo b_V_netTwo 6 (some .int) ∈ wl := in_wl (in_t3 (List.mem_of_getElem? (i := 51) rfl)) rfl
theorem wC_V_openDrafts : Cond.code y_V_openDrafts b_V_openDrafts 3 (some .int) ∈ wl := in_wl (in_t4 (List.mem_of_getElem? (i := 52) rfl)) rfl
theorem wC_V_openOn : Cond.code y_V_openOn b_V_openOn 4 (some .int) ∈ wl := in_wl (in_t2 (List.mem_of_getElem? (i := 229) rfl)) rfl
theorem wC_V_openOwedTo : Cond.code y_V_openOwedTo b_V_openOwedTo 4 (some .int) ∈ wl := in_wl (in_t2 (List.mem_of_getElem? (i := 219) rfl)) rfl
theorem wC_V_owed : Cond.code y_V_owed b_V_owed 5 (some .int) ∈ wl := in_wl (in_t2 (List.mem_of_getElem? (i := 172) rfl)) rfl
theorem wC_V_owedByAny : Cond.code y_V_owedByAny b_V_owedByAny 4 (some .int) ∈ wl := in_wl (in_t2 (List.mem_of_getElem? (i := 183) rfl)) rfl
theorem wC_V_owing : Cond.code y_V_owing b_V_owing 4 (some .int) ∈ wl := in_wl (in_t2 (List.mem_of_getElem? (i := 164) rfl)) rfl
theorem wC_V_passWeek : Cond.code y_V_passWeek b_V_passWeek 4 (some .int) ∈ wl := in_wl (in_t3 (List.mem_of_getElem? (i := 97) rfl)) rfl
theorem wC_V_payTwo : Cond.code y_V_payTwo b_V_payTwo 7 (some .int) ∈ wl := in_wl (in_t3 (List.mem_of_getElem? (i := 64) rfl)) rfl
theorem wC_V_personsOfKind : Cond.code y_V_personsOfKind b_V_personsOfKind 4 (some .int) ∈ wl := in_wl (in_t4 (List.mem_of_getElem? (i := 56) rfl)) rfl
theorem wC_V_reserve : Cond.code y_V_reserve b_V_reserve 2 (some .int) ∈ wl := in_wl (in_t2 (List.mem_of_getElem? (i := 176) rfl)) rfl
theorem wC_V_souringFor : Cond.code y_V_souringFor b_V_souringFor 5 (some .int) ∈ wl := in_wl (in_t2 (List.mem_of_getElem? (i := 236) rfl)) rfl
theorem wC_M_init : Cond.code y_M_init b_M_init 2 none ∈ wl := in_wl (in_t4 (List.mem_of_getElem? (i := 87) rfl)) rfl
theorem wC_M_addDraft : Cond.code y_M_addDraft b_M_addDraft 6 none ∈ wl := in_wl (in_t5 (List.mem_of_getElem? (i := 44) rfl)) rfl
theorem wC_M_all : Cond.code y_M_all b_M_all 4 (some .int) ∈ wl := in_wl (in_t6 (List.mem_of_getElem? (i := 1) rfl)) rfl
theorem wC_M_areDrafts : Cond.code y_M_areDrafts b_M_areDrafts 4 (some .boolean) ∈ wl := in_wl (in_t5 (List.mem_of_getElem? (i := 205) rfl)) rfl
theorem wC_M_areOpen : Cond.code y_M_areOpen b_M_areOpen 4 (some .boolean) ∈ wl := in_wl (in_t6 (List.mem_of_getElem? (i := 96) rfl)) rfl
theorem wC_M_areRates : Cond.code y_M_areRates b_M_areRates 4 (some .boolean) ∈ wl := in_wl (in_t6 (List.mem_of_getElem? (i := 73) rfl)) rfl
theorem wC_M_areTwo : Cond.code y_M_areTwo b_M_areTwo 3 (some .boolean) ∈ wl := in_wl (in_t5 (List.mem_of_getElem? (i := 155) rfl)) rfl
theorem wC_M_asked : Cond.code y_M_asked b_M_asked 1 (some .int) ∈ wl := in_wl (in_t6 (List.mem_of_getElem? (i := 124) rfl)) rfl
theorem wC_M_at : Cond.code y_M_at b_M_at 4 (some .int) ∈ wl := in_wl (in_t4 (List.mem_of_getElem? (i := 217) rfl)) rfl
theorem wC_M_aunts : Cond.code y_M_aunts b_M_aunts 3 (some .int) ∈ wl := in_wl (in_t6 (List.mem_of_getElem? (i := 153) rfl)) rfl
theorem wC_M_beginRings : Cond.code y_M_beginRings b_M_beginRings 3 none ∈ wl := in_wl (in_t5 (List.mem_of_getElem? (i := 131) rfl)) rfl
theorem wC_M_between : Cond.code y_M_between b_M_between 4 (some .int) ∈ wl := in_wl (in_t5 (List.mem_of_getElem? (i := 237) rfl)) rfl
theorem wC_M_bits : Cond.code y_M_bits b_M_bits 3 (some .int) ∈ wl := in_wl (in_t5 (List.mem_of_getElem? (i := 91) rfl)) rfl
theorem wC_M_blushes : Cond.code y_M_blushes b_M_blushes 3 (some .int) ∈ wl := in_wl (in_t6 (List.mem_of_getElem? (i := 88) rfl)) rfl
theorem wC_M_canMeet : Cond.code y_M_canMeet b_M_canMeet 4 (some .boolean) ∈ wl := in_wl (in_t6 (List.mem_of_getElem? (i := 57) rfl)) rfl
theorem wC_M_clear : Cond.code y_M_clear b_M_clear 5 (some .int) ∈ wl := in_wl (in_t5 (List.mem_of_getElem? (i := 201) rfl)) rfl
theorem wC_M_closes : Cond.code y_M_closes b_M_closes 1 (some .boolean) ∈ wl := in_wl (in_t5 (List.mem_of_getElem? (i := 147) rfl)) rfl
theorem wC_M_copy : Cond.code y_M_copy b_M_copy 9 (some .int) ∈ wl := in_wl (in_t4 (List.mem_of_getElem? (i := 225) rfl)) rfl
theorem wC_M_copyVillage : Cond.code y_M_copyVillage b_M_copyVillage 4 none ∈ wl := in_wl (in_t5 (List.mem_of_getElem? (i := 229) rfl)) rfl
theorem wC_M_count : Cond.code y_M_count b_M_count 2 (some .int) ∈ wl := in_wl (in_t6 (List.mem_of_getElem? (i := 136) rfl)) rfl
theorem wC_M_countOf : Cond.code y_M_countOf b_M_countOf 2 (some .int) ∈ wl := in_wl (in_t6 (List.mem_of_getElem? (i := 141) rfl)) rfl
theorem wC_M_digest : Cond.code y_M_digest b_M_digest 5 (some .long) ∈ wl := in_wl (in_t6 (List.mem_of_getElem? (i := 172) rfl)) rfl
theorem wC_M_divisor : Cond.code y_M_divisor b_M_divisor 5 (some .int) ∈ wl := in_wl (in_t6 (List.mem_of_getElem? (i := 111) rfl)) rfl
theorem wC_M_doMeet : Cond.code y_M_doMeet b_M_doMeet 6 (some .int) ∈ wl := in_wl (in_t5 (List.mem_of_getElem? (i := 185) rfl)) rfl
theorem wC_M_draft : Cond.code y_M_draft b_M_draft 3 (some .int) ∈ wl := in_wl (in_t5 (List.mem_of_getElem? (i := 95) rfl)) rfl
theorem wC_M_endorse : Cond.code y_M_endorse b_M_endorse 3 (some .int) ∈ wl := in_wl (in_t5 (List.mem_of_getElem? (i := 213) rfl)) rfl
theorem wC_M_fallen : Cond.code y_M_fallen b_M_fallen 8 (some .int) ∈ wl := in_wl (in_t6 (List.mem_of_getElem? (i := 29) rfl)) rfl
theorem wC_M_falls : Cond.code y_M_falls b_M_falls 2 (some .int) ∈ wl := in_wl (in_t6 (List.mem_of_getElem? (i := 25) rfl)) rfl
theorem wC_M_fault : Cond.code y_M_fault b_M_fault 2 (some .int) ∈ wl := in_wl (in_t5 (List.mem_of_getElem? (i := 9) rfl)) rfl
theorem wC_M_faultOf : Cond.code y_M_faultOf b_M_faultOf 3 (some .int) ∈ wl := in_wl (in_t5 (List.mem_of_getElem? (i := 13) rfl)) rfl
theorem wC_M_figure : Cond.code y_M_figure b_M_figure 4 (some .int) ∈ wl := in_wl (in_t5 (List.mem_of_getElem? (i := 29) rfl)) rfl
theorem wC_M_find : Cond.code y_M_find b_M_find 2 (some .int) ∈ wl := in_wl (in_t4 (List.mem_of_getElem? (i := 197) rfl)) rfl
theorem wC_M_finding : Cond.code y_M_finding b_M_finding 1 (some .int) ∈ wl := in_wl (in_t6 (List.mem_of_getElem? (i := 164) rfl)) rfl
theorem wC_M_findings : Cond.code y_M_findings b_M_findings 2 (some .int) ∈ wl := in_wl (in_t6 (List.mem_of_getElem? (i := 168) rfl)) rfl
theorem wC_M_fits : Cond.code y_M_fits b_M_fits 7 (some .boolean) ∈ wl := in_wl (in_t6 (List.mem_of_getElem? (i := 100) rfl)) rfl
theorem wC_M_following : Cond.code y_M_following b_M_following 3 (some .int) ∈ wl := in_wl (in_t5 (List.mem_of_getElem? (i := 139) rfl)) rfl
theorem wC_M_follows : Cond.code y_M_follows b_M_follows 4 (some .boolean) ∈ wl := in_wl (in_t5 (List.mem_of_getElem? (i := 143) rfl)) rfl
theorem wC_M_gain : Cond.code y_M_gain b_M_gain 7 (some .int) ∈ wl := in_wl (in_t6 (List.mem_of_getElem? (i := 69) rfl)) rfl
theorem wC_M_given : Cond.code y_M_given b_M_given 6 (some .int) ∈ wl := in_wl (in_t5 (List.mem_of_getElem? (i := 189) rfl)) rfl
theorem wC_M_growth : Cond.code y_M_growth b_M_growth 2 (some .int) ∈ wl := in_wl (in_t5 (List.mem_of_getElem? (i := 115) rfl)) rfl
theorem wC_M_has : Cond.code y_M_has b_M_has 2 (some .boolean) ∈ wl := in_wl (in_t5 (List.mem_of_getElem? (i := 76) rfl)) rfl
theorem wC_M_here : Cond.code y_M_here b_M_here 1 (some .int) ∈ wl := in_wl (in_t5 (List.mem_of_getElem? (i := 21) rfl)) rfl
theorem wC_M_in : Cond.code y_M_in b_M_in 6 (some .boolean) ∈ wl := in_wl (in_t4 (List.mem_of_getElem? (i := 193) rfl)) rfl
theorem wC_M_isAunt : Cond.code y_M_isAunt b_M_isAunt 1 (some .boolean) ∈ wl := in_wl (in_t6 (List.mem_of_getElem? (i := 156) rfl)) rfl
theorem wC_M_isBusy : Cond.code y_M_isBusy b_M_isBusy 5 (some .boolean) ∈ wl := in_wl (in_t6 (List.mem_of_getElem? (i := 61) rfl)) rfl
theorem wC_M_isDraft : Cond.code y_M_isDraft b_M_isDraft 2 (some .boolean) ∈ wl := in_wl (in_t5 (List.mem_of_getElem? (i := 99) rfl)) rfl
theorem wC_M_isFull : Cond.code y_M_isFull b_M_isFull 1 (some .boolean) ∈ wl := in_wl (in_t5 (List.mem_of_getElem? (i := 161) rfl)) rfl
theorem wC_M_isOf : Cond.code y_M_isOf b_M_isOf 3 (some .boolean) ∈ wl := in_wl (in_t5 (List.mem_of_getElem? (i := 107) rfl)) rfl
theorem wC_M_isOn : Cond.code y_M_isOn b_M_isOn 4 (some .boolean) ∈ wl := in_wl (in_t5 (List.mem_of_getElem? (i := 181) rfl)) rfl
theorem wC_M_isOpen : Cond.code y_M_isOpen b_M_isOpen 2 (some .boolean) ∈ wl := in_wl (in_t5 (List.mem_of_getElem? (i := 88) rfl)) rfl
theorem wC_M_isOpenBetween : Cond.code y_M_isOpenBetween b_M_isOpenBetween 5 (some .boolean) ∈ wl := in_wl (in_t6 (List.mem_of_getElem? (i := 49) rfl)) rfl
theorem wC_M_isPerson : Cond.code y_M_isPerson b_M_isPerson 2 (some .boolean) ∈ wl := in_wl (in_t5 (List.mem_of_getElem? (i := 52) rfl)) rfl
theorem wC_M_isRing : Cond.code y_M_isRing b_M_isRing 8 (some .boolean) ∈ wl := in_wl (in_t5 (List.mem_of_getElem? (i := 209) rfl)) rfl
theorem wC_M_isRow : Cond.code y_M_isRow b_M_isRow 1 (some .boolean) ∈ wl := in_wl (in_t4 (List.mem_of_getElem? (i := 189) rfl)) rfl
theorem wC_M_isSpan : Cond.code y_M_isSpan b_M_isSpan 4 (some .boolean) ∈ wl := in_wl (in_t4 (List.mem_of_getElem? (i := 229) rfl)) rfl
theorem wC_M_isText : Cond.code y_M_isText b_M_isText 1 (some .boolean) ∈ wl := in_wl (in_t5 (List.mem_of_getElem? (i := 0) rfl)) rfl
theorem wC_M_keep : Cond.code y_M_keep b_M_keep 2 (some .int) ∈ wl := in_wl (in_t5 (List.mem_of_getElem? (i := 225) rfl)) rfl
theorem wC_M_keepPast : Cond.code y_M_keepPast b_M_keepPast 2 none ∈ wl := in_wl (in_t5 (List.mem_of_getElem? (i := 165) rfl)) rfl
theorem wC_M_kindOfLetter : Cond.code y_M_kindOfLetter b_M_kindOfLetter 1 (some .int) ∈ wl := in_wl (in_t5 (List.mem_of_getElem? (i := 36) rfl)) rfl
theorem wC_M_lay : Cond.code y_M_lay b_M_lay 6 (some .int) ∈ wl := in_wl (in_t4 (List.mem_of_getElem? (i := 205) rfl)) rfl
theorem wC_M_layBest : Cond.code y_M_layBest b_M_layBest 4 (some .boolean) ∈ wl := in_wl (in_t6 (List.mem_of_getElem? (i := 13) rfl)) rfl
theorem wC_M_layBlushes : Cond.code y_M_layBlushes b_M_layBlushes 3 (some .int) ∈ wl := in_wl (in_t6 (List.mem_of_getElem? (i := 92) rfl)) rfl
theorem wC_M_layPairs : Cond.code y_M_layPairs b_M_layPairs 3 none ∈ wl := in_wl (in_t6 (List.mem_of_getElem? (i := 45) rfl)) rfl
theorem wC_M_leastOfRing : Cond.code y_M_leastOfRing b_M_leastOfRing 3 (some .int) ∈ wl := in_wl (in_t6 (List.mem_of_getElem? (i := 5) rfl)) rfl
theorem wC_M_leave : Cond.code y_M_leave b_M_leave 3 none ∈ wl := in_wl (in_t5 (List.mem_of_getElem? (i := 197) rfl)) rfl
theorem wC_M_left : Cond.code y_M_left b_M_left 4 (some .int) ∈ wl := in_wl (in_t6 (List.mem_of_getElem? (i := 21) rfl)) rfl
theorem wC_M_lessen : Cond.code y_M_lessen b_M_lessen 8 none ∈ wl := in_wl (in_t5 (List.mem_of_getElem? (i := 193) rfl)) rfl
theorem wC_M_lots : Cond.code y_M_lots b_M_lots 9 (some .int) ∈ wl := in_wl (in_t6 (List.mem_of_getElem? (i := 115) rfl)) rfl
theorem wC_M_lower : Cond.code y_M_lower b_M_lower 1 (some .long) ∈ wl := in_wl (in_t6 (List.mem_of_getElem? (i := 132) rfl)) rfl
theorem wC_M_makeRow : Cond.code y_M_makeRow b_M_makeRow 4 none ∈ wl := in_wl (in_t4 (List.mem_of_getElem? (i := 201) rfl)) rfl
theorem wC_M_mark : Cond.code y_M_mark b_M_mark 4 (some .int) ∈ wl := in_wl (in_t5 (List.mem_of_getElem? (i := 103) rfl)) rfl
theorem wC_M_mean : Cond.code y_M_mean b_M_mean 5 (some .int) ∈ wl := in_wl (in_t4 (List.mem_of_getElem? (i := 233) rfl)) rfl
theorem wC_M_meet : Cond.code y_M_meet b_M_meet 3 (some .int) ∈ wl := in_wl (in_t5 (List.mem_of_getElem? (i := 169) rfl)) rfl
theorem wC_M_mistletoe : Cond.code y_M_mistletoe b_M_mistletoe 6 (some .int) ∈ wl := in_wl (in_t6 (List.mem_of_getElem? (i := 65) rfl)) rfl
theorem wC_M_net : Cond.code y_M_net b_M_net 6 (some .int) ∈ wl := in_wl (in_t6 (List.mem_of_getElem? (i := 17) rfl)) rfl
theorem wC_M_netted : Cond.code y_M_netted b_M_netted 6 (some .int) ∈ wl := in_wl (in_t5 (List.mem_of_getElem? (i := 173) rfl)) rfl
theorem wC_M_nextRing : Cond.code y_M_nextRing b_M_nextRing 4 (some .boolean) ∈ wl := in_wl (in_t5 (List.mem_of_getElem? (i := 135) rfl)) rfl
theorem wC_M_odds : Cond.code y_M_odds b_M_odds 3 (some .int) ∈ wl := in_wl (in_t6 (List.mem_of_getElem? (i := 108) rfl)) rfl
theorem wC_M_of : Cond.code y_M_of b_M_of 3 (some .int) ∈ wl := in_wl (in_t5 (List.mem_of_getElem? (i := 65) rfl)) rfl
theorem wC_M_on : Cond.code y_M_on b_M_on 2 (some .int) ∈ wl := in_wl (in_t5 (List.mem_of_getElem? (i := 233) rfl)) rfl
theorem wC_M_openKisses : Cond.code y_M_openKisses b_M_openKisses 3 (some .int) ∈ wl := in_wl (in_t6 (List.mem_of_getElem? (i := 149) rfl)) rfl
theorem wC_M_openMany : Cond.code y_M_openMany b_M_openMany 3 (some .int) ∈ wl := in_wl (in_t6 (List.mem_of_getElem? (i := 145) rfl)) rfl
theorem wC_M_openOn : Cond.code y_M_openOn b_M_openOn 4 (some .int) ∈ wl := in_wl (in_t5 (List.mem_of_getElem? (i := 119) rfl)) rfl
theorem wC_M_openTo : Cond.code y_M_openTo b_M_openTo 4 (some .int) ∈ wl := in_wl (in_t5 (List.mem_of_getElem? (i := 111) rfl)) rfl
theorem wC_M_owe : Cond.code y_M_owe b_M_owe 3 (some .int) ∈ wl := in_wl (in_t5 (List.mem_of_getElem? (i := 151) rfl)) rfl
theorem wC_M_owed : Cond.code y_M_owed b_M_owed 5 (some .int) ∈ wl := in_wl (in_t5 (List.mem_of_getElem? (i := 73) rfl)) rfl
theorem wC_M_owesTo : Cond.code y_M_owesTo b_M_owesTo 4 (some .int) ∈ wl := in_wl (in_t5 (List.mem_of_getElem? (i := 84) rfl)) rfl
theorem wC_M_owing : Cond.code y_M_owing b_M_owing 4 (some .int) ∈ wl := in_wl (in_t5 (List.mem_of_getElem? (i := 61) rfl)) rfl
theorem wC_M_pairs : Cond.code y_M_pairs b_M_pairs 2 (some .int) ∈ wl := in_wl (in_t6 (List.mem_of_getElem? (i := 41) rfl)) rfl
theorem wC_M_person : Cond.code y_M_person b_M_person 3 (some .int) ∈ wl := in_wl (in_t5 (List.mem_of_getElem? (i := 48) rfl)) rfl
theorem wC_M_put : Cond.code y_M_put b_M_put 5 (some .int) ∈ wl := in_wl (in_t5 (List.mem_of_getElem? (i := 5) rfl)) rfl
theorem wC_M_rate : Cond.code y_M_rate b_M_rate 3 (some .long) ∈ wl := in_wl (in_t6 (List.mem_of_getElem? (i := 78) rfl)) rfl
theorem wC_M_readsDraft : Cond.code y_M_readsDraft b_M_readsDraft 3 (some .boolean) ∈ wl := in_wl (in_t5 (List.mem_of_getElem? (i := 25) rfl)) rfl
theorem wC_M_readsPerson : Cond.code y_M_readsPerson b_M_readsPerson 2 (some .boolean) ∈ wl := in_wl (in_t5 (List.mem_of_getElem? (i := 33) rfl)) rfl
theorem wC_M_refused : Cond.code y_M_refused b_M_refused 3 (some .int) ∈ wl := in_wl (in_t4 (List.mem_of_getElem? (i := 209) rfl)) rfl
theorem wC_M_reserve : Cond.code y_M_reserve b_M_reserve 2 (some .int) ∈ wl := in_wl (in_t5 (List.mem_of_getElem? (i := 80) rfl)) rfl
theorem wC_M_ring : Cond.code y_M_ring b_M_ring 4 (some .int) ∈ wl := in_wl (in_t6 (List.mem_of_getElem? (i := 9) rfl)) rfl
theorem wC_M_ringsOf : Cond.code y_M_ringsOf b_M_ringsOf 6 (some .int) ∈ wl := in_wl (in_t5 (List.mem_of_getElem? (i := 127) rfl)) rfl
theorem wC_M_rounds : Cond.code y_M_rounds b_M_rounds 2 (some .int) ∈ wl := in_wl (in_t6 (List.mem_of_getElem? (i := 53) rfl)) rfl
theorem wC_M_row : Cond.code y_M_row b_M_row 3 (some .int) ∈ wl := in_wl (in_t4 (List.mem_of_getElem? (i := 186) rfl)) rfl
theorem wC_M_saved : Cond.code y_M_saved b_M_saved 4 (some .int) ∈ wl := in_wl (in_t6 (List.mem_of_getElem? (i := 37) rfl)) rfl
theorem wC_M_skip : Cond.code y_M_skip b_M_skip 1 none ∈ wl := in_wl (in_t5 (List.mem_of_getElem? (i := 17) rfl)) rfl
theorem wC_M_souring : Cond.code y_M_souring b_M_souring 4 (some .int) ∈ wl := in_wl (in_t5 (List.mem_of_getElem? (i := 123) rfl)) rfl
theorem wC_M_sumOf : Cond.code y_M_sumOf b_M_sumOf 6 (some .int) ∈ wl := in_wl (in_t5 (List.mem_of_getElem? (i := 177) rfl)) rfl
theorem wC_M_sure : Cond.code y_M_sure b_M_sure 3 (some .int) ∈ wl := in_wl (in_t6 (List.mem_of_getElem? (i := 104) rfl)) rfl
theorem wC_M_tear : Cond.code y_M_tear b_M_tear 2 (some .int) ∈ wl := in_wl (in_t4 (List.mem_of_getElem? (i := 221) rfl)) rfl
theorem wC_M_tell : Cond.code y_M_tell b_M_tell 2 (some .int) ∈ wl := in_wl (in_t4 (List.mem_of_getElem? (i := 213) rfl)) rfl
theorem wC_M_text : Cond.code y_M_text b_M_text 4 (some .int) ∈ wl := in_wl (in_t4 (List.mem_of_getElem? (i := 237) rfl)) rfl
theorem wC_M_thereOf : Cond.code y_M_thereOf b_M_thereOf 4 (some .int) ∈ wl := in_wl (in_t6 (List.mem_of_getElem? (i := 160) rfl)) rfl
theorem wC_M_toldOf : Cond.code y_M_toldOf b_M_toldOf 3 (some .int) ∈ wl := in_wl (in_t5 (List.mem_of_getElem? (i := 57) rfl)) rfl
theorem wC_M_trust : Cond.code y_M_trust b_M_trust 7 (some .int) ∈ wl := in_wl (in_t6 (List.mem_of_getElem? (i := 84) rfl)) rfl
theorem wC_M_undo : Cond.code y_M_undo b_M_undo 4 (some .int) ∈ wl := in_wl (in_t5 (List.mem_of_getElem? (i := 221) rfl)) rfl
theorem wC_M_upper : Cond.code y_M_upper b_M_upper 1 (some .long) ∈ wl := in_wl (in_t6 (List.mem_of_getElem? (i := 128) rfl)) rfl
theorem wC_M_village : Cond.code y_M_village b_M_village 3 (some .int) ∈ wl := in_wl (in_t5 (List.mem_of_getElem? (i := 40) rfl)) rfl
theorem wC_M_week : Cond.code y_M_week b_M_week 5 (some .int) ∈ wl := in_wl (in_t5 (List.mem_of_getElem? (i := 217) rfl)) rfl
theorem wC_M_worst : Cond.code y_M_worst b_M_worst 5 (some .int) ∈ wl := in_wl (in_t6 (List.mem_of_getElem? (i := 33) rfl)) rfl
theorem wC_M_worth : Cond.code y_M_worth b_M_worth 2 (some .int) ∈ wl := in_wl (in_t5 (List.mem_of_getElem? (i := 69) rfl)) rfl
theorem wC_J_bitCount : Cond.code y_J_bitCount b_J_bitCount 1 (some .int) ∈ wl := in_wl (in_t2 (List.mem_of_getElem? (i := 190) rfl)) rfl
theorem wI_Q_init : Cond.instanceMethod objectInit ∈ wl := in_wl (in_t1 (List.mem_of_getElem? (i := 20) rfl)) rfl
theorem wC_Q_init : Cond.code objectInit ⟨#[0xb1]⟩ 1 none ∈ wl := in_wl (in_t1 (List.mem_of_getElem? (i := 21) rfl)) rfl
theorem i_B : ∀ w ∈ u_ws R_B T_B 4, w ∈ lw_tbl := by decide +kernel
theorem g_B : ∀ w ∈ u_ws R_B T_B 4, goodWord w = true := by decide +kernel
theorem u_B : ∀ w ∈ u_ws R_B T_B 4, w ∈ wl := fun w h => in_wl (i_B w h) (g_B w h)
theorem i_D : ∀ w ∈ u_ws R_D T_D 6, w ∈ lw_tbl := by decide +kernel
theorem g_D : ∀ w ∈ u_ws R_D T_D 6, goodWord w = true := by decide +kernel
theorem u_D : ∀ w ∈ u_ws R_D T_D 6, w ∈ wl := fun w h => in_wl (i_D w h) (g_D w h)
theorem i_H : ∀ w ∈ u_ws R_H T_H 3, w ∈ lw_tbl := by decide +kernel
theorem g_H : ∀ w ∈ u_ws R_H T_H 3, goodWord w = true := by decide +kernel
theorem u_H : ∀ w ∈ u_ws R_H T_H 3, w ∈ wl := fun w h => in_wl (i_H w h) (g_H w h)
theorem i_G : ∀ w ∈ u_ws R_G T_G 7, w ∈ lw_tbl := by decide +kernel
theorem g_G : ∀ w ∈ u_ws R_G T_G 7, goodWord w = true := by decide +kernel
theorem u_G : ∀ w ∈ u_ws R_G T_G 7, w ∈ wl := fun w h => in_wl (i_G w h) (g_G w h)
theorem i_O : ∀ w ∈ u_ws R_O T_O 4, w ∈ lw_tbl := by decide +kernel
theorem g_O : ∀ w ∈ u_ws R_O T_O 4, goodWord w = true := by decide +kernel
theorem u_O : ∀ w ∈ u_ws R_O T_O 4, w ∈ wl := fun w h => in_wl (i_O w h) (g_O w h)
theorem i_S : ∀ w ∈ u_ws R_S T_S 2, w ∈ lw_tbl := by decide +kernel
theorem g_S : ∀ w ∈ u_ws R_S T_S 2, goodWord w = true := by decide +kernel
theorem u_S : ∀ w ∈ u_ws R_S T_S 2, w ∈ wl := fun w h => in_wl (i_S w h) (g_S w h)
theorem i_V : ∀ w ∈ u_ws R_V T_V 4, w ∈ lw_tbl := by decide +kernel
theorem g_V : ∀ w ∈ u_ws R_V T_V 4, goodWord w = true := by decide +kernel
theorem u_V : ∀ w ∈ u_ws R_V T_V 4, w ∈ wl := fun w h => in_wl (i_V w h) (g_V w h)
theorem i_K : ∀ w ∈ u_ws R_K T_K 14, w ∈ lw_tbl := by decide +kernel
theorem g_K : ∀ w ∈ u_ws R_K T_K 14, goodWord w = true := by decide +kernel
theorem u_K : ∀ w ∈ u_ws R_K T_K 14, w ∈ wl := fun w h => in_wl (i_K w h) (g_K w h)
theorem i_M : ∀ w ∈ u_ws R_M T_M 31, w ∈ lw_tbl := by decide +kernel
theorem g_M : ∀ w ∈ u_ws R_M T_M 31, goodWord w = true := by decide +kernel
theorem u_M : ∀ w ∈ u_ws R_M T_M 31, w ∈ wl := fun w h => in_wl (i_M w h) (g_M w h)
