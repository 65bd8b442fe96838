/-! calls, returns, entry, statics, Math, arraycopy over the judgement X -/
theorem wC_T_max : Cond.code Lib.Math.max.name Lib.Math.max.code 2 (some .int) ∈ wl := in_wl (in_t2 (List.mem_of_getElem? (i := 232) (by decide +kernel))) rfl
theorem wC_T_min : Cond.code Lib.Math.min.name Lib.Math.min.code 2 (some .int) ∈ wl := in_wl (in_t3 (List.mem_of_getElem? (i := 20) (by decide +kernel))) rfl
theorem wl_good {w : Cond} (h : w ∈ wl) : (w.onTables && w.keeps) = true ∨ ∃ ty, w = .arrayClass ty := good_of_word (List.mem_filter.mp h).2
theorem wl_goodIn {cw : Cond} (h : cw ∈ wl) : GoodIn wl (cw :: wl) := fun w hw => by
  rcases List.mem_cons.mp hw with rfl | hw
  · exact ⟨h, wl_good h⟩
  · exact ⟨hw, wl_good hw⟩
def MI0 (y : MethodName) (bytes : ByteArray) (maxL : Nat) (ret : Option FieldType) (n : Nat) : Prop := Cond.code y bytes maxL ret ∈ wl ∧ Cond.initialized y.cls ∈ wl ∧ (y.cls ≠ "java/lang/invoke/MethodHandle" ∧ y.cls ≠ "java/lang/invoke/VarHandle" ∧ (parseMethodDescriptor y.desc).map (fun d => d.parameters.length) = some n) ∧ maxL ≤ 21 ∧ plainName y.cls = true
def MIV (y : MethodName) (bytes : ByteArray) (maxL : Nat) (ret : Option FieldType) (n : Nat) : Prop := MI0 y bytes maxL ret n ∧ Cond.instanceMethod y ∈ wl ∧ Cond.selects y.cls y y ∈ wl
def MIS (y : MethodName) (bytes : ByteArray) (maxL : Nat) (ret : Option FieldType) (n : Nat) : Prop := MI0 y bytes maxL ret n ∧ Cond.static y ∈ wl
theorem mi_K_all : MIV y_K_all b_K_all 2 (some .int) 1 := ⟨⟨wC_K_all, wN_K, ⟨by decide +kernel, by decide +kernel, by decide +kernel⟩, by decide, by decide +kernel⟩, wI_K_all, wS_K_all⟩
theorem mi_K_asked : MIV y_K_asked b_K_asked 1 (some .int) 0 := ⟨⟨wC_K_asked, wN_K, ⟨by decide +kernel, by decide +kernel, by decide +kernel⟩, by decide, by decide +kernel⟩, wI_K_asked, wS_K_asked⟩
theorem mi_K_at : MIV y_K_at b_K_at 4 (some .int) 2 := ⟨⟨wC_K_at, wN_K, ⟨by decide +kernel, by decide +kernel, by decide +kernel⟩, by decide, by decide +kernel⟩, wI_K_at, wS_K_at⟩
theorem mi_K_between : MIV y_K_between b_K_between 4 (some .int) 3 := ⟨⟨wC_K_between, wN_K, ⟨by decide +kernel, by decide +kernel, by decide +kernel⟩, by decide, by decide +kernel⟩, wI_K_between, wS_K_between⟩
theorem mi_K_blushes : MIV y_K_blushes b_K_blushes 3 (some .int) 1 := ⟨⟨wC_K_blushes, wN_K, ⟨by decide +kernel, by decide +kernel, by decide +kernel⟩, by decide, by decide +kernel⟩, wI_K_blushes, wS_K_blushes⟩
theorem mi_K_blushesRefused : MIV y_K_blushesRefused b_K_blushesRefused 2 (some .int) 1 := ⟨⟨wC_K_blushesRefused, wN_K, ⟨by decide +kernel, by decide +kernel, by decide +kernel⟩, by decide, by decide +kernel⟩, wI_K_blushesRefused, wS_K_blushesRefused⟩
theorem mi_K_clear : MIV y_K_clear b_K_clear 4 (some .int) 1 := ⟨⟨wC_K_clear, wN_K, ⟨by decide +kernel, by decide +kernel, by decide +kernel⟩, by decide, by decide +kernel⟩, wI_K_clear, wS_K_clear⟩
theorem mi_K_copy : MIV y_K_copy b_K_copy 6 (some .int) 5 := ⟨⟨wC_K_copy, wN_K, ⟨by decide +kernel, by decide +kernel, by decide +kernel⟩, by decide, by decide +kernel⟩, wI_K_copy, wS_K_copy⟩
theorem mi_K_count : MIV y_K_count b_K_count 2 (some .int) 1 := ⟨⟨wC_K_count, wN_K, ⟨by decide +kernel, by decide +kernel, by decide +kernel⟩, by decide, by decide +kernel⟩, wI_K_count, wS_K_count⟩
theorem mi_K_digest : MIV y_K_digest b_K_digest 5 (some .long) 0 := ⟨⟨wC_K_digest, wN_K, ⟨by decide +kernel, by decide +kernel, by decide +kernel⟩, by decide, by decide +kernel⟩, wI_K_digest, wS_K_digest⟩
theorem mi_K_draft : MIV y_K_draft b_K_draft 3 (some .int) 2 := ⟨⟨wC_K_draft, wN_K, ⟨by decide +kernel, by decide +kernel, by decide +kernel⟩, by decide, by decide +kernel⟩, wI_K_draft, wS_K_draft⟩
theorem mi_K_endorse : MIV y_K_endorse b_K_endorse 4 (some .int) 2 := ⟨⟨wC_K_endorse, wN_K, ⟨by decide +kernel, by decide +kernel, by decide +kernel⟩, by decide, by decide +kernel⟩, wI_K_endorse, wS_K_endorse⟩
theorem mi_K_falls : MIV y_K_falls b_K_falls 2 (some .int) 1 := ⟨⟨wC_K_falls, wN_K, ⟨by decide +kernel, by decide +kernel, by decide +kernel⟩, by decide, by decide +kernel⟩, wI_K_falls, wS_K_falls⟩
theorem mi_K_fault : MIV y_K_fault b_K_fault 2 (some .int) 1 := ⟨⟨wC_K_fault, wN_K, ⟨by decide +kernel, by decide +kernel, by decide +kernel⟩, by decide, by decide +kernel⟩, wI_K_fault, wS_K_fault⟩
theorem mi_K_finding : MIV y_K_finding b_K_finding 1 (some .int) 0 := ⟨⟨wC_K_finding, wN_K, ⟨by decide +kernel, by decide +kernel, by decide +kernel⟩, by decide, by decide +kernel⟩, wI_K_finding, wS_K_finding⟩
theorem mi_K_findings : MIV y_K_findings b_K_findings 2 (some .int) 1 := ⟨⟨wC_K_findings, wN_K, ⟨by decide +kernel, by decide +kernel, by decide +kernel⟩, by decide, by decide +kernel⟩, wI_K_findings, wS_K_findings⟩
theorem mi_K_firstGain : MIS y_K_firstGain b_K_firstGain 1 (some .int) 1 := ⟨⟨wC_K_firstGain, wN_K, ⟨by decide +kernel, by decide +kernel, by decide +kernel⟩, by decide, by decide +kernel⟩, wT_K_firstGain⟩
theorem mi_K_gain : MIV y_K_gain b_K_gain 4 (some .int) 1 := ⟨⟨wC_K_gain, wN_K, ⟨by decide +kernel, by decide +kernel, by decide +kernel⟩, by decide, by decide +kernel⟩, wI_K_gain, wS_K_gain⟩
theorem mi_K_greatestCommon : MIS y_K_greatestCommon b_K_greatestCommon 3 (some .int) 2 := ⟨⟨wC_K_greatestCommon, wN_K, ⟨by decide +kernel, by decide +kernel, by decide +kernel⟩, by decide, by decide +kernel⟩, wT_K_greatestCommon⟩
theorem mi_K_howMany : MIV y_K_howMany b_K_howMany 2 (some .int) 1 := ⟨⟨wC_K_howMany, wN_K, ⟨by decide +kernel, by decide +kernel, by decide +kernel⟩, by decide, by decide +kernel⟩, wI_K_howMany, wS_K_howMany⟩
theorem mi_K_isKeptPlace : MIS y_K_isKeptPlace b_K_isKeptPlace 1 (some .boolean) 1 := ⟨⟨wC_K_isKeptPlace, wN_K, ⟨by decide +kernel, by decide +kernel, by decide +kernel⟩, by decide, by decide +kernel⟩, wT_K_isKeptPlace⟩
theorem mi_K_isRingSort : MIS y_K_isRingSort b_K_isRingSort 1 (some .boolean) 1 := ⟨⟨wC_K_isRingSort, wN_K, ⟨by decide +kernel, by decide +kernel, by decide +kernel⟩, by decide, by decide +kernel⟩, wT_K_isRingSort⟩
theorem mi_K_isRow : MIS y_K_isRow b_K_isRow 1 (some .boolean) 1 := ⟨⟨wC_K_isRow, wN_K, ⟨by decide +kernel, by decide +kernel, by decide +kernel⟩, by decide, by decide +kernel⟩, wT_K_isRow⟩
theorem mi_K_isSort : MIS y_K_isSort b_K_isSort 1 (some .boolean) 1 := ⟨⟨wC_K_isSort, wN_K, ⟨by decide +kernel, by decide +kernel, by decide +kernel⟩, by decide, by decide +kernel⟩, wT_K_isSort⟩
theorem mi_K_isText : MIS y_K_isText b_K_isText 1 (some .boolean) 1 := ⟨⟨wC_K_isText, wN_K, ⟨by decide +kernel, by decide +kernel, by decide +kernel⟩, by decide, by decide +kernel⟩, wT_K_isText⟩
theorem mi_K_keep : MIV y_K_keep b_K_keep 2 (some .int) 1 := ⟨⟨wC_K_keep, wN_K, ⟨by decide +kernel, by decide +kernel, by decide +kernel⟩, by decide, by decide +kernel⟩, wI_K_keep, wS_K_keep⟩
theorem mi_K_keptVillages : MIV y_K_keptVillages b_K_keptVillages 3 (some .int) 0 := ⟨⟨wC_K_keptVillages, wN_K, ⟨by decide +kernel, by decide +kernel, by decide +kernel⟩, by decide, by decide +kernel⟩, wI_K_keptVillages, wS_K_keptVillages⟩
theorem mi_K_lay : MIV y_K_lay b_K_lay 6 (some .int) 3 := ⟨⟨wC_K_lay, wN_K, ⟨by decide +kernel, by decide +kernel, by decide +kernel⟩, by decide, by decide +kernel⟩, wI_K_lay, wS_K_lay⟩
theorem mi_K_left : MIV y_K_left b_K_left 3 (some .int) 1 := ⟨⟨wC_K_left, wN_K, ⟨by decide +kernel, by decide +kernel, by decide +kernel⟩, by decide, by decide +kernel⟩, wI_K_left, wS_K_left⟩
theorem mi_K_lots : MIV y_K_lots b_K_lots 10 (some .int) 2 := ⟨⟨wC_K_lots, wN_K, ⟨by decide +kernel, by decide +kernel, by decide +kernel⟩, by decide, by decide +kernel⟩, wI_K_lots, wS_K_lots⟩
theorem mi_K_lower : MIV y_K_lower b_K_lower 1 (some .long) 0 := ⟨⟨wC_K_lower, wN_K, ⟨by decide +kernel, by decide +kernel, by decide +kernel⟩, by decide, by decide +kernel⟩, wI_K_lower, wS_K_lower⟩
theorem mi_K_mark : MIV y_K_mark b_K_mark 3 (some .int) 2 := ⟨⟨wC_K_mark, wN_K, ⟨by decide +kernel, by decide +kernel, by decide +kernel⟩, by decide, by decide +kernel⟩, wI_K_mark, wS_K_mark⟩
theorem mi_K_mean : MIV y_K_mean b_K_mean 6 (some .int) 1 := ⟨⟨wC_K_mean, wN_K, ⟨by decide +kernel, by decide +kernel, by decide +kernel⟩, by decide, by decide +kernel⟩, wI_K_mean, wS_K_mean⟩
theorem mi_K_meet : MIV y_K_meet b_K_meet 3 (some .int) 2 := ⟨⟨wC_K_meet, wN_K, ⟨by decide +kernel, by decide +kernel, by decide +kernel⟩, by decide, by decide +kernel⟩, wI_K_meet, wS_K_meet⟩
theorem mi_K_mistletoe : MIV y_K_mistletoe b_K_mistletoe 5 (some .int) 0 := ⟨⟨wC_K_mistletoe, wN_K, ⟨by decide +kernel, by decide +kernel, by decide +kernel⟩, by decide, by decide +kernel⟩, wI_K_mistletoe, wS_K_mistletoe⟩
theorem mi_K_net : MIV y_K_net b_K_net 4 (some .int) 1 := ⟨⟨wC_K_net, wN_K, ⟨by decide +kernel, by decide +kernel, by decide +kernel⟩, by decide, by decide +kernel⟩, wI_K_net, wS_K_net⟩
theorem mi_K_odds : MIV y_K_odds b_K_odds 3 (some .int) 0 := ⟨⟨wC_K_odds, wN_K, ⟨by decide +kernel, by decide +kernel, by decide +kernel⟩, by decide, by decide +kernel⟩, wI_K_odds, wS_K_odds⟩
theorem mi_K_ofDraft : MIV y_K_ofDraft b_K_ofDraft 4 (some .int) 2 := ⟨⟨wC_K_ofDraft, wN_K, ⟨by decide +kernel, by decide +kernel, by decide +kernel⟩, by decide, by decide +kernel⟩, wI_K_ofDraft, wS_K_ofDraft⟩
theorem mi_K_ofPerson : MIV y_K_ofPerson b_K_ofPerson 3 (some .int) 2 := ⟨⟨wC_K_ofPerson, wN_K, ⟨by decide +kernel, by decide +kernel, by decide +kernel⟩, by decide, by decide +kernel⟩, wI_K_ofPerson, wS_K_ofPerson⟩
theorem mi_K_on : MIV y_K_on b_K_on 2 (some .int) 1 := ⟨⟨wC_K_on, wN_K, ⟨by decide +kernel, by decide +kernel, by decide +kernel⟩, by decide, by decide +kernel⟩, wI_K_on, wS_K_on⟩
theorem mi_K_owe : MIV y_K_owe b_K_owe 6 (some .int) 2 := ⟨⟨wC_K_owe, wN_K, ⟨by decide +kernel, by decide +kernel, by decide +kernel⟩, by decide, by decide +kernel⟩, wI_K_owe, wS_K_owe⟩
theorem mi_K_pairs : MIV y_K_pairs b_K_pairs 3 (some .int) 0 := ⟨⟨wC_K_pairs, wN_K, ⟨by decide +kernel, by decide +kernel, by decide +kernel⟩, by decide, by decide +kernel⟩, wI_K_pairs, wS_K_pairs⟩
theorem mi_K_person : MIV y_K_person b_K_person 3 (some .int) 2 := ⟨⟨wC_K_person, wN_K, ⟨by decide +kernel, by decide +kernel, by decide +kernel⟩, by decide, by decide +kernel⟩, wI_K_person, wS_K_person⟩
theorem mi_K_put : MIV y_K_put b_K_put 6 (some .int) 3 := ⟨⟨wC_K_put, wN_K, ⟨by decide +kernel, by decide +kernel, by decide +kernel⟩, by decide, by decide +kernel⟩, wI_K_put, wS_K_put⟩
theorem mi_K_refuse : MIV y_K_refuse b_K_refuse 2 (some .int) 1 := ⟨⟨wC_K_refuse, wN_K, ⟨by decide +kernel, by decide +kernel, by decide +kernel⟩, by decide, by decide +kernel⟩, wI_K_refuse, wS_K_refuse⟩
theorem mi_K_ring : MIV y_K_ring b_K_ring 3 (some .int) 2 := ⟨⟨wC_K_ring, wN_K, ⟨by decide +kernel, by decide +kernel, by decide +kernel⟩, by decide, by decide +kernel⟩, wI_K_ring, wS_K_ring⟩
theorem mi_K_ringsThrough : MIV y_K_ringsThrough b_K_ringsThrough 3 (some .int) 1 := ⟨⟨wC_K_ringsThrough, wN_K, ⟨by decide +kernel, by decide +kernel, by decide +kernel⟩, by decide, by decide +kernel⟩, wI_K_ringsThrough, wS_K_ringsThrough⟩
theorem mi_K_rounds : MIV y_K_rounds b_K_rounds 1 (some .int) 0 := ⟨⟨wC_K_rounds, wN_K, ⟨by decide +kernel, by decide +kernel, by decide +kernel⟩, by decide, by decide +kernel⟩, wI_K_rounds, wS_K_rounds⟩
theorem mi_K_row : MIV y_K_row b_K_row 3 (some .int) 2 := ⟨⟨wC_K_row, wN_K, ⟨by decide +kernel, by decide +kernel, by decide +kernel⟩, by decide, by decide +kernel⟩, wI_K_row, wS_K_row⟩
theorem mi_K_saved : MIV y_K_saved b_K_saved 5 (some .int) 2 := ⟨⟨wC_K_saved, wN_K, ⟨by decide +kernel, by decide +kernel, by decide +kernel⟩, by decide, by decide +kernel⟩, wI_K_saved, wS_K_saved⟩
theorem mi_K_sure : MIV y_K_sure b_K_sure 3 (some .int) 1 := ⟨⟨wC_K_sure, wN_K, ⟨by decide +kernel, by decide +kernel, by decide +kernel⟩, by decide, by decide +kernel⟩, wI_K_sure, wS_K_sure⟩
theorem mi_K_tear : MIV y_K_tear b_K_tear 2 (some .int) 1 := ⟨⟨wC_K_tear, wN_K, ⟨by decide +kernel, by decide +kernel, by decide +kernel⟩, by decide, by decide +kernel⟩, wI_K_tear, wS_K_tear⟩
theorem mi_K_tell : MIV y_K_tell b_K_tell 2 (some .int) 1 := ⟨⟨wC_K_tell, wN_K, ⟨by decide +kernel, by decide +kernel, by decide +kernel⟩, by decide, by decide +kernel⟩, wI_K_tell, wS_K_tell⟩
theorem mi_K_text : MIV y_K_text b_K_text 3 (some .int) 2 := ⟨⟨wC_K_text, wN_K, ⟨by decide +kernel, by decide +kernel, by decide +kernel⟩, by decide, by decide +kernel⟩, wI_K_text, wS_K_text⟩
theorem mi_K_thoseThere : MIS y_K_thoseThere b_K_thoseThere 3 (some .int) 1 := ⟨⟨wC_K_thoseThere, wN_K, ⟨by decide +kernel, by decide +kernel, by decide +kernel⟩, by decide, by decide +kernel⟩, wT_K_thoseThere⟩
theorem mi_K_trust : MIV y_K_trust b_K_trust 5 (some .int) 2 := ⟨⟨wC_K_trust, wN_K, ⟨by decide +kernel, by decide +kernel, by decide +kernel⟩, by decide, by decide +kernel⟩, wI_K_trust, wS_K_trust⟩
theorem mi_K_undo : MIV y_K_undo b_K_undo 3 (some .int) 1 := ⟨⟨wC_K_undo, wN_K, ⟨by decide +kernel, by decide +kernel, by decide +kernel⟩, by decide, by decide +kernel⟩, wI_K_undo, wS_K_undo⟩
theorem mi_K_upper : MIV y_K_upper b_K_upper 1 (some .long) 0 := ⟨⟨wC_K_upper, wN_K, ⟨by decide +kernel, by decide +kernel, by decide +kernel⟩, by decide, by decide +kernel⟩, wI_K_upper, wS_K_upper⟩
theorem mi_K_village : MIV y_K_village b_K_village 3 (some .int) 1 := ⟨⟨wC_K_village, wN_K, ⟨by decide +kernel, by decide +kernel, by decide +kernel⟩, by decide, by decide +kernel⟩, wI_K_village, wS_K_village⟩
theorem mi_K_week : MIV y_K_week b_K_week 1 (some .int) 0 := ⟨⟨wC_K_week, wN_K, ⟨by decide +kernel, by decide +kernel, by decide +kernel⟩, by decide, by decide +kernel⟩, wI_K_week, wS_K_week⟩
theorem mi_K_worst : MIV y_K_worst b_K_worst 5 (some .int) 0 := ⟨⟨wC_K_worst, wN_K, ⟨by decide +kernel, by decide +kernel, by decide +kernel⟩, by decide, by decide +kernel⟩, wI_K_worst, wS_K_worst⟩
theorem mi_B_choose : MIV y_B_choose b_B_choose 6 none 3 := ⟨⟨wC_B_choose, wN_B, ⟨by decide +kernel, by decide +kernel, by decide +kernel⟩, by decide, by decide +kernel⟩, wI_B_choose, wS_B_choose⟩
theorem mi_B_search : MIV y_B_search b_B_search 4 none 2 := ⟨⟨wC_B_search, wN_B, ⟨by decide +kernel, by decide +kernel, by decide +kernel⟩, by decide, by decide +kernel⟩, wI_B_search, wS_B_search⟩
theorem mi_B_takeIfFitting : MIV y_B_takeIfFitting b_B_takeIfFitting 4 none 2 := ⟨⟨wC_B_takeIfFitting, wN_B, ⟨by decide +kernel, by decide +kernel, by decide +kernel⟩, by decide, by decide +kernel⟩, wI_B_takeIfFitting, wS_B_takeIfFitting⟩
theorem mi_D_become : MIV y_D_become b_D_become 5 none 4 := ⟨⟨wC_D_become, wN_D, ⟨by decide +kernel, by decide +kernel, by decide +kernel⟩, by decide, by decide +kernel⟩, wI_D_become, wS_D_become⟩
theorem mi_D_becomeLike : MIV y_D_becomeLike b_D_becomeLike 2 none 1 := ⟨⟨wC_D_becomeLike, wN_D, ⟨by decide +kernel, by decide +kernel, by decide +kernel⟩, by decide, by decide +kernel⟩, wI_D_becomeLike, wS_D_becomeLike⟩
theorem mi_D_isOpen : MIV y_D_isOpen b_D_isOpen 1 (some .boolean) 0 := ⟨⟨wC_D_isOpen, wN_D, ⟨by decide +kernel, by decide +kernel, by decide +kernel⟩, by decide, by decide +kernel⟩, wI_D_isOpen, wS_D_isOpen⟩
theorem mi_D_isOpenOf : MIV y_D_isOpenOf b_D_isOpenOf 2 (some .boolean) 1 := ⟨⟨wC_D_isOpenOf, wN_D, ⟨by decide +kernel, by decide +kernel, by decide +kernel⟩, by decide, by decide +kernel⟩, wI_D_isOpenOf, wS_D_isOpenOf⟩
theorem mi_D_packed : MIV y_D_packed b_D_packed 1 (some .int) 0 := ⟨⟨wC_D_packed, wN_D, ⟨by decide +kernel, by decide +kernel, by decide +kernel⟩, by decide, by decide +kernel⟩, wI_D_packed, wS_D_packed⟩
theorem mi_D_unpack : MIV y_D_unpack b_D_unpack 2 none 1 := ⟨⟨wC_D_unpack, wN_D, ⟨by decide +kernel, by decide +kernel, by decide +kernel⟩, by decide, by decide +kernel⟩, wI_D_unpack, wS_D_unpack⟩
theorem mi_D_worth : MIV y_D_worth b_D_worth 1 (some .int) 0 := ⟨⟨wC_D_worth, wN_D, ⟨by decide +kernel, by decide +kernel, by decide +kernel⟩, by decide, by decide +kernel⟩, wI_D_worth, wS_D_worth⟩
theorem mi_H_becomeLike : MIV y_H_becomeLike b_H_becomeLike 2 none 1 := ⟨⟨wC_H_becomeLike, wN_H, ⟨by decide +kernel, by decide +kernel, by decide +kernel⟩, by decide, by decide +kernel⟩, wI_H_becomeLike, wS_H_becomeLike⟩
theorem mi_H_begin : MIV y_H_begin b_H_begin 2 none 1 := ⟨⟨wC_H_begin, wN_H, ⟨by decide +kernel, by decide +kernel, by decide +kernel⟩, by decide, by decide +kernel⟩, wI_H_begin, wS_H_begin⟩
theorem mi_H_goBack : MIV y_H_goBack b_H_goBack 4 none 2 := ⟨⟨wC_H_goBack, wN_H, ⟨by decide +kernel, by decide +kernel, by decide +kernel⟩, by decide, by decide +kernel⟩, wI_H_goBack, wS_H_goBack⟩
theorem mi_H_isFullFor : MIV y_H_isFullFor b_H_isFullFor 2 (some .boolean) 1 := ⟨⟨wC_H_isFullFor, wN_H, ⟨by decide +kernel, by decide +kernel, by decide +kernel⟩, by decide, by decide +kernel⟩, wI_H_isFullFor, wS_H_isFullFor⟩
theorem mi_H_save : MIV y_H_save b_H_save 3 none 1 := ⟨⟨wC_H_save, wN_H, ⟨by decide +kernel, by decide +kernel, by decide +kernel⟩, by decide, by decide +kernel⟩, wI_H_save, wS_H_save⟩
theorem mi_R_faultOf : MIS y_R_faultOf b_R_faultOf 5 (some .int) 2 := ⟨⟨wC_R_faultOf, wN_R, ⟨by decide +kernel, by decide +kernel, by decide +kernel⟩, by decide, by decide +kernel⟩, wT_R_faultOf⟩
theorem mi_R_numberOf : MIS y_R_numberOf b_R_numberOf 3 (some .int) 2 := ⟨⟨wC_R_numberOf, wN_R, ⟨by decide +kernel, by decide +kernel, by decide +kernel⟩, by decide, by decide +kernel⟩, wT_R_numberOf⟩
theorem mi_R_readDraft : MIS y_R_readDraft b_R_readDraft 7 (some .int) 3 := ⟨⟨wC_R_readDraft, wN_R, ⟨by decide +kernel, by decide +kernel, by decide +kernel⟩, by decide, by decide +kernel⟩, wT_R_readDraft⟩
theorem mi_R_readPerson : MIS y_R_readPerson b_R_readPerson 3 (some .boolean) 2 := ⟨⟨wC_R_readPerson, wN_R, ⟨by decide +kernel, by decide +kernel, by decide +kernel⟩, by decide, by decide +kernel⟩, wT_R_readPerson⟩
theorem mi_R_signAt : MIS y_R_signAt b_R_signAt 2 (some .int) 2 := ⟨⟨wC_R_signAt, wN_R, ⟨by decide +kernel, by decide +kernel, by decide +kernel⟩, by decide, by decide +kernel⟩, wT_R_signAt⟩
theorem mi_G_extend : MIV y_G_extend b_G_extend 9 none 4 := ⟨⟨wC_G_extend, wN_G, ⟨by decide +kernel, by decide +kernel, by decide +kernel⟩, by decide, by decide +kernel⟩, wI_G_extend, wS_G_extend⟩
theorem mi_G_search : MIV y_G_search b_G_search 5 none 2 := ⟨⟨wC_G_search, wN_G, ⟨by decide +kernel, by decide +kernel, by decide +kernel⟩, by decide, by decide +kernel⟩, wI_G_search, wS_G_search⟩
theorem mi_G_takeRing : MIV y_G_takeRing b_G_takeRing 5 none 3 := ⟨⟨wC_G_takeRing, wN_G, ⟨by decide +kernel, by decide +kernel, by decide +kernel⟩, by decide, by decide +kernel⟩, wI_G_takeRing, wS_G_takeRing⟩
theorem mi_O_fewest : MIV y_O_fewest b_O_fewest 3 (some .int) 0 := ⟨⟨wC_O_fewest, wN_O, ⟨by decide +kernel, by decide +kernel, by decide +kernel⟩, by decide, by decide +kernel⟩, wI_O_fewest, wS_O_fewest⟩
theorem mi_O_fit : MIV y_O_fit b_O_fit 8 (some .boolean) 3 := ⟨⟨wC_O_fit, wN_O, ⟨by decide +kernel, by decide +kernel, by decide +kernel⟩, by decide, by decide +kernel⟩, wI_O_fit, wS_O_fit⟩
theorem mi_O_gather : MIV y_O_gather b_O_gather 6 none 1 := ⟨⟨wC_O_gather, wN_O, ⟨by decide +kernel, by decide +kernel, by decide +kernel⟩, by decide, by decide +kernel⟩, wI_O_gather, wS_O_gather⟩
theorem mi_O_mostOfOne : MIV y_O_mostOfOne b_O_mostOfOne 5 (some .int) 0 := ⟨⟨wC_O_mostOfOne, wN_O, ⟨by decide +kernel, by decide +kernel, by decide +kernel⟩, by decide, by decide +kernel⟩, wI_O_mostOfOne, wS_O_mostOfOne⟩
theorem mi_S_findingAt : MIV y_S_findingAt b_S_findingAt 2 (some .int) 1 := ⟨⟨wC_S_findingAt, wN_S, ⟨by decide +kernel, by decide +kernel, by decide +kernel⟩, by decide, by decide +kernel⟩, wI_S_findingAt, wS_S_findingAt⟩
theorem mi_S_hasPlace : MIV y_S_hasPlace b_S_hasPlace 2 (some .boolean) 1 := ⟨⟨wC_S_hasPlace, wN_S, ⟨by decide +kernel, by decide +kernel, by decide +kernel⟩, by decide, by decide +kernel⟩, wI_S_hasPlace, wS_S_hasPlace⟩
theorem mi_S_hasStretch : MIV y_S_hasStretch b_S_hasStretch 3 (some .boolean) 2 := ⟨⟨wC_S_hasStretch, wN_S, ⟨by decide +kernel, by decide +kernel, by decide +kernel⟩, by decide, by decide +kernel⟩, wI_S_hasStretch, wS_S_hasStretch⟩
theorem mi_S_isMissing : MIV y_S_isMissing b_S_isMissing 1 (some .boolean) 0 := ⟨⟨wC_S_isMissing, wN_S, ⟨by decide +kernel, by decide +kernel, by decide +kernel⟩, by decide, by decide +kernel⟩, wI_S_isMissing, wS_S_isMissing⟩
theorem mi_S_mixedInto : MIV y_S_mixedInto b_S_mixedInto 6 (some .long) 1 := ⟨⟨wC_S_mixedInto, wN_S, ⟨by decide +kernel, by decide +kernel, by decide +kernel⟩, by decide, by decide +kernel⟩, wI_S_mixedInto, wS_S_mixedInto⟩
theorem mi_S_renew : MIV y_S_renew b_S_renew 4 none 2 := ⟨⟨wC_S_renew, wN_S, ⟨by decide +kernel, by decide +kernel, by decide +kernel⟩, by decide, by decide +kernel⟩, wI_S_renew, wS_S_renew⟩
theorem mi_V_addDraft : MIV y_V_addDraft b_V_addDraft 5 none 4 := ⟨⟨wC_V_addDraft, wN_V, ⟨by decide +kernel, by decide +kernel, by decide +kernel⟩, by decide, by decide +kernel⟩, wI_V_addDraft, wS_V_addDraft⟩
theorem mi_V_addPerson : MIV y_V_addPerson b_V_addPerson 2 none 1 := ⟨⟨wC_V_addPerson, wN_V, ⟨by decide +kernel, by decide +kernel, by decide +kernel⟩, by decide, by decide +kernel⟩, wI_V_addPerson, wS_V_addPerson⟩
theorem mi_V_becomeEmpty : MIV y_V_becomeEmpty b_V_becomeEmpty 1 none 0 := ⟨⟨wC_V_becomeEmpty, wN_V, ⟨by decide +kernel, by decide +kernel, by decide +kernel⟩, by decide, by decide +kernel⟩, wI_V_becomeEmpty, wS_V_becomeEmpty⟩
theorem mi_V_becomeLike : MIV y_V_becomeLike b_V_becomeLike 3 none 1 := ⟨⟨wC_V_becomeLike, wN_V, ⟨by decide +kernel, by decide +kernel, by decide +kernel⟩, by decide, by decide +kernel⟩, wI_V_becomeLike, wS_V_becomeLike⟩
theorem mi_V_clearRing : MIV y_V_clearRing b_V_clearRing 5 (some .int) 2 := ⟨⟨wC_V_clearRing, wN_V, ⟨by decide +kernel, by decide +kernel, by decide +kernel⟩, by decide, by decide +kernel⟩, wI_V_clearRing, wS_V_clearRing⟩
theorem mi_V_clearedByHalving : MIV y_V_clearedByHalving b_V_clearedByHalving 4 (some .int) 1 := ⟨⟨wC_V_clearedByHalving, wN_V, ⟨by decide +kernel, by decide +kernel, by decide +kernel⟩, by decide, by decide +kernel⟩, wI_V_clearedByHalving, wS_V_clearedByHalving⟩
theorem mi_V_fallen : MIV y_V_fallen b_V_fallen 8 (some .int) 2 := ⟨⟨wC_V_fallen, wN_V, ⟨by decide +kernel, by decide +kernel, by decide +kernel⟩, by decide, by decide +kernel⟩, wI_V_fallen, wS_V_fallen⟩
theorem mi_V_growthFor : MIV y_V_growthFor b_V_growthFor 2 (some .int) 1 := ⟨⟨wC_V_growthFor, wN_V, ⟨by decide +kernel, by decide +kernel, by decide +kernel⟩, by decide, by decide +kernel⟩, wI_V_growthFor, wS_V_growthFor⟩
theorem mi_V_hasDraft : MIV y_V_hasDraft b_V_hasDraft 2 (some .boolean) 1 := ⟨⟨wC_V_hasDraft, wN_V, ⟨by decide +kernel, by decide +kernel, by decide +kernel⟩, by decide, by decide +kernel⟩, wI_V_hasDraft, wS_V_hasDraft⟩
theorem mi_V_hasPerson : MIV y_V_hasPerson b_V_hasPerson 2 (some .boolean) 1 := ⟨⟨wC_V_hasPerson, wN_V, ⟨by decide +kernel, by decide +kernel, by decide +kernel⟩, by decide, by decide +kernel⟩, wI_V_hasPerson, wS_V_hasPerson⟩
theorem mi_V_hasTwo : MIV y_V_hasTwo b_V_hasTwo 3 (some .boolean) 2 := ⟨⟨wC_V_hasTwo, wN_V, ⟨by decide +kernel, by decide +kernel, by decide +kernel⟩, by decide, by decide +kernel⟩, wI_V_hasTwo, wS_V_hasTwo⟩
theorem mi_V_isEmpty : MIV y_V_isEmpty b_V_isEmpty 1 (some .boolean) 0 := ⟨⟨wC_V_isEmpty, wN_V, ⟨by decide +kernel, by decide +kernel, by decide +kernel⟩, by decide, by decide +kernel⟩, wI_V_isEmpty, wS_V_isEmpty⟩
theorem mi_V_isOfKind : MIV y_V_isOfKind b_V_isOfKind 5 (some .boolean) 2 := ⟨⟨wC_V_isOfKind, wN_V, ⟨by decide +kernel, by decide +kernel, by decide +kernel⟩, by decide, by decide +kernel⟩, wI_V_isOfKind, wS_V_isOfKind⟩
theorem mi_V_isRing : MIV y_V_isRing b_V_isRing 8 (some .boolean) 2 := ⟨⟨wC_V_isRing, wN_V, ⟨by decide +kernel, by decide +kernel, by decide +kernel⟩, by decide, by decide +kernel⟩, wI_V_isRing, wS_V_isRing⟩
theorem mi_V_kindOf : MIV y_V_kindOf b_V_kindOf 2 (some .int) 1 := ⟨⟨wC_V_kindOf, wN_V, ⟨by decide +kernel, by decide +kernel, by decide +kernel⟩, by decide, by decide +kernel⟩, wI_V_kindOf, wS_V_kindOf⟩
theorem mi_V_kissesBetween : MIV y_V_kissesBetween b_V_kissesBetween 6 (some .int) 3 := ⟨⟨wC_V_kissesBetween, wN_V, ⟨by decide +kernel, by decide +kernel, by decide +kernel⟩, by decide, by decide +kernel⟩, wI_V_kissesBetween, wS_V_kissesBetween⟩
theorem mi_V_kissesOfSort : MIV y_V_kissesOfSort b_V_kissesOfSort 4 (some .int) 1 := ⟨⟨wC_V_kissesOfSort, wN_V, ⟨by decide +kernel, by decide +kernel, by decide +kernel⟩, by decide, by decide +kernel⟩, wI_V_kissesOfSort, wS_V_kissesOfSort⟩
theorem mi_V_lessen : MIV y_V_lessen b_V_lessen 9 none 4 := ⟨⟨wC_V_lessen, wN_V, ⟨by decide +kernel, by decide +kernel, by decide +kernel⟩, by decide, by decide +kernel⟩, wI_V_lessen, wS_V_lessen⟩
theorem mi_V_netOwing : MIV y_V_netOwing b_V_netOwing 5 (some .int) 2 := ⟨⟨wC_V_netOwing, wN_V, ⟨by decide +kernel, by decide +kernel, by decide +kernel⟩, by decide, by decide +kernel⟩, wI_V_netOwing, wS_V_netOwing⟩
theorem mi_V_netTwo : MIV y_V_netTwo b_V_netTwo 6 (some .int) 2 := ⟨⟨wC_V_netTwo, wN_V, ⟨by decide +kernel, by decide +kernel, by decide +kernel⟩, by decide, by decide +kernel⟩, wI_V_netTwo, wS_V_netTwo⟩
theorem mi_V_openDrafts : MIV y_V_openDrafts b_V_openDrafts 3 (some .int) 0 := ⟨⟨wC_V_openDrafts, wN_V, ⟨by decide +kernel, by decide +kernel, by decide +kernel⟩, by decide, by decide +kernel⟩, wI_V_openDrafts, wS_V_openDrafts⟩
theorem mi_V_openOn : MIV y_V_openOn b_V_openOn 4 (some .int) 1 := ⟨⟨wC_V_openOn, wN_V, ⟨by decide +kernel, by decide +kernel, by decide +kernel⟩, by decide, by decide +kernel⟩, wI_V_openOn, wS_V_openOn⟩
theorem mi_V_openOwedTo : MIV y_V_openOwedTo b_V_openOwedTo 4 (some .int) 1 := ⟨⟨wC_V_openOwedTo, wN_V, ⟨by decide +kernel, by decide +kernel, by decide +kernel⟩, by decide, by decide +kernel⟩, wI_V_openOwedTo, wS_V_openOwedTo⟩
theorem mi_V_owed : MIV y_V_owed b_V_owed 5 (some .int) 2 := ⟨⟨wC_V_owed, wN_V, ⟨by decide +kernel, by decide +kernel, by decide +kernel⟩, by decide, by decide +kernel⟩, wI_V_owed, wS_V_owed⟩
theorem mi_V_owedByAny : MIV y_V_owedByAny b_V_owedByAny 4 (some .int) 1 := ⟨⟨wC_V_owedByAny, wN_V, ⟨by decide +kernel, by decide +kernel, by decide +kernel⟩, by decide, by decide +kernel⟩, wI_V_owedByAny, wS_V_owedByAny⟩
theorem mi_V_owing : MIV y_V_owing b_V_owing 4 (some .int) 1 := ⟨⟨wC_V_owing, wN_V, ⟨by decide +kernel, by decide +kernel, by decide +kernel⟩, by decide, by decide +kernel⟩, wI_V_owing, wS_V_owing⟩
theorem mi_V_passWeek : MIV y_V_passWeek b_V_passWeek 4 (some .int) 0 := ⟨⟨wC_V_passWeek, wN_V, ⟨by decide +kernel, by decide +kernel, by decide +kernel⟩, by decide, by decide +kernel⟩, wI_V_passWeek, wS_V_passWeek⟩
theorem mi_V_payTwo : MIV y_V_payTwo b_V_payTwo 7 (some .int) 2 := ⟨⟨wC_V_payTwo, wN_V, ⟨by decide +kernel, by decide +kernel, by decide +kernel⟩, by decide, by decide +kernel⟩, wI_V_payTwo, wS_V_payTwo⟩
theorem mi_V_personsOfKind : MIV y_V_personsOfKind b_V_personsOfKind 4 (some .int) 1 := ⟨⟨wC_V_personsOfKind, wN_V, ⟨by decide +kernel, by decide +kernel, by decide +kernel⟩, by decide, by decide +kernel⟩, wI_V_personsOfKind, wS_V_personsOfKind⟩
theorem mi_V_reserve : MIV y_V_reserve b_V_reserve 2 (some .int) 1 := ⟨⟨wC_V_reserve, wN_V, ⟨by decide +kernel, by decide +kernel, by decide +kernel⟩, by decide, by decide +kernel⟩, wI_V_reserve, wS_V_reserve⟩
theorem mi_V_souringFor : MIV y_V_souringFor b_V_souringFor 5 (some .int) 1 := ⟨⟨wC_V_souringFor, wN_V, ⟨by decide +kernel, by decide +kernel, by decide +kernel⟩, by decide, by decide +kernel⟩, wI_V_souringFor, wS_V_souringFor⟩
theorem mi_M_addDraft : MIV y_M_addDraft b_M_addDraft 6 none 4 := ⟨⟨wC_M_addDraft, wN_M, ⟨by decide +kernel, by decide +kernel, by decide +kernel⟩, by decide, by decide +kernel⟩, wI_M_addDraft, wS_M_addDraft⟩
theorem mi_M_all : MIV y_M_all b_M_all 4 (some .int) 1 := ⟨⟨wC_M_all, wN_M, ⟨by decide +kernel, by decide +kernel, by decide +kernel⟩, by decide, by decide +kernel⟩, wI_M_all, wS_M_all⟩
theorem mi_M_areDrafts : MIV y_M_areDrafts b_M_areDrafts 4 (some .boolean) 1 := ⟨⟨wC_M_areDrafts, wN_M, ⟨by decide +kernel, by decide +kernel, by decide +kernel⟩, by decide, by decide +kernel⟩, wI_M_areDrafts, wS_M_areDrafts⟩
theorem mi_M_areOpen : MIV y_M_areOpen b_M_areOpen 4 (some .boolean) 1 := ⟨⟨wC_M_areOpen, wN_M, ⟨by decide +kernel, by decide +kernel, by decide +kernel⟩, by decide, by decide +kernel⟩, wI_M_areOpen, wS_M_areOpen⟩
theorem mi_M_areRates : MIV y_M_areRates b_M_areRates 4 (some .boolean) 1 := ⟨⟨wC_M_areRates, wN_M, ⟨by decide +kernel, by decide +kernel, by decide +kernel⟩, by decide, by decide +kernel⟩, wI_M_areRates, wS_M_areRates⟩
theorem mi_M_areTwo : MIV y_M_areTwo b_M_areTwo 3 (some .boolean) 2 := ⟨⟨wC_M_areTwo, wN_M, ⟨by decide +kernel, by decide +kernel, by decide +kernel⟩, by decide, by decide +kernel⟩, wI_M_areTwo, wS_M_areTwo⟩
theorem mi_M_asked : MIV y_M_asked b_M_asked 1 (some .int) 0 := ⟨⟨wC_M_asked, wN_M, ⟨by decide +kernel, by decide +kernel, by decide +kernel⟩, by decide, by decide +kernel⟩, wI_M_asked, wS_M_asked⟩
theorem mi_M_at : MIV y_M_at b_M_at 4 (some .int) 2 := ⟨⟨wC_M_at, wN_M, ⟨by decide +kernel, by decide +kernel, by decide +kernel⟩, by decide, by decide +kernel⟩, wI_M_at, wS_M_at⟩
theorem mi_M_aunts : MIV y_M_aunts b_M_aunts 3 (some .int) 0 := ⟨⟨wC_M_aunts, wN_M, ⟨by decide +kernel, by decide +kernel, by decide +kernel⟩, by decide, by decide +kernel⟩, wI_M_aunts, wS_M_aunts⟩
theorem mi_M_beginRings : MIV y_M_beginRings b_M_beginRings 3 none 1 := ⟨⟨wC_M_beginRings, wN_M, ⟨by decide +kernel, by decide +kernel, by decide +kernel⟩, by decide, by decide +kernel⟩, wI_M_beginRings, wS_M_beginRings⟩
theorem mi_M_between : MIV y_M_between b_M_between 4 (some .int) 3 := ⟨⟨wC_M_between, wN_M, ⟨by decide +kernel, by decide +kernel, by decide +kernel⟩, by decide, by decide +kernel⟩, wI_M_between, wS_M_between⟩
theorem mi_M_bits : MIS y_M_bits b_M_bits 3 (some .int) 1 := ⟨⟨wC_M_bits, wN_M, ⟨by decide +kernel, by decide +kernel, by decide +kernel⟩, by decide, by decide +kernel⟩, wT_M_bits⟩
theorem mi_M_blushes : MIV y_M_blushes b_M_blushes 3 (some .int) 1 := ⟨⟨wC_M_blushes, wN_M, ⟨by decide +kernel, by decide +kernel, by decide +kernel⟩, by decide, by decide +kernel⟩, wI_M_blushes, wS_M_blushes⟩
theorem mi_M_canMeet : MIV y_M_canMeet b_M_canMeet 4 (some .boolean) 1 := ⟨⟨wC_M_canMeet, wN_M, ⟨by decide +kernel, by decide +kernel, by decide +kernel⟩, by decide, by decide +kernel⟩, wI_M_canMeet, wS_M_canMeet⟩
theorem mi_M_clear : MIV y_M_clear b_M_clear 5 (some .int) 1 := ⟨⟨wC_M_clear, wN_M, ⟨by decide +kernel, by decide +kernel, by decide +kernel⟩, by decide, by decide +kernel⟩, wI_M_clear, wS_M_clear⟩
theorem mi_M_closes : MIV y_M_closes b_M_closes 1 (some .boolean) 0 := ⟨⟨wC_M_closes, wN_M, ⟨by decide +kernel, by decide +kernel, by decide +kernel⟩, by decide, by decide +kernel⟩, wI_M_closes, wS_M_closes⟩
theorem mi_M_copy : MIV y_M_copy b_M_copy 9 (some .int) 5 := ⟨⟨wC_M_copy, wN_M, ⟨by decide +kernel, by decide +kernel, by decide +kernel⟩, by decide, by decide +kernel⟩, wI_M_copy, wS_M_copy⟩
theorem mi_M_copyVillage : MIV y_M_copyVillage b_M_copyVillage 4 none 2 := ⟨⟨wC_M_copyVillage, wN_M, ⟨by decide +kernel, by decide +kernel, by decide +kernel⟩, by decide, by decide +kernel⟩, wI_M_copyVillage, wS_M_copyVillage⟩
theorem mi_M_count : MIV y_M_count b_M_count 2 (some .int) 1 := ⟨⟨wC_M_count, wN_M, ⟨by decide +kernel, by decide +kernel, by decide +kernel⟩, by decide, by decide +kernel⟩, wI_M_count, wS_M_count⟩
theorem mi_M_countOf : MIV y_M_countOf b_M_countOf 2 (some .int) 1 := ⟨⟨wC_M_countOf, wN_M, ⟨by decide +kernel, by decide +kernel, by decide +kernel⟩, by decide, by decide +kernel⟩, wI_M_countOf, wS_M_countOf⟩
theorem mi_M_digest : MIV y_M_digest b_M_digest 5 (some .long) 0 := ⟨⟨wC_M_digest, wN_M, ⟨by decide +kernel, by decide +kernel, by decide +kernel⟩, by decide, by decide +kernel⟩, wI_M_digest, wS_M_digest⟩
theorem mi_M_divisor : MIS y_M_divisor b_M_divisor 5 (some .int) 2 := ⟨⟨wC_M_divisor, wN_M, ⟨by decide +kernel, by decide +kernel, by decide +kernel⟩, by decide, by decide +kernel⟩, wT_M_divisor⟩
theorem mi_M_doMeet : MIV y_M_doMeet b_M_doMeet 6 (some .int) 2 := ⟨⟨wC_M_doMeet, wN_M, ⟨by decide +kernel, by decide +kernel, by decide +kernel⟩, by decide, by decide +kernel⟩, wI_M_doMeet, wS_M_doMeet⟩
theorem mi_M_draft : MIV y_M_draft b_M_draft 3 (some .int) 2 := ⟨⟨wC_M_draft, wN_M, ⟨by decide +kernel, by decide +kernel, by decide +kernel⟩, by decide, by decide +kernel⟩, wI_M_draft, wS_M_draft⟩
theorem mi_M_endorse : MIV y_M_endorse b_M_endorse 3 (some .int) 2 := ⟨⟨wC_M_endorse, wN_M, ⟨by decide +kernel, by decide +kernel, by decide +kernel⟩, by decide, by decide +kernel⟩, wI_M_endorse, wS_M_endorse⟩
theorem mi_M_fallen : MIV y_M_fallen b_M_fallen 8 (some .int) 3 := ⟨⟨wC_M_fallen, wN_M, ⟨by decide +kernel, by decide +kernel, by decide +kernel⟩, by decide, by decide +kernel⟩, wI_M_fallen, wS_M_fallen⟩
theorem mi_M_falls : MIV y_M_falls b_M_falls 2 (some .int) 1 := ⟨⟨wC_M_falls, wN_M, ⟨by decide +kernel, by decide +kernel, by decide +kernel⟩, by decide, by decide +kernel⟩, wI_M_falls, wS_M_falls⟩
theorem mi_M_fault : MIV y_M_fault b_M_fault 2 (some .int) 1 := ⟨⟨wC_M_fault, wN_M, ⟨by decide +kernel, by decide +kernel, by decide +kernel⟩, by decide, by decide +kernel⟩, wI_M_fault, wS_M_fault⟩
theorem mi_M_faultOf : MIV y_M_faultOf b_M_faultOf 3 (some .int) 1 := ⟨⟨wC_M_faultOf, wN_M, ⟨by decide +kernel, by decide +kernel, by decide +kernel⟩, by decide, by decide +kernel⟩, wI_M_faultOf, wS_M_faultOf⟩
theorem mi_M_figure : MIV y_M_figure b_M_figure 4 (some .int) 3 := ⟨⟨wC_M_figure, wN_M, ⟨by decide +kernel, by decide +kernel, by decide +kernel⟩, by decide, by decide +kernel⟩, wI_M_figure, wS_M_figure⟩
theorem mi_M_find : MIV y_M_find b_M_find 2 (some .int) 1 := ⟨⟨wC_M_find, wN_M, ⟨by decide +kernel, by decide +kernel, by decide +kernel⟩, by decide, by decide +kernel⟩, wI_M_find, wS_M_find⟩
theorem mi_M_finding : MIV y_M_finding b_M_finding 1 (some .int) 0 := ⟨⟨wC_M_finding, wN_M, ⟨by decide +kernel, by decide +kernel, by decide +kernel⟩, by decide, by decide +kernel⟩, wI_M_finding, wS_M_finding⟩
theorem mi_M_findings : MIV y_M_findings b_M_findings 2 (some .int) 1 := ⟨⟨wC_M_findings, wN_M, ⟨by decide +kernel, by decide +kernel, by decide +kernel⟩, by decide, by decide +kernel⟩, wI_M_findings, wS_M_findings⟩
theorem mi_M_fits : MIV y_M_fits b_M_fits 7 (some .boolean) 2 := ⟨⟨wC_M_fits, wN_M, ⟨by decide +kernel, by decide +kernel, by decide +kernel⟩, by decide, by decide +kernel⟩, wI_M_fits, wS_M_fits⟩
theorem mi_M_following : MIV y_M_following b_M_following 3 (some .int) 1 := ⟨⟨wC_M_following, wN_M, ⟨by decide +kernel, by decide +kernel, by decide +kernel⟩, by decide, by decide +kernel⟩, wI_M_following, wS_M_following⟩
theorem mi_M_follows : MIV y_M_follows b_M_follows 4 (some .boolean) 1 := ⟨⟨wC_M_follows, wN_M, ⟨by decide +kernel, by decide +kernel, by decide +kernel⟩, by decide, by decide +kernel⟩, wI_M_follows, wS_M_follows⟩
theorem mi_M_gain : MIV y_M_gain b_M_gain 7 (some .int) 1 := ⟨⟨wC_M_gain, wN_M, ⟨by decide +kernel, by decide +kernel, by decide +kernel⟩, by decide, by decide +kernel⟩, wI_M_gain, wS_M_gain⟩
theorem mi_M_given : MIV y_M_given b_M_given 6 (some .int) 2 := ⟨⟨wC_M_given, wN_M, ⟨by decide +kernel, by decide +kernel, by decide +kernel⟩, by decide, by decide +kernel⟩, wI_M_given, wS_M_given⟩
theorem mi_M_growth : MIV y_M_growth b_M_growth 2 (some .int) 1 := ⟨⟨wC_M_growth, wN_M, ⟨by decide +kernel, by decide +kernel, by decide +kernel⟩, by decide, by decide +kernel⟩, wI_M_growth, wS_M_growth⟩
theorem mi_M_has : MIS y_M_has b_M_has 2 (some .boolean) 2 := ⟨⟨wC_M_has, wN_M, ⟨by decide +kernel, by decide +kernel, by decide +kernel⟩, by decide, by decide +kernel⟩, wT_M_has⟩
theorem mi_M_here : MIV y_M_here b_M_here 1 (some .int) 0 := ⟨⟨wC_M_here, wN_M, ⟨by decide +kernel, by decide +kernel, by decide +kernel⟩, by decide, by decide +kernel⟩, wI_M_here, wS_M_here⟩
theorem mi_M_in : MIS y_M_in b_M_in 6 (some .boolean) 3 := ⟨⟨wC_M_in, wN_M, ⟨by decide +kernel, by decide +kernel, by decide +kernel⟩, by decide, by decide +kernel⟩, wT_M_in⟩
theorem mi_M_isAunt : MIS y_M_isAunt b_M_isAunt 1 (some .boolean) 1 := ⟨⟨wC_M_isAunt, wN_M, ⟨by decide +kernel, by decide +kernel, by decide +kernel⟩, by decide, by decide +kernel⟩, wT_M_isAunt⟩
theorem mi_M_isBusy : MIV y_M_isBusy b_M_isBusy 5 (some .boolean) 1 := ⟨⟨wC_M_isBusy, wN_M, ⟨by decide +kernel, by decide +kernel, by decide +kernel⟩, by decide, by decide +kernel⟩, wI_M_isBusy, wS_M_isBusy⟩
theorem mi_M_isDraft : MIV y_M_isDraft b_M_isDraft 2 (some .boolean) 1 := ⟨⟨wC_M_isDraft, wN_M, ⟨by decide +kernel, by decide +kernel, by decide +kernel⟩, by decide, by decide +kernel⟩, wI_M_isDraft, wS_M_isDraft⟩
theorem mi_M_isFull : MIV y_M_isFull b_M_isFull 1 (some .boolean) 0 := ⟨⟨wC_M_isFull, wN_M, ⟨by decide +kernel, by decide +kernel, by decide +kernel⟩, by decide, by decide +kernel⟩, wI_M_isFull, wS_M_isFull⟩
theorem mi_M_isOf : MIV y_M_isOf b_M_isOf 3 (some .boolean) 2 := ⟨⟨wC_M_isOf, wN_M, ⟨by decide +kernel, by decide +kernel, by decide +kernel⟩, by decide, by decide +kernel⟩, wI_M_isOf, wS_M_isOf⟩
theorem mi_M_isOn : MIV y_M_isOn b_M_isOn 4 (some .boolean) 3 := ⟨⟨wC_M_isOn, wN_M, ⟨by decide +kernel, by decide +kernel, by decide +kernel⟩, by decide, by decide +kernel⟩, wI_M_isOn, wS_M_isOn⟩
theorem mi_M_isOpen : MIV y_M_isOpen b_M_isOpen 2 (some .boolean) 1 := ⟨⟨wC_M_isOpen, wN_M, ⟨by decide +kernel, by decide +kernel, by decide +kernel⟩, by decide, by decide +kernel⟩, wI_M_isOpen, wS_M_isOpen⟩
theorem mi_M_isOpenBetween : MIV y_M_isOpenBetween b_M_isOpenBetween 5 (some .boolean) 2 := ⟨⟨wC_M_isOpenBetween, wN_M, ⟨by decide +kernel, by decide +kernel, by decide +kernel⟩, by decide, by decide +kernel⟩, wI_M_isOpenBetween, wS_M_isOpenBetween⟩
theorem mi_M_isPerson : MIV y_M_isPerson b_M_isPerson 2 (some .boolean) 1 := ⟨⟨wC_M_isPerson, wN_M, ⟨by decide +kernel, by decide +kernel, by decide +kernel⟩, by decide, by decide +kernel⟩, wI_M_isPerson, wS_M_isPerson⟩
theorem mi_M_isRing : MIV y_M_isRing b_M_isRing 8 (some .boolean) 1 := ⟨⟨wC_M_isRing, wN_M, ⟨by decide +kernel, by decide +kernel, by decide +kernel⟩, by decide, by decide +kernel⟩, wI_M_isRing, wS_M_isRing⟩
theorem mi_M_isRow : MIS y_M_isRow b_M_isRow 1 (some .boolean) 1 := ⟨⟨wC_M_isRow, wN_M, ⟨by decide +kernel, by decide +kernel, by decide +kernel⟩, by decide, by decide +kernel⟩, wT_M_isRow⟩
theorem mi_M_isSpan : MIV y_M_isSpan b_M_isSpan 4 (some .boolean) 3 := ⟨⟨wC_M_isSpan, wN_M, ⟨by decide +kernel, by decide +kernel, by decide +kernel⟩, by decide, by decide +kernel⟩, wI_M_isSpan, wS_M_isSpan⟩
theorem mi_M_isText : MIS y_M_isText b_M_isText 1 (some .boolean) 1 := ⟨⟨wC_M_isText, wN_M, ⟨by decide +kernel, by decide +kernel, by decide +kernel⟩, by decide, by decide +kernel⟩, wT_M_isText⟩
theorem mi_M_keep : MIV y_M_keep b_M_keep 2 (some .int) 1 := ⟨⟨wC_M_keep, wN_M, ⟨by decide +kernel, by decide +kernel, by decide +kernel⟩, by decide, by decide +kernel⟩, wI_M_keep, wS_M_keep⟩
theorem mi_M_keepPast : MIV y_M_keepPast b_M_keepPast 2 none 0 := ⟨⟨wC_M_keepPast, wN_M, ⟨by decide +kernel, by decide +kernel, by decide +kernel⟩, by decide, by decide +kernel⟩, wI_M_keepPast, wS_M_keepPast⟩
theorem mi_M_kindOfLetter : MIS y_M_kindOfLetter b_M_kindOfLetter 1 (some .int) 1 := ⟨⟨wC_M_kindOfLetter, wN_M, ⟨by decide +kernel, by decide +kernel, by decide +kernel⟩, by decide, by decide +kernel⟩, wT_M_kindOfLetter⟩
theorem mi_M_lay : MIV y_M_lay b_M_lay 6 (some .int) 3 := ⟨⟨wC_M_lay, wN_M, ⟨by decide +kernel, by decide +kernel, by decide +kernel⟩, by decide, by decide +kernel⟩, wI_M_lay, wS_M_lay⟩
theorem mi_M_layBest : MIV y_M_layBest b_M_layBest 4 (some .boolean) 0 := ⟨⟨wC_M_layBest, wN_M, ⟨by decide +kernel, by decide +kernel, by decide +kernel⟩, by decide, by decide +kernel⟩, wI_M_layBest, wS_M_layBest⟩
theorem mi_M_layBlushes : MIV y_M_layBlushes b_M_layBlushes 3 (some .int) 1 := ⟨⟨wC_M_layBlushes, wN_M, ⟨by decide +kernel, by decide +kernel, by decide +kernel⟩, by decide, by decide +kernel⟩, wI_M_layBlushes, wS_M_layBlushes⟩
theorem mi_M_layPairs : MIV y_M_layPairs b_M_layPairs 3 none 0 := ⟨⟨wC_M_layPairs, wN_M, ⟨by decide +kernel, by decide +kernel, by decide +kernel⟩, by decide, by decide +kernel⟩, wI_M_layPairs, wS_M_layPairs⟩
theorem mi_M_leastOfRing : MIV y_M_leastOfRing b_M_leastOfRing 3 (some .int) 0 := ⟨⟨wC_M_leastOfRing, wN_M, ⟨by decide +kernel, by decide +kernel, by decide +kernel⟩, by decide, by decide +kernel⟩, wI_M_leastOfRing, wS_M_leastOfRing⟩
theorem mi_M_leave : MIV y_M_leave b_M_leave 3 none 2 := ⟨⟨wC_M_leave, wN_M, ⟨by decide +kernel, by decide +kernel, by decide +kernel⟩, by decide, by decide +kernel⟩, wI_M_leave, wS_M_leave⟩
theorem mi_M_left : MIV y_M_left b_M_left 4 (some .int) 1 := ⟨⟨wC_M_left, wN_M, ⟨by decide +kernel, by decide +kernel, by decide +kernel⟩, by decide, by decide +kernel⟩, wI_M_left, wS_M_left⟩
theorem mi_M_lessen : MIV y_M_lessen b_M_lessen 8 none 4 := ⟨⟨wC_M_lessen, wN_M, ⟨by decide +kernel, by decide +kernel, by decide +kernel⟩, by decide, by decide +kernel⟩, wI_M_lessen, wS_M_lessen⟩
theorem mi_M_lots : MIV y_M_lots b_M_lots 9 (some .int) 2 := ⟨⟨wC_M_lots, wN_M, ⟨by decide +kernel, by decide +kernel, by decide +kernel⟩, by decide, by decide +kernel⟩, wI_M_lots, wS_M_lots⟩
theorem mi_M_lower : MIV y_M_lower b_M_lower 1 (some .long) 0 := ⟨⟨wC_M_lower, wN_M, ⟨by decide +kernel, by decide +kernel, by decide +kernel⟩, by decide, by decide +kernel⟩, wI_M_lower, wS_M_lower⟩
theorem mi_M_makeRow : MIV y_M_makeRow b_M_makeRow 4 none 2 := ⟨⟨wC_M_makeRow, wN_M, ⟨by decide +kernel, by decide +kernel, by decide +kernel⟩, by decide, by decide +kernel⟩, wI_M_makeRow, wS_M_makeRow⟩
theorem mi_M_mark : MIV y_M_mark b_M_mark 4 (some .int) 2 := ⟨⟨wC_M_mark, wN_M, ⟨by decide +kernel, by decide +kernel, by decide +kernel⟩, by decide, by decide +kernel⟩, wI_M_mark, wS_M_mark⟩
theorem mi_M_mean : MIV y_M_mean b_M_mean 5 (some .int) 1 := ⟨⟨wC_M_mean, wN_M, ⟨by decide +kernel, by decide +kernel, by decide +kernel⟩, by decide, by decide +kernel⟩, wI_M_mean, wS_M_mean⟩
theorem mi_M_meet : MIV y_M_meet b_M_meet 3 (some .int) 2 := ⟨⟨wC_M_meet, wN_M, ⟨by decide +kernel, by decide +kernel, by decide +kernel⟩, by decide, by decide +kernel⟩, wI_M_meet, wS_M_meet⟩
theorem mi_M_mistletoe : MIV y_M_mistletoe b_M_mistletoe 6 (some .int) 0 := ⟨⟨wC_M_mistletoe, wN_M, ⟨by decide +kernel, by decide +kernel, by decide +kernel⟩, by decide, by decide +kernel⟩, wI_M_mistletoe, wS_M_mistletoe⟩
theorem mi_M_net : MIV y_M_net b_M_net 6 (some .int) 1 := ⟨⟨wC_M_net, wN_M, ⟨by decide +kernel, by decide +kernel, by decide +kernel⟩, by decide, by decide +kernel⟩, wI_M_net, wS_M_net⟩
theorem mi_M_netted : MIV y_M_netted b_M_netted 6 (some .int) 3 := ⟨⟨wC_M_netted, wN_M, ⟨by decide +kernel, by decide +kernel, by decide +kernel⟩, by decide, by decide +kernel⟩, wI_M_netted, wS_M_netted⟩
theorem mi_M_nextRing : MIV y_M_nextRing b_M_nextRing 4 (some .boolean) 0 := ⟨⟨wC_M_nextRing, wN_M, ⟨by decide +kernel, by decide +kernel, by decide +kernel⟩, by decide, by decide +kernel⟩, wI_M_nextRing, wS_M_nextRing⟩
theorem mi_M_odds : MIV y_M_odds b_M_odds 3 (some .int) 0 := ⟨⟨wC_M_odds, wN_M, ⟨by decide +kernel, by decide +kernel, by decide +kernel⟩, by decide, by decide +kernel⟩, wI_M_odds, wS_M_odds⟩
theorem mi_M_of : MIV y_M_of b_M_of 3 (some .int) 2 := ⟨⟨wC_M_of, wN_M, ⟨by decide +kernel, by decide +kernel, by decide +kernel⟩, by decide, by decide +kernel⟩, wI_M_of, wS_M_of⟩
theorem mi_M_on : MIV y_M_on b_M_on 2 (some .int) 1 := ⟨⟨wC_M_on, wN_M, ⟨by decide +kernel, by decide +kernel, by decide +kernel⟩, by decide, by decide +kernel⟩, wI_M_on, wS_M_on⟩
theorem mi_M_openKisses : MIV y_M_openKisses b_M_openKisses 3 (some .int) 0 := ⟨⟨wC_M_openKisses, wN_M, ⟨by decide +kernel, by decide +kernel, by decide +kernel⟩, by decide, by decide +kernel⟩, wI_M_openKisses, wS_M_openKisses⟩
theorem mi_M_openMany : MIV y_M_openMany b_M_openMany 3 (some .int) 0 := ⟨⟨wC_M_openMany, wN_M, ⟨by decide +kernel, by decide +kernel, by decide +kernel⟩, by decide, by decide +kernel⟩, wI_M_openMany, wS_M_openMany⟩
theorem mi_M_openOn : MIV y_M_openOn b_M_openOn 4 (some .int) 1 := ⟨⟨wC_M_openOn, wN_M, ⟨by decide +kernel, by decide +kernel, by decide +kernel⟩, by decide, by decide +kernel⟩, wI_M_openOn, wS_M_openOn⟩
theorem mi_M_openTo : MIV y_M_openTo b_M_openTo 4 (some .int) 1 := ⟨⟨wC_M_openTo, wN_M, ⟨by decide +kernel, by decide +kernel, by decide +kernel⟩, by decide, by decide +kernel⟩, wI_M_openTo, wS_M_openTo⟩
theorem mi_M_owe : MIV y_M_owe b_M_owe 3 (some .int) 2 := ⟨⟨wC_M_owe, wN_M, ⟨by decide +kernel, by decide +kernel, by decide +kernel⟩, by decide, by decide +kernel⟩, wI_M_owe, wS_M_owe⟩
theorem mi_M_owed : MIV y_M_owed b_M_owed 5 (some .int) 2 := ⟨⟨wC_M_owed, wN_M, ⟨by decide +kernel, by decide +kernel, by decide +kernel⟩, by decide, by decide +kernel⟩, wI_M_owed, wS_M_owed⟩
theorem mi_M_owesTo : MIV y_M_owesTo b_M_owesTo 4 (some .int) 1 := ⟨⟨wC_M_owesTo, wN_M, ⟨by decide +kernel, by decide +kernel, by decide +kernel⟩, by decide, by decide +kernel⟩, wI_M_owesTo, wS_M_owesTo⟩
theorem mi_M_owing : MIV y_M_owing b_M_owing 4 (some .int) 1 := ⟨⟨wC_M_owing, wN_M, ⟨by decide +kernel, by decide +kernel, by decide +kernel⟩, by decide, by decide +kernel⟩, wI_M_owing, wS_M_owing⟩
theorem mi_M_pairs : MIV y_M_pairs b_M_pairs 2 (some .int) 0 := ⟨⟨wC_M_pairs, wN_M, ⟨by decide +kernel, by decide +kernel, by decide +kernel⟩, by decide, by decide +kernel⟩, wI_M_pairs, wS_M_pairs⟩
theorem mi_M_person : MIV y_M_person b_M_person 3 (some .int) 2 := ⟨⟨wC_M_person, wN_M, ⟨by decide +kernel, by decide +kernel, by decide +kernel⟩, by decide, by decide +kernel⟩, wI_M_person, wS_M_person⟩
theorem mi_M_put : MIV y_M_put b_M_put 5 (some .int) 3 := ⟨⟨wC_M_put, wN_M, ⟨by decide +kernel, by decide +kernel, by decide +kernel⟩, by decide, by decide +kernel⟩, wI_M_put, wS_M_put⟩
theorem mi_M_rate : MIV y_M_rate b_M_rate 3 (some .long) 2 := ⟨⟨wC_M_rate, wN_M, ⟨by decide +kernel, by decide +kernel, by decide +kernel⟩, by decide, by decide +kernel⟩, wI_M_rate, wS_M_rate⟩
theorem mi_M_readsDraft : MIV y_M_readsDraft b_M_readsDraft 3 (some .boolean) 0 := ⟨⟨wC_M_readsDraft, wN_M, ⟨by decide +kernel, by decide +kernel, by decide +kernel⟩, by decide, by decide +kernel⟩, wI_M_readsDraft, wS_M_readsDraft⟩
theorem mi_M_readsPerson : MIV y_M_readsPerson b_M_readsPerson 2 (some .boolean) 0 := ⟨⟨wC_M_readsPerson, wN_M, ⟨by decide +kernel, by decide +kernel, by decide +kernel⟩, by decide, by decide +kernel⟩, wI_M_readsPerson, wS_M_readsPerson⟩
theorem mi_M_refused : MIV y_M_refused b_M_refused 3 (some .int) 2 := ⟨⟨wC_M_refused, wN_M, ⟨by decide +kernel, by decide +kernel, by decide +kernel⟩, by decide, by decide +kernel⟩, wI_M_refused, wS_M_refused⟩
theorem mi_M_reserve : MIV y_M_reserve b_M_reserve 2 (some .int) 1 := ⟨⟨wC_M_reserve, wN_M, ⟨by decide +kernel, by decide +kernel, by decide +kernel⟩, by decide, by decide +kernel⟩, wI_M_reserve, wS_M_reserve⟩
theorem mi_M_ring : MIV y_M_ring b_M_ring 4 (some .int) 2 := ⟨⟨wC_M_ring, wN_M, ⟨by decide +kernel, by decide +kernel, by decide +kernel⟩, by decide, by decide +kernel⟩, wI_M_ring, wS_M_ring⟩
theorem mi_M_ringsOf : MIV y_M_ringsOf b_M_ringsOf 6 (some .int) 2 := ⟨⟨wC_M_ringsOf, wN_M, ⟨by decide +kernel, by decide +kernel, by decide +kernel⟩, by decide, by decide +kernel⟩, wI_M_ringsOf, wS_M_ringsOf⟩
theorem mi_M_rounds : MIV y_M_rounds b_M_rounds 2 (some .int) 0 := ⟨⟨wC_M_rounds, wN_M, ⟨by decide +kernel, by decide +kernel, by decide +kernel⟩, by decide, by decide +kernel⟩, wI_M_rounds, wS_M_rounds⟩
theorem mi_M_row : MIV y_M_row b_M_row 3 (some .int) 2 := ⟨⟨wC_M_row, wN_M, ⟨by decide +kernel, by decide +kernel, by decide +kernel⟩, by decide, by decide +kernel⟩, wI_M_row, wS_M_row⟩
theorem mi_M_saved : MIV y_M_saved b_M_saved 4 (some .int) 2 := ⟨⟨wC_M_saved, wN_M, ⟨by decide +kernel, by decide +kernel, by decide +kernel⟩, by decide, by decide +kernel⟩, wI_M_saved, wS_M_saved⟩
theorem mi_M_skip : MIV y_M_skip b_M_skip 1 none 0 := ⟨⟨wC_M_skip, wN_M, ⟨by decide +kernel, by decide +kernel, by decide +kernel⟩, by decide, by decide +kernel⟩, wI_M_skip, wS_M_skip⟩
theorem mi_M_souring : MIV y_M_souring b_M_souring 4 (some .int) 1 := ⟨⟨wC_M_souring, wN_M, ⟨by decide +kernel, by decide +kernel, by decide +kernel⟩, by decide, by decide +kernel⟩, wI_M_souring, wS_M_souring⟩
theorem mi_M_sumOf : MIV y_M_sumOf b_M_sumOf 6 (some .int) 3 := ⟨⟨wC_M_sumOf, wN_M, ⟨by decide +kernel, by decide +kernel, by decide +kernel⟩, by decide, by decide +kernel⟩, wI_M_sumOf, wS_M_sumOf⟩
theorem mi_M_sure : MIV y_M_sure b_M_sure 3 (some .int) 1 := ⟨⟨wC_M_sure, wN_M, ⟨by decide +kernel, by decide +kernel, by decide +kernel⟩, by decide, by decide +kernel⟩, wI_M_sure, wS_M_sure⟩
theorem mi_M_tear : MIV y_M_tear b_M_tear 2 (some .int) 1 := ⟨⟨wC_M_tear, wN_M, ⟨by decide +kernel, by decide +kernel, by decide +kernel⟩, by decide, by decide +kernel⟩, wI_M_tear, wS_M_tear⟩
theorem mi_M_tell : MIV y_M_tell b_M_tell 2 (some .int) 1 := ⟨⟨wC_M_tell, wN_M, ⟨by decide +kernel, by decide +kernel, by decide +kernel⟩, by decide, by decide +kernel⟩, wI_M_tell, wS_M_tell⟩
theorem mi_M_text : MIV y_M_text b_M_text 4 (some .int) 2 := ⟨⟨wC_M_text, wN_M, ⟨by decide +kernel, by decide +kernel, by decide +kernel⟩, by decide, by decide +kernel⟩, wI_M_text, wS_M_text⟩
theorem mi_M_thereOf : MIV y_M_thereOf b_M_thereOf 4 (some .int) 1 := ⟨⟨wC_M_thereOf, wN_M, ⟨by decide +kernel, by decide +kernel, by decide +kernel⟩, by decide, by decide +kernel⟩, wI_M_thereOf, wS_M_thereOf⟩
theorem mi_M_toldOf : MIV y_M_toldOf b_M_toldOf 3 (some .int) 2 := ⟨⟨wC_M_toldOf, wN_M, ⟨by decide +kernel, by decide +kernel, by decide +kernel⟩, by decide, by decide +kernel⟩, wI_M_toldOf, wS_M_toldOf⟩
theorem mi_M_trust : MIV y_M_trust b_M_trust 7 (some .int) 2 := ⟨⟨wC_M_trust, wN_M, ⟨by decide +kernel, by decide +kernel, by decide +kernel⟩, by decide, by decide +kernel⟩, wI_M_trust, wS_M_trust⟩
theorem mi_M_undo : MIV y_M_undo b_M_undo 4 (some .int) 1 := ⟨⟨wC_M_undo, wN_M, ⟨by decide +kernel, by decide +kernel, by decide +kernel⟩, by decide, by decide +kernel⟩, wI_M_undo, wS_M_undo⟩
theorem mi_M_upper : MIV y_M_upper b_M_upper 1 (some .long) 0 := ⟨⟨wC_M_upper, wN_M, ⟨by decide +kernel, by decide +kernel, by decide +kernel⟩, by decide, by decide +kernel⟩, wI_M_upper, wS_M_upper⟩
theorem mi_M_village : MIV y_M_village b_M_village 3 (some .int) 1 := ⟨⟨wC_M_village, wN_M, ⟨by decide +kernel, by decide +kernel, by decide +kernel⟩, by decide, by decide +kernel⟩, wI_M_village, wS_M_village⟩
theorem mi_M_week : MIV y_M_week b_M_week 5 (some .int) 0 := ⟨⟨wC_M_week, wN_M, ⟨by decide +kernel, by decide +kernel, by decide +kernel⟩, by decide, by decide +kernel⟩, wI_M_week, wS_M_week⟩
theorem mi_M_worst : MIV y_M_worst b_M_worst 5 (some .int) 0 := ⟨⟨wC_M_worst, wN_M, ⟨by decide +kernel, by decide +kernel, by decide +kernel⟩, by decide, by decide +kernel⟩, wI_M_worst, wS_M_worst⟩
theorem mi_M_worth : MIV y_M_worth b_M_worth 2 (some .int) 1 := ⟨⟨wC_M_worth, wN_M, ⟨by decide +kernel, by decide +kernel, by decide +kernel⟩, by decide, by decide +kernel⟩, wI_M_worth, wS_M_worth⟩
theorem mi_J_bitCount : MIS y_J_bitCount b_J_bitCount 1 (some .int) 1 := ⟨⟨wC_J_bitCount, wN_J, ⟨by decide +kernel, by decide +kernel, by decide +kernel⟩, by decide, by decide +kernel⟩, wT_J_bitCount⟩
theorem PX_blind {D : va_G} {ad : Nat → Nat} {cs : Nat → ClassId} {A : Nat → Prop} {L : List Nat} {av : List Value} {M : Mem} : FrameBlind (PX D ad cs A L av M) := by
  intro a U g mk h
  obtain ⟨h1, h2, h3, h4⟩ := h
  exact ⟨h1, h2, va_K.moved (u := U) (U := U.calling g mk a) (Vm.Alike.refl U.vm) h3, h4.blind⟩
theorem x_enter {l : Launch} {y : MethodName} {bytes : ByteArray} {maxL n : Nat} {ret : Option FieldType} {d : Nat} {D : va_G} {ad : Nat → Nat} {cs : Nat → ClassId} {A : Nat → Prop} {L : List Nat} {av : List Value} {M N : Mem} {V : Option Value} {lv : List (Nat × Value)} (E : Ev ad cs A L) (I : MI0 y bytes maxL ret n) (hlen : (lg_sl av).length ≤ maxL) (hlv : lv_args 0 av = lv)
    (body : ∀ (p : Program) (e : Env) (s : State) (m : MethodId) (args : Array Value) (below : List Frame) (meth : Method) (c : Code), Cx p s m args meth c y.cls bytes maxL ret D ad cs A L → X p l e d s m args below meth c maxL D ad cs A L V N M 0 lv []) :
    Met l y (Cond.code y bytes maxL ret :: wl) (rmD d) (PX D ad cs A L av M) (QX D ad cs A L V N) 0 0 A := by
  refine Met.ofW (cc := bytes) (maxL := maxL) (ret := ret) I.2.2.2.2 rfl ?_
  intro p e s m args below meth c s₁ B hml hv
  obtain ⟨rfl, hP, hK, hSt⟩ := hv
  have hts := atoms_spec (ws := Cond.code y bytes maxL ret :: wl) B.pre
  have hown : s.vm.findClass y.cls = some m.cls := findClass_of_methodNamed B.named
  rw [lg_entry_eq]
  have hl := lv_entry av (n := maxL) hlen
  rw [hlv] at hl
  exact body p e s m _ below meth c ⟨B.exec, B.bytes, hml, hown, fun w h => hts w (List.mem_cons_of_mem _ h), B.returns, B.notSynchronized, hK, hSt, E⟩ s.heap [] _ hP va_S.rf hl
section XC
variable {p : Program} {l : Launch} {e : Env} {d : Nat} {s : State} {m : MethodId} {args : Array Value} {below : List Frame} {meth : Method} {c : Code} {own : String} {cc : ByteArray} {nL : Nat} {ret : Option FieldType} {D : va_G} {ad : Nat → Nat} {cs : Nat → ClassId} {A : Nat → Prop} {L : List Nat} {V : Option Value} {N M : Mem} {pc : Nat} {lv lv' : List (Nat × Value)} {st : List Value}
theorem x_iret {v : Int32} (C : Cx p s m args meth c own cc nL (some .int) D ad cs A L) (hd : decode cc pc = .ok (.ireturn, 1)) (hV : V = some (.int v)) (hN : N = M) : X p l e d s m args below meth c nL D ad cs A L V N M pc lv [.int v] := by
  subst hV; subst hN
  exact fun H locs ls hP hS hv => W.iret C.1 C.2.1 C.2.2.2.2.2.1 (fun t ht hW => ⟨⟨rfl, by rw [ht]; exact hP⟩, hS.F ht⟩) hS.2.2 hd C.2.2.2.2.2.2.1
theorem x_zret {v : Int32} (C : Cx p s m args meth c own cc nL (some .boolean) D ad cs A L) (hd : decode cc pc = .ok (.ireturn, 1)) (hb : v = 0 ∨ v = 1) (hV : V = some (.int v)) (hN : N = M) : X p l e d s m args below meth c nL D ad cs A L V N M pc lv [.int v] := by
  subst hV; subst hN
  exact fun H locs ls hP hS hv => W.zret C.1 C.2.1 C.2.2.2.2.2.1 (by rcases hb with rfl | rfl <;> rfl) (fun t ht hW => ⟨⟨rfl, by rw [ht]; exact hP⟩, hS.F ht⟩) hS.2.2 hd C.2.2.2.2.2.2.1
theorem x_lret {v : Int64} (C : Cx p s m args meth c own cc nL (some .long) D ad cs A L) (hd : decode cc pc = .ok (.lreturn, 1)) (hV : V = some (.long v)) (hN : N = M) : X p l e d s m args below meth c nL D ad cs A L V N M pc lv [.long v] := by
  subst hV; subst hN
  exact fun H locs ls hP hS hv => W.lret C.1 C.2.1 C.2.2.2.2.2.1 (fun t ht hW => ⟨⟨rfl, by rw [ht]; exact hP⟩, hS.F ht⟩) hS.2.2 hd C.2.2.2.2.2.2.1
theorem x_vret (C : Cx p s m args meth c own cc nL none D ad cs A L) (hd : decode cc pc = .ok (.return_, 1)) (hV : V = none) (hN : N = M) : X p l e d s m args below meth c nL D ad cs A L V N M pc lv [] := by
  subst hV; subst hN
  exact fun H locs ls hP hS hv => W.vret C.1 C.2.1 C.2.2.2.2.2.1 (fun t ht hW => ⟨⟨rfl, by rw [ht]; exact hP⟩, hS.F ht⟩) hS.2.2 hd C.2.2.2.2.2.2.1
theorem x_after {V' : Option Value} {M' : Mem} {a : Array Value} {rest : List Value} {H : Heap} {locs : List Loc} {ls : Array Slot} (hr : va_Run p l e (rmD d) s m args below meth c H locs 0 0 0 0 (F0 m pc ls st) rest (QX D ad cs A L V' M' a) A) (hS : va_S A s.heap H locs) (hv : lv_has ls nL lv)
    (kk : X p l e d s m args below meth c nL D ad cs A L V N M' (pc + 3) lv (V'.toList ++ rest)) : W p l e (rmD d) s m args below meth c H locs 0 0 (MQ below (QX D ad cs A L V N) args s 0 0 A) (F0 m pc ls st) := by
  intro T hT X0
  obtain ⟨v, st₀, t, T', L', h0, X', hL, e1, e2, ⟨⟨hv', hP1⟩, hz, hk⟩, stp⟩ := hr T hT X0
  cases hv'
  rw [h0] at hz hk
  obtain ⟨t2, a1, b1⟩ := kk T'.heap (locs ++ L') ls (by rw [e1]; exact hP1)
    ⟨Nat.le_trans hS.1 (by rw [e1]; exact hz), fun q h1 h2 => by rw [e1, hk q (Nat.lt_of_lt_of_le h1 hS.1) h2]; exact hS.2.1 q h1 h2, fun q hq => by
      rcases List.mem_append.mp hq with h | h
      · exact hS.2.2 q h
      · exact hL q h⟩ hv T' rfl X'
  exact ⟨t2, stp t2 a1, b1⟩
theorem rm_ok {d d' maxL : Nat} (h : d' + 1 ≤ d) (hm : maxL ≤ 21) : (rmD d').frames + 1 ≤ (rmD d).frames ∧ 8 + (maxL + 11) + (rmD d').locals ≤ (rmD d).locals := by
  refine ⟨h, ?_⟩
  show 8 + (maxL + 11) + 40 * d' ≤ 40 * d
  omega
theorem x_callV {y : MethodName} {bytes : ByteArray} {maxL n : Nat} {ret' : Option FieldType} {d' k index ci : Nat} {q : vw_C} {As rest : List Value} {M' : Mem} {V' : Option Value} (C : Cx p s m args meth c own cc nL ret D ad cs A L)
    (hM : Met l y (Cond.code y bytes maxL ret' :: wl) (rmD d') (PX D ad cs A L (.ref (ad k) :: As) M) (QX D ad cs A L V' M') 0 0 A) (I : MIV y bytes maxL ret' n) (hdd : d' + 1 ≤ d) (ha : k ∈ L) (hcl : ∃ fs, cel ad cs k (M k) = .inr (ci, fs)) (hc : cls9[ci]? = some q) (hq : q.1 = y.cls) (hl : Cond.methodLink own index y ∈ wl) (hd : decode cc pc = .ok (.invokevirtual index, 3)) (hn : As.length = n) (hst : st = As.reverse ++ .ref (ad k) :: rest) (hW : (rest.map fun v => v.category).sum ≤ 8)
    (kk : X p l e d s m args below meth c nL D ad cs A L V N M' (pc + 3) lv (V'.toList ++ rest)) : X p l e d s m args below meth c nL D ad cs A L V N M pc lv st := by
  obtain ⟨⟨i1, i2, i3, i4, i5⟩, i6, i7⟩ := I
  obtain ⟨hx, hb, hml, hown, hts, hr, hlk, hK, hSt, hE⟩ := C
  intro H locs ls hP hS hv
  subst hst
  obtain ⟨q0, hq0, hg⟩ := wsL_get (ad := ad) (cs := cs) (M := M) ha
  obtain ⟨fs, hfs⟩ := hcl
  rw [hfs] at hg
  have hrecv := va_recv hK hP hc hg
  rw [hq] at hrecv
  refine x_after (va_runV (As := As) (rest := rest) (C := y.cls) (n := n) (bytes := bytes) (maxL := maxL) (ret := ret') ⟨hx, hb, hml, hown, hts⟩ hM ⟨callB_of n hts (wl_goodIn i1) rfl rfl rfl (hts _ i2) (hts _ hl) i3 (rm_ok hdd i4), hts _ i6, hts _ i7⟩ ⟨PX_blind, hrecv, fun U hU hWm => ⟨rfl, by rw [hU]; exact hP, va_K.moved hWm.alike hK, hSt.call hS hU hWm⟩⟩ rfl hn hv.1 rfl (lv_room hW) hd ⟨Nat.le_refl _, Nat.le_refl _⟩) hS hv kk
theorem x_callS {y : MethodName} {bytes : ByteArray} {maxL n : Nat} {ret' : Option FieldType} {d' index : Nat} {As rest : List Value} {M' : Mem} {V' : Option Value} (C : Cx p s m args meth c own cc nL ret D ad cs A L)
    (hM : Met l y (Cond.code y bytes maxL ret' :: wl) (rmD d') (PX D ad cs A L As M) (QX D ad cs A L V' M') 0 0 A) (I : MIS y bytes maxL ret' n) (hdd : d' + 1 ≤ d) (hl : Cond.methodLink own index y ∈ wl) (hd : decode cc pc = .ok (.invokestatic index, 3)) (hn : As.length = n) (hst : st = As.reverse ++ rest) (hW : (rest.map fun v => v.category).sum ≤ 8)
    (kk : X p l e d s m args below meth c nL D ad cs A L V N M' (pc + 3) lv (V'.toList ++ rest)) : X p l e d s m args below meth c nL D ad cs A L V N M pc lv st := by
  obtain ⟨⟨i1, i2, i3, i4, i5⟩, i6⟩ := I
  obtain ⟨hx, hb, hml, hown, hts, hr, hlk, hK, hSt, hE⟩ := C
  intro H locs ls hP hS hv
  subst hst
  refine x_after (va_runS (As := As) (rest := rest) (n := n) (bytes := bytes) (maxL := maxL) (ret := ret') ⟨hx, hb, hml, hown, hts⟩ hM ⟨callB_of n hts (wl_goodIn i1) rfl rfl rfl (hts _ i2) (hts _ hl) i3 (rm_ok hdd i4), hts _ i6⟩ ⟨PX_blind, fun U hU hWm => ⟨rfl, by rw [hU]; exact hP, va_K.moved hWm.alike hK, hSt.call hS hU hWm⟩⟩ rfl hn hv.1 rfl (lv_room hW) hd ⟨Nat.le_refl _, Nat.le_refl _⟩) hS hv kk
theorem x_gets (C : Cx p s m args meth c own cc nL ret D ad cs A L) (t : Nat) (ht : t < 5) {index : Nat} (ho : sow t = own) (hi : six t = index) (hd : decode cc pc = .ok (.getstatic index, 3)) (kk : X p l e d s m args below meth c nL D ad cs A L V N M (pc + 3) lv (.ref (ad (80 + t)) :: st)) : X p l e d s m args below meth c nL D ad cs A L V N M pc lv st := by
  intro H locs ls hP hS hv
  obtain ⟨h1, h2, h3⟩ := C.2.2.2.2.2.2.2.2.1 t ht
  rw [ho, hi] at h3
  exact va_getsN C.1 C.2.1 h1 hS C.2.2.2.1 (va_Nw.use rfl h3) (fun _ h => h) hd (kk H locs ls hP hS hv)
theorem x_rod (C : Cx p s m args meth c own cc nL ret D ad cs A L) {a : Nat} {i z : Int32} (hz : rod a i = some z) (h1 : 80 ≤ a) (h2 : a < 85) (hd : decode cc pc = .ok (.iaload, 1)) (kk : X p l e d s m args below meth c nL D ad cs A L V N M (pc + 1) lv (.int z :: st)) : X p l e d s m args below meth c nL D ad cs A L V N M pc lv (.int i :: .ref (ad a) :: st) := by
  obtain ⟨g1, rfl⟩ := gd hz
  obtain ⟨t, rfl⟩ : ∃ t, a = 80 + t := ⟨a - 80, by omega⟩
  intro H locs ls hP hS hv
  obtain ⟨-, hT, -⟩ := C.2.2.2.2.2.2.2.2.1 t (by omega)
  exact va_ti C.1 C.2.1 hT hS (inb_in g1) rfl hd (kk H locs ls hP hS hv)
theorem x_rolen (C : Cx p s m args meth c own cc nL ret D ad cs A L) {a : Nat} {v : Int32} (h1 : 80 ≤ a) (h2 : a < 85) (hw : Int32.ofNat (ln a) = v) (hd : decode cc pc = .ok (.arraylength, 1)) (kk : X p l e d s m args below meth c nL D ad cs A L V N M (pc + 1) lv (.int v :: st)) : X p l e d s m args below meth c nL D ad cs A L V N M pc lv (.ref (ad a) :: st) := by
  obtain ⟨t, rfl⟩ : ∃ t, a = 80 + t := ⟨a - 80, by omega⟩
  intro H locs ls hP hS hv
  obtain ⟨-, hT, -⟩ := C.2.2.2.2.2.2.2.2.1 t (by omega)
  exact va_tlen C.1 C.2.1 hT hS hw hd (kk H locs ls hP hS hv)
theorem x_max (C : Cx p s m args meth c own cc nL ret D ad cs A L) {index : Nat} {x y : Int32} (hl : Cond.methodLink own index Lib.Math.max.name ∈ wl) (h1 : 1 ≤ d) (hW : (st.map fun v => v.category).sum ≤ 8) (hd : decode cc pc = .ok (.invokestatic index, 3)) (kk : X p l e d s m args below meth c nL D ad cs A L V N M (pc + 3) lv (.int (if x < y then y else x) :: st)) : X p l e d s m args below meth c nL D ad cs A L V N M pc lv (.int y :: .int x :: st) := by
  intro H locs ls hP hS hv
  exact va_mmax C.1 C.2.1 (C.2.2.1.trans hv.1.symm) C.2.2.2.1 (C.2.2.2.2.1 _ hl) (C.2.2.2.2.1 _ wT_T_max) (C.2.2.2.2.1 _ wN_T) (C.2.2.2.2.1 _ wC_T_max) h1 (by show _ + 13 ≤ 40 * d; omega) (Nat.zero_le _) (Nat.zero_le _) hd (kk H locs ls hP hS hv)
theorem x_min (C : Cx p s m args meth c own cc nL ret D ad cs A L) {index : Nat} {x y : Int32} (hl : Cond.methodLink own index Lib.Math.min.name ∈ wl) (h1 : 1 ≤ d) (hW : (st.map fun v => v.category).sum ≤ 8) (hd : decode cc pc = .ok (.invokestatic index, 3)) (kk : X p l e d s m args below meth c nL D ad cs A L V N M (pc + 3) lv (.int (if y < x then y else x) :: st)) : X p l e d s m args below meth c nL D ad cs A L V N M pc lv (.int y :: .int x :: st) := by
  intro H locs ls hP hS hv
  exact va_mmin C.1 C.2.1 (C.2.2.1.trans hv.1.symm) C.2.2.2.1 (C.2.2.2.2.1 _ hl) (C.2.2.2.2.1 _ wT_T_min) (C.2.2.2.2.1 _ wN_T) (C.2.2.2.2.1 _ wC_T_min) h1 (by show _ + 13 ≤ 40 * d; omega) (Nat.zero_le _) (Nat.zero_le _) hd (kk H locs ls hP hS hv)
theorem x_acp (C : Cx p s m args meth c own cc nL ret D ad cs A L) {index a b : Nat} {i j n : Int32} {M' : Mem} (hz : acp M a i b j n = some M') (hl : Cond.methodLink own index arraycopyName ∈ wl) (h1 : 1 ≤ d) (hW : (st.map fun v => v.category).sum ≤ 8) (ha : a ∈ L) (hka : kd a = 0) (hb : b ∈ L) (hkb : kd b = 0) (hd : decode cc pc = .ok (.invokestatic index, 3)) (kk : X p l e d s m args below meth c nL D ad cs A L V N M' (pc + 3) lv st) : X p l e d s m args below meth c nL D ad cs A L V N M pc lv (.int n :: .int j :: .ref (ad b) :: .int i :: .ref (ad a) :: st) := by
  obtain ⟨⟨g1, g2, g3, g4, g5⟩, rfl⟩ := gd hz
  intro H locs ls hP hS hv
  obtain ⟨q, hq, hg⟩ := wsL_get (ad := ad) (cs := cs) (M := M) ha
  rw [cel_0 hka] at hg
  obtain ⟨q', hq', hg'⟩ := wsL_get (ad := ad) (cs := cs) (M := M) hb
  rw [cel_0 hkb] at hg'
  refine va_copyi C.1 C.2.1 (C.2.2.1.trans hv.1.symm) C.2.2.2.1 (C.2.2.2.2.1 _ hl) (C.2.2.2.2.1 _ wnat) (C.2.2.2.2.1 _ wT_Y_arraycopy) (C.2.2.2.2.1 _ wN_Y) C.2.2.2.2.2.2.2.1 hP (C.2.2.2.2.2.2.2.2.2.2 M) hS q q' 0 0 hg hg' rfl rfl rfl (Int32.not_lt.mpr g1) (Int32.not_lt.mpr g2) (Int32.not_lt.mpr g3) g4 g5 (fun _ _ => rfl) h1 ?_ hd (fun H1 locs1 hP1 hD1 hS1 => ?_)
  · show _ + (nativeFrameWords "java/lang/System" "arraycopy" 5 + 11) ≤ 40 * d
    have e9 : nativeFrameWords "java/lang/System" "arraycopy" 5 = 7 := by decide +kernel
    rw [e9]; omega
  · have e1 := wsL_set (ad := ad) (cs := cs) C.2.2.2.2.2.2.2.2.2.1 (M := M) hq' (va_cpy (M a) (M b) i.toNatClampNeg j.toNatClampNeg n.toNatClampNeg)
    rw [cel_0 hkb] at e1
    exact kk H1 locs1 ls (by rw [← e1]; exact hP1) hS1 hv
end XC
