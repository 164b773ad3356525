/-- the words that a call carries along -/
def gx_T : List Cond := lw_tbl.filter goodWord
theorem gx_inS {w : Cond} (n : Nat) (h : (k2_sels lw_privs)[n]? = some w) (hg : goodWord w = true) : w ∈ gx_T := List.mem_filter.mpr ⟨List.mem_append_left _ (List.mem_of_getElem? h), hg⟩
theorem gx_il1 {w : Cond} (n : Nat) (h : tables_1_1[n]? = some w) : w ∈ lw_tbl := List.mem_append_right _ (by simp only [tables_1, List.mem_append]; exact .inl (List.mem_of_getElem? h))
theorem gx_in1 {w : Cond} (n : Nat) (h : tables_1_1[n]? = some w) (hg : goodWord w = true) : w ∈ gx_T := List.mem_filter.mpr ⟨gx_il1 n h, hg⟩
theorem gx_il2 {w : Cond} (n : Nat) (h : tables_1_2[n]? = some w) : w ∈ lw_tbl := List.mem_append_right _ (by simp only [tables_1, List.mem_append]; exact .inr (.inl (List.mem_of_getElem? h)))
theorem gx_in2 {w : Cond} (n : Nat) (h : tables_1_2[n]? = some w) (hg : goodWord w = true) : w ∈ gx_T := List.mem_filter.mpr ⟨gx_il2 n h, hg⟩
theorem gx_il3 {w : Cond} (n : Nat) (h : tables_1_3[n]? = some w) : w ∈ lw_tbl := List.mem_append_right _ (by simp only [tables_1, List.mem_append]; exact .inr (.inr (.inl (List.mem_of_getElem? h))))
theorem gx_in3 {w : Cond} (n : Nat) (h : tables_1_3[n]? = some w) (hg : goodWord w = true) : w ∈ gx_T := List.mem_filter.mpr ⟨gx_il3 n h, hg⟩
theorem gx_il4 {w : Cond} (n : Nat) (h : tables_1_4[n]? = some w) : w ∈ lw_tbl := List.mem_append_right _ (by simp only [tables_1, List.mem_append]; exact .inr (.inr (.inr (.inl (List.mem_of_getElem? h)))))
theorem gx_in4 {w : Cond} (n : Nat) (h : tables_1_4[n]? = some w) (hg : goodWord w = true) : w ∈ gx_T := List.mem_filter.mpr ⟨gx_il4 n h, hg⟩
theorem gx_il5 {w : Cond} (n : Nat) (h : tables_1_5[n]? = some w) : w ∈ lw_tbl := List.mem_append_right _ (by simp only [tables_1, List.mem_append]; exact .inr (.inr (.inr (.inr (.inl (List.mem_of_getElem? h))))))
theorem gx_in5 {w : Cond} (n : Nat) (h : tables_1_5[n]? = some w) (hg : goodWord w = true) : w ∈ gx_T := List.mem_filter.mpr ⟨gx_il5 n h, hg⟩
theorem gx_il6 {w : Cond} (n : Nat) (h : tables_1_6[n]? = some w) : w ∈ lw_tbl := List.mem_append_right _ (by simp only [tables_1, List.mem_append]; exact .inr (.inr (.inr (.inr (.inr (List.mem_of_getElem? h))))))
theorem gx_in6 {w : Cond} (n : Nat) (h : tables_1_6[n]? = some w) (hg : goodWord w = true) : w ∈ gx_T := List.mem_filter.mpr ⟨gx_il6 n h, hg⟩
theorem ws_yX7_isNumber : Cond.selects RX7 yX7_isNumber yX7_isNumber ∈ gx_T := gx_inS 0 rfl rfl
theorem ws_yX7_isOne : Cond.selects RX7 yX7_isOne yX7_isOne ∈ gx_T := gx_inS 1 rfl rfl
theorem ws_yX7_isPm : Cond.selects RX7 yX7_isPm yX7_isPm ∈ gx_T := gx_inS 2 rfl rfl
theorem ws_yX6_readLine : Cond.selects RX6 yX6_readLine yX6_readLine ∈ gx_T := gx_inS 3 rfl rfl
theorem ws_yX6_readLevel : Cond.selects RX6 yX6_readLevel yX6_readLevel ∈ gx_T := gx_inS 4 rfl rfl
theorem ws_yX6_readOne : Cond.selects RX6 yX6_readOne yX6_readOne ∈ gx_T := gx_inS 5 rfl rfl
theorem ws_yX6_next : Cond.selects RX6 yX6_next yX6_next ∈ gx_T := gx_inS 6 rfl rfl
theorem ws_yX6_readNumber : Cond.selects RX6 yX6_readNumber yX6_readNumber ∈ gx_T := gx_inS 7 rfl rfl
theorem ws_yX6_emit : Cond.selects RX6 yX6_emit yX6_emit ∈ gx_T := gx_inS 8 rfl rfl
theorem ws_yX6_readClose : Cond.selects RX6 yX6_readClose yX6_readClose ∈ gx_T := gx_inS 9 rfl rfl
theorem ws_yX3_worth : Cond.selects RX3 yX3_worth yX3_worth ∈ gx_T := gx_inS 10 rfl rfl
theorem ws_yX4_outIn : Cond.selects RX4 yX4_outIn yX4_outIn ∈ gx_T := gx_inS 11 rfl rfl
theorem ws_yX4_spread : Cond.selects RX4 yX4_spread yX4_spread ∈ gx_T := gx_inS 12 rfl rfl
theorem ws_yX4_nextDealing : Cond.selects RX4 yX4_nextDealing yX4_nextDealing ∈ gx_T := gx_inS 13 rfl rfl
theorem ws_yX4_exchange : Cond.selects RX4 yX4_exchange yX4_exchange ∈ gx_T := gx_inS 14 rfl rfl
theorem ws_yX4_comesInAll : Cond.selects RX4 yX4_comesInAll yX4_comesInAll ∈ gx_T := gx_inS 15 rfl rfl
theorem ws_yX4_favourite : Cond.selects RX4 yX4_favourite yX4_favourite ∈ gx_T := gx_inS 16 rfl rfl
theorem ws_yX4_caughtOfAll : Cond.selects RX4 yX4_caughtOfAll yX4_caughtOfAll ∈ gx_T := gx_inS 17 rfl rfl
theorem ws_yX4_soak : Cond.selects RX4 yX4_soak yX4_soak ∈ gx_T := gx_inS 18 rfl rfl
theorem ws_yX4_gainedInAll : Cond.selects RX4 yX4_gainedInAll yX4_gainedInAll ∈ gx_T := gx_inS 19 rfl rfl
theorem ws_yX7_isBody : Cond.selects RX7 yX7_isBody yX7_isBody ∈ gx_T := gx_inS 20 rfl rfl
theorem ws_yX0_does : Cond.selects RX0 yX0_does yX0_does ∈ gx_T := gx_inS 21 rfl rfl
theorem ws_yX0_plays : Cond.selects RX0 yX0_plays yX0_plays ∈ gx_T := gx_inS 22 rfl rfl
theorem ws_yX7_placeRefusal : Cond.selects RX7 yX7_placeRefusal yX7_placeRefusal ∈ gx_T := gx_inS 23 rfl rfl
theorem ws_yX8_addOne : Cond.selects RX8 yX8_addOne yX8_addOne ∈ gx_T := gx_inS 24 rfl rfl
theorem ws_yX8_lays : Cond.selects RX8 yX8_lays yX8_lays ∈ gx_T := gx_inS 25 rfl rfl
theorem ws_yX8_isPlace : Cond.selects RX8 yX8_isPlace yX8_isPlace ∈ gx_T := gx_inS 26 rfl rfl
theorem ws_yX8_isOne : Cond.selects RX8 yX8_isOne yX8_isOne ∈ gx_T := gx_inS 27 rfl rfl
theorem ws_yX8_areMark : Cond.selects RX8 yX8_areMark yX8_areMark ∈ gx_T := gx_inS 28 rfl rfl
theorem ws_yX8_changes : Cond.selects RX8 yX8_changes yX8_changes ∈ gx_T := gx_inS 29 rfl rfl
theorem ws_yX8_valueAt : Cond.selects RX8 yX8_valueAt yX8_valueAt ∈ gx_T := gx_inS 30 rfl rfl
theorem ws_yX8_readText : Cond.selects RX8 yX8_readText yX8_readText ∈ gx_T := gx_inS 31 rfl rfl
theorem ws_yX8_line : Cond.selects RX8 yX8_line yX8_line ∈ gx_T := gx_inS 32 rfl rfl
theorem ws_yX8_either : Cond.selects RX8 yX8_either yX8_either ∈ gx_T := gx_inS 33 rfl rfl
theorem ws_yX8_both : Cond.selects RX8 yX8_both yX8_both ∈ gx_T := gx_inS 34 rfl rfl
theorem ws_yX8_compared : Cond.selects RX8 yX8_compared yX8_compared ∈ gx_T := gx_inS 35 rfl rfl
theorem ws_yX8_sum : Cond.selects RX8 yX8_sum yX8_sum ∈ gx_T := gx_inS 36 rfl rfl
theorem ws_yX8_product : Cond.selects RX8 yX8_product yX8_product ∈ gx_T := gx_inS 37 rfl rfl
theorem ws_yX8_operand : Cond.selects RX8 yX8_operand yX8_operand ∈ gx_T := gx_inS 38 rfl rfl
theorem ws_yX8_look : Cond.selects RX8 yX8_look yX8_look ∈ gx_T := gx_inS 39 rfl rfl
theorem ws_yX8_addStep : Cond.selects RX8 yX8_addStep yX8_addStep ∈ gx_T := gx_inS 40 rfl rfl
theorem ws_yX8_opens : Cond.selects RX8 yX8_opens yX8_opens ∈ gx_T := gx_inS 41 rfl rfl
theorem ws_yX8_wrong : Cond.selects RX8 yX8_wrong yX8_wrong ∈ gx_T := gx_inS 42 rfl rfl
theorem ws_yX8_figure : Cond.selects RX8 yX8_figure yX8_figure ∈ gx_T := gx_inS 43 rfl rfl
theorem ws_yX8_layNow : Cond.selects RX8 yX8_layNow yX8_layNow ∈ gx_T := gx_inS 44 rfl rfl
theorem ws_yX8_outAt : Cond.selects RX8 yX8_outAt yX8_outAt ∈ gx_T := gx_inS 45 rfl rfl
theorem ws_yX8_flow : Cond.selects RX8 yX8_flow yX8_flow ∈ gx_T := gx_inS 46 rfl rfl
theorem ws_yX8_runOf : Cond.selects RX8 yX8_runOf yX8_runOf ∈ gx_T := gx_inS 47 rfl rfl
theorem ws_yX8_gives : Cond.selects RX8 yX8_gives yX8_gives ∈ gx_T := gx_inS 48 rfl rfl
theorem ws_yX8_worked : Cond.selects RX8 yX8_worked yX8_worked ∈ gx_T := gx_inS 49 rfl rfl
theorem ws_yX8_toPorter : Cond.selects RX8 yX8_toPorter yX8_toPorter ∈ gx_T := gx_inS 50 rfl rfl
theorem ws_yX8_goHours : Cond.selects RX8 yX8_goHours yX8_goHours ∈ gx_T := gx_inS 51 rfl rfl
theorem ws_yX8_goMark : Cond.selects RX8 yX8_goMark yX8_goMark ∈ gx_T := gx_inS 52 rfl rfl
theorem ws_yX8_wetsBy : Cond.selects RX8 yX8_wetsBy yX8_wetsBy ∈ gx_T := gx_inS 53 rfl rfl
theorem ws_yX8_allWet : Cond.selects RX8 yX8_allWet yX8_allWet ∈ gx_T := gx_inS 54 rfl rfl
theorem ws_yX8_wetter : Cond.selects RX8 yX8_wetter yX8_wetter ∈ gx_T := gx_inS 55 rfl rfl
theorem ws_yX8_goDealing : Cond.selects RX8 yX8_goDealing yX8_goDealing ∈ gx_T := gx_inS 56 rfl rfl
theorem ws_yX8_wetOfDealing : Cond.selects RX8 yX8_wetOfDealing yX8_wetOfDealing ∈ gx_T := gx_inS 57 rfl rfl
theorem ws_yX8_rowFault : Cond.selects RX8 yX8_rowFault yX8_rowFault ∈ gx_T := gx_inS 58 rfl rfl
theorem ws_yX8_isJust : Cond.selects RX8 yX8_isJust yX8_isJust ∈ gx_T := gx_inS 59 rfl rfl
theorem ws_yX8_at : Cond.selects RX8 yX8_at yX8_at ∈ gx_T := gx_inS 60 rfl rfl
theorem ws_yX8_layComes : Cond.selects RX8 yX8_layComes yX8_layComes ∈ gx_T := gx_inS 61 rfl rfl
theorem ws_yX8_others : Cond.selects RX8 yX8_others yX8_others ∈ gx_T := gx_inS 62 rfl rfl
theorem ws_yX8_oddsOf : Cond.selects RX8 yX8_oddsOf yX8_oddsOf ∈ gx_T := gx_inS 63 rfl rfl
theorem ws_yX8_byOut : Cond.selects RX8 yX8_byOut yX8_byOut ∈ gx_T := gx_inS 64 rfl rfl
theorem ws_yX8_bestOf : Cond.selects RX8 yX8_bestOf yX8_bestOf ∈ gx_T := gx_inS 65 rfl rfl
theorem ws_yX8_isBody : Cond.selects RX8 yX8_isBody yX8_isBody ∈ gx_T := gx_inS 66 rfl rfl
theorem ws_yX8_falling : Cond.selects RX8 yX8_falling yX8_falling ∈ gx_T := gx_inS 67 rfl rfl
theorem ws_yX8_ran : Cond.selects RX8 yX8_ran yX8_ran ∈ gx_T := gx_inS 68 rfl rfl
theorem ws_yX8_plainFalls : Cond.selects RX8 yX8_plainFalls yX8_plainFalls ∈ gx_T := gx_inS 69 rfl rfl
theorem ws_yX8_lampFalls : Cond.selects RX8 yX8_lampFalls yX8_lampFalls ∈ gx_T := gx_inS 70 rfl rfl
theorem ws_yX8_running : Cond.selects RX8 yX8_running yX8_running ∈ gx_T := gx_inS 71 rfl rfl
theorem ws_yX8_basinRuns : Cond.selects RX8 yX8_basinRuns yX8_basinRuns ∈ gx_T := gx_inS 72 rfl rfl
theorem ws_yX8_plainRuns : Cond.selects RX8 yX8_plainRuns yX8_plainRuns ∈ gx_T := gx_inS 73 rfl rfl
theorem ws_yX8_thinking : Cond.selects RX8 yX8_thinking yX8_thinking ∈ gx_T := gx_inS 74 rfl rfl
theorem ws_yX8_porterThinks : Cond.selects RX8 yX8_porterThinks yX8_porterThinks ∈ gx_T := gx_inS 75 rfl rfl
theorem ws_yX8_plainThinks : Cond.selects RX8 yX8_plainThinks yX8_plainThinks ∈ gx_T := gx_inS 76 rfl rfl
theorem ws_yX8_telling : Cond.selects RX8 yX8_telling yX8_telling ∈ gx_T := gx_inS 77 rfl rfl
theorem ws_yX8_plainTells : Cond.selects RX8 yX8_plainTells yX8_plainTells ∈ gx_T := gx_inS 78 rfl rfl
theorem ws_yX8_awnings : Cond.selects RX8 yX8_awnings yX8_awnings ∈ gx_T := gx_inS 79 rfl rfl
theorem ws_yX8_whyNoPlace : Cond.selects RX8 yX8_whyNoPlace yX8_whyNoPlace ∈ gx_T := gx_inS 80 rfl rfl
theorem wnL : Cond.initialized RL ∈ gx_T := gx_in1 0 rfl rfl
theorem wnX7 : Cond.initialized RX7 ∈ gx_T := gx_in1 1 rfl rfl
theorem wnX3 : Cond.initialized RX3 ∈ gx_T := gx_in1 2 rfl rfl
theorem wnX6 : Cond.initialized RX6 ∈ gx_T := gx_in1 3 rfl rfl
theorem wnX2 : Cond.initialized RX2 ∈ gx_T := gx_in1 4 rfl rfl
theorem wnX4 : Cond.initialized RX4 ∈ gx_T := gx_in1 5 rfl rfl
theorem wnX1 : Cond.initialized RX1 ∈ gx_T := gx_in1 6 rfl rfl
theorem wnX0 : Cond.initialized RX0 ∈ gx_T := gx_in1 7 rfl rfl
theorem wnX5 : Cond.initialized RX5 ∈ gx_T := gx_in1 8 rfl rfl
theorem wnX8 : Cond.initialized RX8 ∈ gx_T := gx_in1 9 rfl rfl
theorem wnJ10 : Cond.initialized RJ10 ∈ gx_T := gx_in1 10 rfl rfl
theorem wnJ9 : Cond.initialized RJ9 ∈ gx_T := gx_in1 11 rfl rfl
theorem wnJ6 : Cond.initialized RJ6 ∈ gx_T := gx_in1 12 rfl rfl
theorem wgL_7 : Cond.classLink RL 7 RX7 ∈ gx_T := gx_in1 13 rfl rfl
theorem wmX7 : Cond.instantiable RX7 9 ∈ gx_T := gx_in1 14 rfl rfl
theorem wlL_9 : Cond.methodLink RL 9 yX7_init ∈ gx_T := gx_in1 15 rfl rfl
theorem wi_yX7_init : Cond.instanceMethod yX7_init ∈ gx_T := gx_in1 16 rfl rfl
theorem wc_yX7_init : Cond.code yX7_init cX7_init 2 none ∈ gx_T := gx_in1 17 rfl rfl
theorem wlX7_1 : Cond.methodLink RX7 1 objectInit ∈ gx_T := gx_in1 18 rfl rfl
theorem wi_objectInit : Cond.instanceMethod objectInit ∈ gx_T := gx_in1 19 rfl rfl
theorem wc_objectInit : Cond.code objectInit ⟨#[0xb1]⟩ 1 none ∈ gx_T := gx_in1 20 rfl rfl
theorem wgX7_7 : Cond.classLink RX7 7 RX3 ∈ gx_T := gx_in1 21 rfl rfl
theorem wmX3 : Cond.instantiable RX3 5 ∈ gx_T := gx_in1 22 rfl rfl
theorem wlX7_9 : Cond.methodLink RX7 9 yX3_init ∈ gx_T := gx_in1 23 rfl rfl
theorem wi_yX3_init : Cond.instanceMethod yX3_init ∈ gx_T := gx_in1 24 rfl rfl
theorem wc_yX3_init : Cond.code yX3_init cX3_init 1 none ∈ gx_T := gx_in1 25 rfl rfl
theorem wlX3_3 : Cond.methodLink RX3 3 objectInit ∈ gx_T := gx_in1 26 rfl rfl
theorem wfX3_9 : Cond.fieldLink RX3 9 "ThoughtsDrip$Law" "sign" "[I" ∈ gx_T := gx_in1 27 rfl rfl
theorem wfX3_15 : Cond.fieldLink RX3 15 "ThoughtsDrip$Law" "value" "[I" ∈ gx_T := gx_in1 28 rfl rfl
theorem wfX3_18 : Cond.fieldLink RX3 18 "ThoughtsDrip$Law" "pile" "[I" ∈ gx_T := gx_in1 29 rfl rfl
theorem wfX3_21 : Cond.fieldLink RX3 21 "ThoughtsDrip$Law" "names" "[I" ∈ gx_T := gx_in1 30 rfl rfl
theorem wfX3_24 : Cond.fieldLink RX3 24 "ThoughtsDrip$Law" "size" "I" ∈ gx_T := gx_in1 31 rfl rfl
theorem wo_124 : Cond.arrayClass ClassFile.FieldType.int ∈ gx_T := gx_in1 43 rfl rfl
theorem wgX7_16 : Cond.classLink RX7 16 RX6 ∈ gx_T := gx_in1 44 rfl rfl
theorem wmX6 : Cond.instantiable RX6 6 ∈ gx_T := gx_in1 45 rfl rfl
theorem wlX7_18 : Cond.methodLink RX7 18 yX6_init ∈ gx_T := gx_in1 46 rfl rfl
theorem wi_yX6_init : Cond.instanceMethod yX6_init ∈ gx_T := gx_in1 47 rfl rfl
theorem wc_yX6_init : Cond.code yX6_init cX6_init 1 none ∈ gx_T := gx_in1 48 rfl rfl
theorem wlX6_3 : Cond.methodLink RX6 3 objectInit ∈ gx_T := gx_in1 49 rfl rfl
theorem wfX6_9 : Cond.fieldLink RX6 9 "ThoughtsDrip$Tape" "bytes" "[I" ∈ gx_T := gx_in1 50 rfl rfl
theorem wfX6_15 : Cond.fieldLink RX6 15 "ThoughtsDrip$Tape" "sign" "[I" ∈ gx_T := gx_in1 51 rfl rfl
theorem wfX3_28 : Cond.fieldLink RX3 28 "ThoughtsDrip$Tape" "sign" "[I" ∈ gx_T := gx_in1 52 rfl rfl
theorem wfX6_18 : Cond.fieldLink RX6 18 "ThoughtsDrip$Tape" "value" "[I" ∈ gx_T := gx_in1 53 rfl rfl
theorem wfX3_37 : Cond.fieldLink RX3 37 "ThoughtsDrip$Tape" "value" "[I" ∈ gx_T := gx_in1 54 rfl rfl
theorem wfX6_21 : Cond.fieldLink RX6 21 "ThoughtsDrip$Tape" "size" "I" ∈ gx_T := gx_in1 55 rfl rfl
theorem wfX7_119 : Cond.fieldLink RX7 119 "ThoughtsDrip$Tape" "size" "I" ∈ gx_T := gx_in1 56 rfl rfl
theorem wfX6_25 : Cond.fieldLink RX6 25 "ThoughtsDrip$Tape" "at" "I" ∈ gx_T := gx_in1 57 rfl rfl
theorem wfX7_128 : Cond.fieldLink RX7 128 "ThoughtsDrip$Tape" "at" "I" ∈ gx_T := gx_in1 58 rfl rfl
theorem wfX6_28 : Cond.fieldLink RX6 28 "ThoughtsDrip$Tape" "signs" "I" ∈ gx_T := gx_in1 59 rfl rfl
theorem wfX3_38 : Cond.fieldLink RX3 38 "ThoughtsDrip$Tape" "signs" "I" ∈ gx_T := gx_in1 60 rfl rfl
theorem wgX7_23 : Cond.classLink RX7 23 RX2 ∈ gx_T := gx_in1 74 rfl rfl
theorem wmX2 : Cond.instantiable RX2 10 ∈ gx_T := gx_in1 75 rfl rfl
theorem wlX7_25 : Cond.methodLink RX7 25 yX2_init ∈ gx_T := gx_in1 76 rfl rfl
theorem wi_yX2_init : Cond.instanceMethod yX2_init ∈ gx_T := gx_in1 77 rfl rfl
theorem wc_yX2_init : Cond.code yX2_init cX2_init 2 none ∈ gx_T := gx_in1 78 rfl rfl
theorem wlX2_3 : Cond.methodLink RX2 3 objectInit ∈ gx_T := gx_in1 79 rfl rfl
theorem wfX2_30 : Cond.fieldLink RX2 30 "ThoughtsDrip$House" "law" "LThoughtsDrip$Law;" ∈ gx_T := gx_in1 80 rfl rfl
theorem wfX2_9 : Cond.fieldLink RX2 9 "ThoughtsDrip$House" "flat" "[I" ∈ gx_T := gx_in1 81 rfl rfl
theorem wfX4_74 : Cond.fieldLink RX4 74 "ThoughtsDrip$House" "flat" "[I" ∈ gx_T := gx_in1 82 rfl rfl
theorem wfX7_240 : Cond.fieldLink RX7 240 "ThoughtsDrip$House" "flat" "[I" ∈ gx_T := gx_in1 83 rfl rfl
theorem wfX2_15 : Cond.fieldLink RX2 15 "ThoughtsDrip$House" "out" "[I" ∈ gx_T := gx_in1 84 rfl rfl
theorem wfX2_18 : Cond.fieldLink RX2 18 "ThoughtsDrip$House" "thinks" "[I" ∈ gx_T := gx_in1 85 rfl rfl
theorem wfX4_113 : Cond.fieldLink RX4 113 "ThoughtsDrip$House" "thinks" "[I" ∈ gx_T := gx_in1 86 rfl rfl
theorem wfX2_21 : Cond.fieldLink RX2 21 "ThoughtsDrip$House" "wet" "[I" ∈ gx_T := gx_in1 87 rfl rfl
theorem wfX4_49 : Cond.fieldLink RX4 49 "ThoughtsDrip$House" "wet" "[I" ∈ gx_T := gx_in1 88 rfl rfl
theorem wfX2_24 : Cond.fieldLink RX2 24 "ThoughtsDrip$House" "awning" "[I" ∈ gx_T := gx_in1 89 rfl rfl
theorem wfX4_90 : Cond.fieldLink RX4 90 "ThoughtsDrip$House" "awning" "[I" ∈ gx_T := gx_in1 90 rfl rfl
theorem wfX7_246 : Cond.fieldLink RX7 246 "ThoughtsDrip$House" "awning" "[I" ∈ gx_T := gx_in1 91 rfl rfl
theorem wfX2_27 : Cond.fieldLink RX2 27 "ThoughtsDrip$House" "led" "[I" ∈ gx_T := gx_in1 92 rfl rfl
theorem wfX7_243 : Cond.fieldLink RX7 243 "ThoughtsDrip$House" "led" "[I" ∈ gx_T := gx_in1 93 rfl rfl
theorem wfX2_34 : Cond.fieldLink RX2 34 "ThoughtsDrip$House" "people" "I" ∈ gx_T := gx_in1 94 rfl rfl
theorem wfX7_73 : Cond.fieldLink RX7 73 "ThoughtsDrip$House" "people" "I" ∈ gx_T := gx_in1 95 rfl rfl
theorem wfX4_67 : Cond.fieldLink RX4 67 "ThoughtsDrip$House" "people" "I" ∈ gx_T := gx_in1 96 rfl rfl
theorem wfX2_38 : Cond.fieldLink RX2 38 "ThoughtsDrip$House" "iron" "I" ∈ gx_T := gx_in1 97 rfl rfl
theorem wfX2_41 : Cond.fieldLink RX2 41 "ThoughtsDrip$House" "hour" "I" ∈ gx_T := gx_in1 98 rfl rfl
theorem wfX4_32 : Cond.fieldLink RX4 32 "ThoughtsDrip$House" "hour" "I" ∈ gx_T := gx_in1 99 rfl rfl
theorem wfX7_237 : Cond.fieldLink RX7 237 "ThoughtsDrip$House" "hour" "I" ∈ gx_T := gx_in1 100 rfl rfl
theorem wgX7_35 : Cond.classLink RX7 35 RX4 ∈ gx_T := gx_in1 122 rfl rfl
theorem wmX4 : Cond.instantiable RX4 6 ∈ gx_T := gx_in1 123 rfl rfl
theorem wlX7_37 : Cond.methodLink RX7 37 yX4_init ∈ gx_T := gx_in1 124 rfl rfl
theorem wi_yX4_init : Cond.instanceMethod yX4_init ∈ gx_T := gx_in1 125 rfl rfl
theorem wc_yX4_init : Cond.code yX4_init cX4_init 3 none ∈ gx_T := gx_in1 126 rfl rfl
theorem wlX4_3 : Cond.methodLink RX4 3 objectInit ∈ gx_T := gx_in1 127 rfl rfl
theorem wfX4_25 : Cond.fieldLink RX4 25 "ThoughtsDrip$Musing" "house" "LThoughtsDrip$House;" ∈ gx_T := gx_in1 128 rfl rfl
theorem wfX4_29 : Cond.fieldLink RX4 29 "ThoughtsDrip$Musing" "other" "LThoughtsDrip$House;" ∈ gx_T := gx_in1 129 rfl rfl
theorem wfX4_9 : Cond.fieldLink RX4 9 "ThoughtsDrip$Musing" "whose" "[I" ∈ gx_T := gx_in1 130 rfl rfl
theorem wfX4_15 : Cond.fieldLink RX4 15 "ThoughtsDrip$Musing" "dealt" "[I" ∈ gx_T := gx_in1 131 rfl rfl
theorem wfX4_18 : Cond.fieldLink RX4 18 "ThoughtsDrip$Musing" "gained" "[I" ∈ gx_T := gx_in1 132 rfl rfl
theorem wfX4_21 : Cond.fieldLink RX4 21 "ThoughtsDrip$Musing" "weights" "[J" ∈ gx_T := gx_in1 133 rfl rfl
theorem wo_228 : Cond.arrayClass ClassFile.FieldType.long ∈ gx_T := gx_in1 147 rfl rfl
theorem wgX7_44 : Cond.classLink RX7 44 RX1 ∈ gx_T := gx_in1 148 rfl rfl
theorem wmX1 : Cond.instantiable RX1 6 ∈ gx_T := gx_in1 149 rfl rfl
theorem wlX7_46 : Cond.methodLink RX7 46 yX1_init ∈ gx_T := gx_in1 150 rfl rfl
theorem wi_yX1_init : Cond.instanceMethod yX1_init ∈ gx_T := gx_in1 151 rfl rfl
theorem wc_yX1_init : Cond.code yX1_init cX1_init 1 none ∈ gx_T := gx_in1 152 rfl rfl
theorem wlX1_3 : Cond.methodLink RX1 3 objectInit ∈ gx_T := gx_in1 153 rfl rfl
theorem wfX1_9 : Cond.fieldLink RX1 9 "ThoughtsDrip$Changes" "number" "[I" ∈ gx_T := gx_in1 154 rfl rfl
theorem wfX7_271 : Cond.fieldLink RX7 271 "ThoughtsDrip$Changes" "number" "[I" ∈ gx_T := gx_in1 155 rfl rfl
theorem wfX1_15 : Cond.fieldLink RX1 15 "ThoughtsDrip$Changes" "what" "[I" ∈ gx_T := gx_in1 156 rfl rfl
theorem wfX7_274 : Cond.fieldLink RX7 274 "ThoughtsDrip$Changes" "what" "[I" ∈ gx_T := gx_in1 157 rfl rfl
theorem wfX1_18 : Cond.fieldLink RX1 18 "ThoughtsDrip$Changes" "was" "[I" ∈ gx_T := gx_in1 158 rfl rfl
theorem wfX7_277 : Cond.fieldLink RX7 277 "ThoughtsDrip$Changes" "was" "[I" ∈ gx_T := gx_in1 159 rfl rfl
theorem wfX1_21 : Cond.fieldLink RX1 21 "ThoughtsDrip$Changes" "becomes" "[I" ∈ gx_T := gx_in1 160 rfl rfl
theorem wfX7_286 : Cond.fieldLink RX7 286 "ThoughtsDrip$Changes" "becomes" "[I" ∈ gx_T := gx_in1 161 rfl rfl
theorem wfX1_24 : Cond.fieldLink RX1 24 "ThoughtsDrip$Changes" "made" "I" ∈ gx_T := gx_in1 162 rfl rfl
theorem wfX7_264 : Cond.fieldLink RX7 264 "ThoughtsDrip$Changes" "made" "I" ∈ gx_T := gx_in1 163 rfl rfl
theorem wfX1_28 : Cond.fieldLink RX1 28 "ThoughtsDrip$Changes" "undone" "I" ∈ gx_T := gx_in1 164 rfl rfl
theorem wfX7_280 : Cond.fieldLink RX7 280 "ThoughtsDrip$Changes" "undone" "I" ∈ gx_T := gx_in1 165 rfl rfl
theorem wgX7_51 : Cond.classLink RX7 51 RX0 ∈ gx_T := gx_in1 179 rfl rfl
theorem wmX0 : Cond.instantiable RX0 4 ∈ gx_T := gx_in1 180 rfl rfl
theorem wlX7_53 : Cond.methodLink RX7 53 yX0_init ∈ gx_T := gx_in1 181 rfl rfl
theorem wi_yX0_init : Cond.instanceMethod yX0_init ∈ gx_T := gx_in1 182 rfl rfl
theorem wc_yX0_init : Cond.code yX0_init cX0_init 1 none ∈ gx_T := gx_in1 183 rfl rfl
theorem wlX0_3 : Cond.methodLink RX0 3 objectInit ∈ gx_T := gx_in1 184 rfl rfl
theorem wfX0_9 : Cond.fieldLink RX0 9 "ThoughtsDrip$Acts" "kind" "[I" ∈ gx_T := gx_in1 185 rfl rfl
theorem wfX7_336 : Cond.fieldLink RX7 336 "ThoughtsDrip$Acts" "kind" "[I" ∈ gx_T := gx_in1 186 rfl rfl
theorem wfX0_15 : Cond.fieldLink RX0 15 "ThoughtsDrip$Acts" "began" "[I" ∈ gx_T := gx_in1 187 rfl rfl
theorem wfX7_306 : Cond.fieldLink RX7 306 "ThoughtsDrip$Acts" "began" "[I" ∈ gx_T := gx_in1 188 rfl rfl
theorem wfX0_18 : Cond.fieldLink RX0 18 "ThoughtsDrip$Acts" "bodies" "I" ∈ gx_T := gx_in1 189 rfl rfl
theorem wfX7_292 : Cond.fieldLink RX7 292 "ThoughtsDrip$Acts" "bodies" "I" ∈ gx_T := gx_in1 190 rfl rfl
theorem wfX0_22 : Cond.fieldLink RX0 22 "ThoughtsDrip$Acts" "begun" "I" ∈ gx_T := gx_in1 191 rfl rfl
theorem wfX7_300 : Cond.fieldLink RX7 300 "ThoughtsDrip$Acts" "begun" "I" ∈ gx_T := gx_in1 192 rfl rfl
theorem wgX7_58 : Cond.classLink RX7 58 RX5 ∈ gx_T := gx_in1 202 rfl rfl
theorem wo_284 : Cond.arrayOver (ClassFile.FieldType.object "ThoughtsDrip$Shelf") ∈ lw_tbl := gx_il1 203 rfl
theorem wmX5 : Cond.instantiable RX5 4 ∈ gx_T := gx_in1 204 rfl rfl
theorem wlX7_64 : Cond.methodLink RX7 64 yX5_init ∈ gx_T := gx_in1 205 rfl rfl
theorem wi_yX5_init : Cond.instanceMethod yX5_init ∈ gx_T := gx_in1 206 rfl rfl
theorem wc_yX5_init : Cond.code yX5_init cX5_init 1 none ∈ gx_T := gx_in1 207 rfl rfl
theorem wlX5_3 : Cond.methodLink RX5 3 objectInit ∈ gx_T := gx_in1 208 rfl rfl
theorem wfX5_9 : Cond.fieldLink RX5 9 "ThoughtsDrip$Shelf" "cells" "[J" ∈ gx_T := gx_in1 209 rfl rfl
theorem wfX7_94 : Cond.fieldLink RX7 94 "ThoughtsDrip$Shelf" "cells" "[J" ∈ gx_T := gx_in1 210 rfl rfl
theorem wfX5_15 : Cond.fieldLink RX5 15 "ThoughtsDrip$Shelf" "body" "I" ∈ gx_T := gx_in1 211 rfl rfl
theorem wfX7_85 : Cond.fieldLink RX7 85 "ThoughtsDrip$Shelf" "body" "I" ∈ gx_T := gx_in1 212 rfl rfl
theorem wfX5_19 : Cond.fieldLink RX5 19 "ThoughtsDrip$Shelf" "sort" "I" ∈ gx_T := gx_in1 213 rfl rfl
theorem wfX7_88 : Cond.fieldLink RX7 88 "ThoughtsDrip$Shelf" "sort" "I" ∈ gx_T := gx_in1 214 rfl rfl
theorem wfX5_22 : Cond.fieldLink RX5 22 "ThoughtsDrip$Shelf" "size" "I" ∈ gx_T := gx_in1 215 rfl rfl
theorem wfX7_91 : Cond.fieldLink RX7 91 "ThoughtsDrip$Shelf" "size" "I" ∈ gx_T := gx_in1 216 rfl rfl
theorem wfX7_10 : Cond.fieldLink RX7 10 "ThoughtsDrip" "rule" "LThoughtsDrip$Law;" ∈ gx_T := gx_in1 226 rfl rfl
theorem wfX7_19 : Cond.fieldLink RX7 19 "ThoughtsDrip" "tape" "LThoughtsDrip$Tape;" ∈ gx_T := gx_in1 227 rfl rfl
theorem wfX7_28 : Cond.fieldLink RX7 28 "ThoughtsDrip" "house" "LThoughtsDrip$House;" ∈ gx_T := gx_in1 228 rfl rfl
theorem wfX7_32 : Cond.fieldLink RX7 32 "ThoughtsDrip" "kept" "LThoughtsDrip$House;" ∈ gx_T := gx_in1 229 rfl rfl
theorem wfX7_40 : Cond.fieldLink RX7 40 "ThoughtsDrip" "musing" "LThoughtsDrip$Musing;" ∈ gx_T := gx_in1 230 rfl rfl
theorem wfX7_47 : Cond.fieldLink RX7 47 "ThoughtsDrip" "changes" "LThoughtsDrip$Changes;" ∈ gx_T := gx_in1 231 rfl rfl
theorem wfX7_54 : Cond.fieldLink RX7 54 "ThoughtsDrip" "acts" "LThoughtsDrip$Acts;" ∈ gx_T := gx_in1 232 rfl rfl
theorem wfX7_60 : Cond.fieldLink RX7 60 "ThoughtsDrip" "shelves" "[LThoughtsDrip$Shelf;" ∈ gx_T := gx_in1 233 rfl rfl
theorem wfX7_65 : Cond.fieldLink RX7 65 "ThoughtsDrip" "imaged" "Z" ∈ gx_T := gx_in1 234 rfl rfl
theorem wlL_13 : Cond.methodLink RL 13 yX7_person ∈ gx_T := gx_in2 14 rfl rfl
theorem wi_yX7_person : Cond.instanceMethod yX7_person ∈ gx_T := gx_in2 15 rfl rfl
theorem ws_yX7_person : Cond.selects RX7 yX7_person yX7_person ∈ gx_T := gx_in2 16 rfl rfl
theorem wc_yX7_person : Cond.code yX7_person cX7_person 3 (some .int) ∈ gx_T := gx_in2 17 rfl rfl
theorem wlX7_69 : Cond.methodLink RX7 69 yX7_mayCome ∈ gx_T := gx_in2 18 rfl rfl
theorem wt_yX7_mayCome : Cond.static yX7_mayCome ∈ gx_T := gx_in2 19 rfl rfl
theorem wc_yX7_mayCome : Cond.code yX7_mayCome cX7_mayCome 2 (some .boolean) ∈ gx_T := gx_in2 20 rfl rfl
theorem wlX7_134 : Cond.methodLink RX7 134 yX7_isFlat ∈ gx_T := gx_in2 21 rfl rfl
theorem wt_yX7_isFlat : Cond.static yX7_isFlat ∈ gx_T := gx_in2 22 rfl rfl
theorem wc_yX7_isFlat : Cond.code yX7_isFlat cX7_isFlat 1 (some .boolean) ∈ gx_T := gx_in2 23 rfl rfl
theorem wfX7_101 : Cond.fieldLink RX7 101 "ThoughtsDrip$House" "GREATEST" "[I" ∈ gx_T := gx_in2 24 rfl rfl
theorem wz_X2_GREATEST : Cond.laysStatic "ThoughtsDrip$House" "GREATEST" "[I" ∈ lw_tbl := gx_il2 25 rfl
theorem wlX7_77 : Cond.methodLink RX7 77 yX2_welcome ∈ gx_T := gx_in2 26 rfl rfl
theorem wi_yX2_welcome : Cond.instanceMethod yX2_welcome ∈ gx_T := gx_in2 27 rfl rfl
theorem ws_yX2_welcome : Cond.selects RX2 yX2_welcome yX2_welcome ∈ gx_T := gx_in2 28 rfl rfl
theorem wc_yX2_welcome : Cond.code yX2_welcome cX2_welcome 3 (some .int) ∈ gx_T := gx_in2 29 rfl rfl
theorem wlL_18 : Cond.methodLink RL 18 yX7_people ∈ gx_T := gx_in2 30 rfl rfl
theorem wi_yX7_people : Cond.instanceMethod yX7_people ∈ gx_T := gx_in2 31 rfl rfl
theorem ws_yX7_people : Cond.selects RX7 yX7_people yX7_people ∈ gx_T := gx_in2 32 rfl rfl
theorem wc_yX7_people : Cond.code yX7_people cX7_people 9 (some .int) ∈ gx_T := gx_in2 33 rfl rfl
theorem wlX7_81 : Cond.methodLink RX7 81 yX7_isShelf ∈ gx_T := gx_in2 34 rfl rfl
theorem wt_yX7_isShelf : Cond.static yX7_isShelf ∈ gx_T := gx_in2 35 rfl rfl
theorem wc_yX7_isShelf : Cond.code yX7_isShelf cX7_isShelf 1 (some .boolean) ∈ gx_T := gx_in2 36 rfl rfl
theorem wlL_23 : Cond.methodLink RL 23 yX7_mend ∈ gx_T := gx_in2 37 rfl rfl
theorem wi_yX7_mend : Cond.instanceMethod yX7_mend ∈ gx_T := gx_in2 38 rfl rfl
theorem ws_yX7_mend : Cond.selects RX7 yX7_mend yX7_mend ∈ gx_T := gx_in2 39 rfl rfl
theorem wc_yX7_mend : Cond.code yX7_mend cX7_mend 5 (some .int) ∈ gx_T := gx_in2 40 rfl rfl
theorem wlX7_98 : Cond.methodLink RX7 98 yX7_isNumber ∈ gx_T := gx_in2 41 rfl rfl
theorem wi_yX7_isNumber : Cond.instanceMethod yX7_isNumber ∈ gx_T := gx_in2 43 rfl rfl
theorem wc_yX7_isNumber : Cond.code yX7_isNumber cX7_isNumber 3 (some .boolean) ∈ gx_T := gx_in2 44 rfl rfl
theorem wlX7_164 : Cond.methodLink RX7 164 yX7_isOne ∈ gx_T := gx_in2 45 rfl rfl
theorem wi_yX7_isOne : Cond.instanceMethod yX7_isOne ∈ gx_T := gx_in2 47 rfl rfl
theorem wc_yX7_isOne : Cond.code yX7_isOne cX7_isOne 2 (some .boolean) ∈ gx_T := gx_in2 48 rfl rfl
theorem wlX7_157 : Cond.methodLink RX7 157 yX7_isPm ∈ gx_T := gx_in2 49 rfl rfl
theorem wi_yX7_isPm : Cond.instanceMethod yX7_isPm ∈ gx_T := gx_in2 51 rfl rfl
theorem wc_yX7_isPm : Cond.code yX7_isPm cX7_isPm 2 (some .boolean) ∈ gx_T := gx_in2 52 rfl rfl
theorem wlX7_137 : Cond.methodLink RX7 137 yX7_isMark ∈ gx_T := gx_in2 53 rfl rfl
theorem wt_yX7_isMark : Cond.static yX7_isMark ∈ gx_T := gx_in2 54 rfl rfl
theorem wc_yX7_isMark : Cond.code yX7_isMark cX7_isMark 1 (some .boolean) ∈ gx_T := gx_in2 55 rfl rfl
theorem wlX7_105 : Cond.methodLink RX7 105 yX2_tells ∈ gx_T := gx_in2 56 rfl rfl
theorem wi_yX2_tells : Cond.instanceMethod yX2_tells ∈ gx_T := gx_in2 57 rfl rfl
theorem ws_yX2_tells : Cond.selects RX2 yX2_tells yX2_tells ∈ gx_T := gx_in2 58 rfl rfl
theorem wc_yX2_tells : Cond.code yX2_tells cX2_tells 3 (some .int) ∈ gx_T := gx_in2 59 rfl rfl
theorem wlX2_56 : Cond.methodLink RX2 56 yX2_cell ∈ gx_T := gx_in2 60 rfl rfl
theorem wt_yX2_cell : Cond.static yX2_cell ∈ gx_T := gx_in2 61 rfl rfl
theorem wc_yX2_cell : Cond.code yX2_cell cX2_cell 1 (some .int) ∈ gx_T := gx_in2 62 rfl rfl
theorem wlX7_108 : Cond.methodLink RX7 108 yX2_told ∈ gx_T := gx_in2 63 rfl rfl
theorem wi_yX2_told : Cond.instanceMethod yX2_told ∈ gx_T := gx_in2 64 rfl rfl
theorem ws_yX2_told : Cond.selects RX2 yX2_told yX2_told ∈ gx_T := gx_in2 65 rfl rfl
theorem wc_yX2_told : Cond.code yX2_told cX2_told 4 none ∈ gx_T := gx_in2 66 rfl rfl
theorem wlX7_112 : Cond.methodLink RX7 112 yX1_add ∈ gx_T := gx_in2 67 rfl rfl
theorem wi_yX1_add : Cond.instanceMethod yX1_add ∈ gx_T := gx_in2 68 rfl rfl
theorem ws_yX1_add : Cond.selects RX1 yX1_add yX1_add ∈ gx_T := gx_in2 69 rfl rfl
theorem wc_yX1_add : Cond.code yX1_add cX1_add 5 none ∈ gx_T := gx_in2 70 rfl rfl
theorem wlX1_31 : Cond.methodLink RX1 31 yX1_forgetOldest ∈ gx_T := gx_in2 71 rfl rfl
theorem wt_yX1_forgetOldest : Cond.static yX1_forgetOldest ∈ gx_T := gx_in2 72 rfl rfl
theorem wc_yX1_forgetOldest : Cond.code yX1_forgetOldest cX1_forgetOldest 1 none ∈ gx_T := gx_in2 73 rfl rfl
theorem wlX1_35 : Cond.methodLink RX1 35 arraycopyName ∈ gx_T := gx_in2 74 rfl rfl
theorem wt_arraycopyName : Cond.static arraycopyName ∈ gx_T := gx_in2 75 rfl rfl
theorem wv_arraycopyName : Cond.native arraycopyName ∈ gx_T := gx_in2 76 rfl rfl
theorem wlL_27 : Cond.methodLink RL 27 yX7_of ∈ gx_T := gx_in2 77 rfl rfl
theorem wi_yX7_of : Cond.instanceMethod yX7_of ∈ gx_T := gx_in2 78 rfl rfl
theorem ws_yX7_of : Cond.selects RX7 yX7_of yX7_of ∈ gx_T := gx_in2 79 rfl rfl
theorem wc_yX7_of : Cond.code yX7_of cX7_of 3 (some .int) ∈ gx_T := gx_in2 80 rfl rfl
theorem wlL_31 : Cond.methodLink RL 31 yX7_feed ∈ gx_T := gx_in2 81 rfl rfl
theorem wi_yX7_feed : Cond.instanceMethod yX7_feed ∈ gx_T := gx_in2 82 rfl rfl
theorem ws_yX7_feed : Cond.selects RX7 yX7_feed yX7_feed ∈ gx_T := gx_in2 83 rfl rfl
theorem wc_yX7_feed : Cond.code yX7_feed cX7_feed 2 (some .int) ∈ gx_T := gx_in2 84 rfl rfl
theorem wlX7_116 : Cond.methodLink RX7 116 yX6_take ∈ gx_T := gx_in2 85 rfl rfl
theorem wi_yX6_take : Cond.instanceMethod yX6_take ∈ gx_T := gx_in2 86 rfl rfl
theorem ws_yX6_take : Cond.selects RX6 yX6_take yX6_take ∈ gx_T := gx_in2 87 rfl rfl
theorem wc_yX6_take : Cond.code yX6_take cX6_take 2 (some .boolean) ∈ gx_T := gx_in2 88 rfl rfl
theorem wlL_36 : Cond.methodLink RL 36 yX7_law ∈ gx_T := gx_in2 89 rfl rfl
theorem wi_yX7_law : Cond.instanceMethod yX7_law ∈ gx_T := gx_in2 90 rfl rfl
theorem ws_yX7_law : Cond.selects RX7 yX7_law yX7_law ∈ gx_T := gx_in2 91 rfl rfl
theorem wc_yX7_law : Cond.code yX7_law cX7_law 3 (some .int) ∈ gx_T := gx_in2 92 rfl rfl
theorem wlX7_120 : Cond.methodLink RX7 120 yX6_read ∈ gx_T := gx_in2 93 rfl rfl
theorem wi_yX6_read : Cond.instanceMethod yX6_read ∈ gx_T := gx_in2 94 rfl rfl
theorem ws_yX6_read : Cond.selects RX6 yX6_read yX6_read ∈ gx_T := gx_in2 95 rfl rfl
theorem wc_yX6_read : Cond.code yX6_read cX6_read 2 (some .boolean) ∈ gx_T := gx_in2 96 rfl rfl
theorem wlX6_31 : Cond.methodLink RX6 31 yX6_readLine ∈ gx_T := gx_in2 97 rfl rfl
theorem wi_yX6_readLine : Cond.instanceMethod yX6_readLine ∈ gx_T := gx_in2 99 rfl rfl
theorem wc_yX6_readLine : Cond.code yX6_readLine cX6_readLine 1 (some .boolean) ∈ gx_T := gx_in2 100 rfl rfl
theorem wlX6_39 : Cond.methodLink RX6 39 yX6_readLevel ∈ gx_T := gx_in2 101 rfl rfl
theorem wi_yX6_readLevel : Cond.instanceMethod yX6_readLevel ∈ gx_T := gx_in2 103 rfl rfl
theorem wc_yX6_readLevel : Cond.code yX6_readLevel cX6_readLevel 6 (some .boolean) ∈ gx_T := gx_in2 104 rfl rfl
theorem wlX6_49 : Cond.methodLink RX6 49 yX6_readOne ∈ gx_T := gx_in2 105 rfl rfl
theorem wi_yX6_readOne : Cond.instanceMethod yX6_readOne ∈ gx_T := gx_in2 107 rfl rfl
theorem wc_yX6_readOne : Cond.code yX6_readOne cX6_readOne 4 (some .boolean) ∈ gx_T := gx_in2 108 rfl rfl
theorem wlX6_35 : Cond.methodLink RX6 35 yX6_next ∈ gx_T := gx_in2 109 rfl rfl
theorem wi_yX6_next : Cond.instanceMethod yX6_next ∈ gx_T := gx_in2 111 rfl rfl
theorem wc_yX6_next : Cond.code yX6_next cX6_next 1 (some .int) ∈ gx_T := gx_in2 112 rfl rfl
theorem wlX6_57 : Cond.methodLink RX6 57 yX6_readNumber ∈ gx_T := gx_in2 113 rfl rfl
theorem wi_yX6_readNumber : Cond.instanceMethod yX6_readNumber ∈ gx_T := gx_in2 115 rfl rfl
theorem wc_yX6_readNumber : Cond.code yX6_readNumber cX6_readNumber 3 none ∈ gx_T := gx_in2 116 rfl rfl
theorem wlX6_45 : Cond.methodLink RX6 45 yX6_emit ∈ gx_T := gx_in2 117 rfl rfl
theorem wi_yX6_emit : Cond.instanceMethod yX6_emit ∈ gx_T := gx_in2 119 rfl rfl
theorem wc_yX6_emit : Cond.code yX6_emit cX6_emit 3 none ∈ gx_T := gx_in2 120 rfl rfl
theorem wlX6_60 : Cond.methodLink RX6 60 yX6_nameOf ∈ gx_T := gx_in2 121 rfl rfl
theorem wt_yX6_nameOf : Cond.static yX6_nameOf ∈ gx_T := gx_in2 122 rfl rfl
theorem wc_yX6_nameOf : Cond.code yX6_nameOf cX6_nameOf 1 (some .int) ∈ gx_T := gx_in2 123 rfl rfl
theorem wlX6_63 : Cond.methodLink RX6 63 yX6_readClose ∈ gx_T := gx_in2 124 rfl rfl
theorem wi_yX6_readClose : Cond.instanceMethod yX6_readClose ∈ gx_T := gx_in2 126 rfl rfl
theorem wc_yX6_readClose : Cond.code yX6_readClose cX6_readClose 1 (some .boolean) ∈ gx_T := gx_in2 127 rfl rfl
theorem wlX6_53 : Cond.methodLink RX6 53 yX6_levelOf ∈ gx_T := gx_in2 128 rfl rfl
theorem wt_yX6_levelOf : Cond.static yX6_levelOf ∈ gx_T := gx_in2 129 rfl rfl
theorem wc_yX6_levelOf : Cond.code yX6_levelOf cX6_levelOf 1 (some .int) ∈ gx_T := gx_in2 130 rfl rfl
theorem wlX7_124 : Cond.methodLink RX7 124 yX3_adopt ∈ gx_T := gx_in2 131 rfl rfl
theorem wi_yX3_adopt : Cond.instanceMethod yX3_adopt ∈ gx_T := gx_in2 132 rfl rfl
theorem ws_yX3_adopt : Cond.selects RX3 yX3_adopt yX3_adopt ∈ gx_T := gx_in2 133 rfl rfl
theorem wc_yX3_adopt : Cond.code yX3_adopt cX3_adopt 2 none ∈ gx_T := gx_in2 134 rfl rfl
theorem wlX3_31 : Cond.methodLink RX3 31 arraycopyName ∈ gx_T := gx_in2 135 rfl rfl
theorem wlL_41 : Cond.methodLink RL 41 yX7_comes ∈ gx_T := gx_in2 136 rfl rfl
theorem wi_yX7_comes : Cond.instanceMethod yX7_comes ∈ gx_T := gx_in2 137 rfl rfl
theorem ws_yX7_comes : Cond.selects RX7 yX7_comes yX7_comes ∈ gx_T := gx_in2 138 rfl rfl
theorem wc_yX7_comes : Cond.code yX7_comes cX7_comes 6 (some .int) ∈ gx_T := gx_in2 139 rfl rfl
theorem wlX7_131 : Cond.methodLink RX7 131 yX7_isHour ∈ gx_T := gx_in2 140 rfl rfl
theorem wt_yX7_isHour : Cond.static yX7_isHour ∈ gx_T := gx_in2 141 rfl rfl
theorem wc_yX7_isHour : Cond.code yX7_isHour cX7_isHour 1 (some .boolean) ∈ gx_T := gx_in2 142 rfl rfl
theorem wlX7_140 : Cond.methodLink RX7 140 yX7_isChoice ∈ gx_T := gx_in2 143 rfl rfl
theorem wt_yX7_isChoice : Cond.static yX7_isChoice ∈ gx_T := gx_in2 144 rfl rfl
theorem wc_yX7_isChoice : Cond.code yX7_isChoice cX7_isChoice 1 (some .boolean) ∈ gx_T := gx_in2 145 rfl rfl
theorem wlX7_143 : Cond.methodLink RX7 143 yX2_outAt ∈ gx_T := gx_in2 146 rfl rfl
theorem wi_yX2_outAt : Cond.instanceMethod yX2_outAt ∈ gx_T := gx_in2 147 rfl rfl
theorem ws_yX2_outAt : Cond.selects RX2 yX2_outAt yX2_outAt ∈ gx_T := gx_in2 148 rfl rfl
theorem wc_yX2_outAt : Cond.code yX2_outAt cX2_outAt 4 (some .int) ∈ gx_T := gx_in2 149 rfl rfl
theorem wlX7_147 : Cond.methodLink RX7 147 yX2_reaches ∈ gx_T := gx_in2 150 rfl rfl
theorem wi_yX2_reaches : Cond.instanceMethod yX2_reaches ∈ gx_T := gx_in2 151 rfl rfl
theorem ws_yX2_reaches : Cond.selects RX2 yX2_reaches yX2_reaches ∈ gx_T := gx_in2 152 rfl rfl
theorem wc_yX2_reaches : Cond.code yX2_reaches cX2_reaches 10 (some .int) ∈ gx_T := gx_in2 153 rfl rfl
theorem wlX2_60 : Cond.methodLink RX2 60 yX3_lets ∈ gx_T := gx_in2 154 rfl rfl
theorem wi_yX3_lets : Cond.instanceMethod yX3_lets ∈ gx_T := gx_in2 155 rfl rfl
theorem ws_yX3_lets : Cond.selects RX3 yX3_lets yX3_lets ∈ gx_T := gx_in2 156 rfl rfl
theorem wc_yX3_lets : Cond.code yX3_lets cX3_lets 8 (some .int) ∈ gx_T := gx_in2 157 rfl rfl
theorem wlX3_41 : Cond.methodLink RX3 41 yX3_worth ∈ gx_T := gx_in2 158 rfl rfl
theorem wi_yX3_worth : Cond.instanceMethod yX3_worth ∈ gx_T := gx_in2 160 rfl rfl
theorem wc_yX3_worth : Cond.code yX3_worth cX3_worth 5 (some .int) ∈ gx_T := gx_in2 161 rfl rfl
theorem wlX3_54 : Cond.methodLink RX3 54 yX3_isSingle ∈ gx_T := gx_in2 162 rfl rfl
theorem wt_yX3_isSingle : Cond.static yX3_isSingle ∈ gx_T := gx_in2 163 rfl rfl
theorem wc_yX3_isSingle : Cond.code yX3_isSingle cX3_isSingle 1 (some .boolean) ∈ gx_T := gx_in2 164 rfl rfl
theorem wlX3_58 : Cond.methodLink RX3 58 yX3_joined ∈ gx_T := gx_in2 165 rfl rfl
theorem wt_yX3_joined : Cond.static yX3_joined ∈ gx_T := gx_in2 166 rfl rfl
theorem wc_yX3_joined : Cond.code yX3_joined cX3_joined 3 (some .int) ∈ gx_T := gx_in2 167 rfl rfl
theorem wlX3_45 : Cond.methodLink RX3 45 Lib.Math.min.name ∈ gx_T := gx_in2 168 rfl rfl
theorem wt_Lib_Math_min_name : Cond.static Lib.Math.min.name ∈ gx_T := gx_in2 169 rfl rfl
theorem wc_Lib_Math_min_name : Cond.code Lib.Math.min.name Lib.Math.min.code 2 (some .int) ∈ gx_T := gx_in2 170 rfl rfl
theorem wlX3_51 : Cond.methodLink RX3 51 Lib.Math.max.name ∈ gx_T := gx_in2 171 rfl rfl
theorem wt_Lib_Math_max_name : Cond.static Lib.Math.max.name ∈ gx_T := gx_in2 172 rfl rfl
theorem wc_Lib_Math_max_name : Cond.code Lib.Math.max.name Lib.Math.max.code 2 (some .int) ∈ gx_T := gx_in2 173 rfl rfl
theorem wlL_45 : Cond.methodLink RL 45 yX7_porter ∈ gx_T := gx_in2 174 rfl rfl
theorem wi_yX7_porter : Cond.instanceMethod yX7_porter ∈ gx_T := gx_in2 175 rfl rfl
theorem ws_yX7_porter : Cond.selects RX7 yX7_porter yX7_porter ∈ gx_T := gx_in2 176 rfl rfl
theorem wc_yX7_porter : Cond.code yX7_porter cX7_porter 3 (some .int) ∈ gx_T := gx_in2 177 rfl rfl
theorem wlX7_151 : Cond.methodLink RX7 151 yX2_caughtBy ∈ gx_T := gx_in2 178 rfl rfl
theorem wi_yX2_caughtBy : Cond.instanceMethod yX2_caughtBy ∈ gx_T := gx_in2 179 rfl rfl
theorem ws_yX2_caughtBy : Cond.selects RX2 yX2_caughtBy yX2_caughtBy ∈ gx_T := gx_in2 180 rfl rfl
theorem wc_yX2_caughtBy : Cond.code yX2_caughtBy cX2_caughtBy 5 (some .int) ∈ gx_T := gx_in2 181 rfl rfl
theorem wlX2_66 : Cond.methodLink RX2 66 yX2_reaches ∈ gx_T := gx_in2 182 rfl rfl
theorem wlL_49 : Cond.methodLink RL 49 yX7_wet ∈ gx_T := gx_in2 183 rfl rfl
theorem wi_yX7_wet : Cond.instanceMethod yX7_wet ∈ gx_T := gx_in2 184 rfl rfl
theorem ws_yX7_wet : Cond.selects RX7 yX7_wet yX7_wet ∈ gx_T := gx_in2 185 rfl rfl
theorem wc_yX7_wet : Cond.code yX7_wet cX7_wet 3 (some .int) ∈ gx_T := gx_in2 186 rfl rfl
theorem wlX7_154 : Cond.methodLink RX7 154 yX7_isSpan ∈ gx_T := gx_in2 187 rfl rfl
theorem wt_yX7_isSpan : Cond.static yX7_isSpan ∈ gx_T := gx_in2 188 rfl rfl
theorem wc_yX7_isSpan : Cond.code yX7_isSpan cX7_isSpan 1 (some .boolean) ∈ gx_T := gx_in2 189 rfl rfl
theorem wlX7_160 : Cond.methodLink RX7 160 yX4_wetBehind ∈ gx_T := gx_in2 190 rfl rfl
theorem wi_yX4_wetBehind : Cond.instanceMethod yX4_wetBehind ∈ gx_T := gx_in2 191 rfl rfl
theorem ws_yX4_wetBehind : Cond.selects RX4 yX4_wetBehind yX4_wetBehind ∈ gx_T := gx_in2 192 rfl rfl
theorem wc_yX4_wetBehind : Cond.code yX4_wetBehind cX4_wetBehind 6 (some .int) ∈ gx_T := gx_in2 193 rfl rfl
theorem wlX4_42 : Cond.methodLink RX4 42 yX4_outIn ∈ gx_T := gx_in2 194 rfl rfl
theorem wi_yX4_outIn : Cond.instanceMethod yX4_outIn ∈ gx_T := gx_in2 196 rfl rfl
theorem wc_yX4_outIn : Cond.code yX4_outIn cX4_outIn 2 (some .int) ∈ gx_T := gx_in2 197 rfl rfl
theorem wlX4_38 : Cond.methodLink RX4 38 yX2_outAt ∈ gx_T := gx_in2 198 rfl rfl
theorem wlX4_45 : Cond.methodLink RX4 45 yX2_drips ∈ gx_T := gx_in2 199 rfl rfl
theorem wi_yX2_drips : Cond.instanceMethod yX2_drips ∈ gx_T := gx_in2 200 rfl rfl
theorem ws_yX2_drips : Cond.selects RX2 yX2_drips yX2_drips ∈ gx_T := gx_in2 201 rfl rfl
theorem wc_yX2_drips : Cond.code yX2_drips cX2_drips 5 (some .int) ∈ gx_T := gx_in2 202 rfl rfl
theorem wlX2_70 : Cond.methodLink RX2 70 Lib.Math.max.name ∈ gx_T := gx_in2 203 rfl rfl
theorem wlX4_52 : Cond.methodLink RX4 52 yX2_room ∈ gx_T := gx_in2 204 rfl rfl
theorem wi_yX2_room : Cond.instanceMethod yX2_room ∈ gx_T := gx_in2 205 rfl rfl
theorem ws_yX2_room : Cond.selects RX2 yX2_room yX2_room ∈ gx_T := gx_in2 206 rfl rfl
theorem wc_yX2_room : Cond.code yX2_room cX2_room 3 (some .int) ∈ gx_T := gx_in2 207 rfl rfl
theorem wlX4_56 : Cond.methodLink RX4 56 Lib.Math.min.name ∈ gx_T := gx_in2 208 rfl rfl
theorem wlL_53 : Cond.methodLink RL 53 yX7_most ∈ gx_T := gx_in2 209 rfl rfl
theorem wi_yX7_most : Cond.instanceMethod yX7_most ∈ gx_T := gx_in2 210 rfl rfl
theorem ws_yX7_most : Cond.selects RX7 yX7_most yX7_most ∈ gx_T := gx_in2 211 rfl rfl
theorem wc_yX7_most : Cond.code yX7_most cX7_most 4 (some .int) ∈ gx_T := gx_in2 212 rfl rfl
theorem wlX7_167 : Cond.methodLink RX7 167 yX4_allBehind ∈ gx_T := gx_in2 213 rfl rfl
theorem wi_yX4_allBehind : Cond.instanceMethod yX4_allBehind ∈ gx_T := gx_in2 214 rfl rfl
theorem ws_yX4_allBehind : Cond.selects RX4 yX4_allBehind yX4_allBehind ∈ gx_T := gx_in2 215 rfl rfl
theorem wc_yX4_allBehind : Cond.code yX4_allBehind cX4_allBehind 5 (some .int) ∈ gx_T := gx_in2 216 rfl rfl
theorem wlX4_61 : Cond.methodLink RX4 61 yX4_wetBehind ∈ gx_T := gx_in2 217 rfl rfl
theorem wlX7_170 : Cond.methodLink RX7 170 yX4_mostBehind ∈ gx_T := gx_in2 218 rfl rfl
theorem wi_yX4_mostBehind : Cond.instanceMethod yX4_mostBehind ∈ gx_T := gx_in2 219 rfl rfl
theorem ws_yX4_mostBehind : Cond.selects RX4 yX4_mostBehind yX4_mostBehind ∈ gx_T := gx_in2 220 rfl rfl
theorem wc_yX4_mostBehind : Cond.code yX4_mostBehind cX4_mostBehind 7 (some .int) ∈ gx_T := gx_in2 221 rfl rfl
theorem wlL_57 : Cond.methodLink RL 57 yX7_caught ∈ gx_T := gx_in2 222 rfl rfl
theorem wi_yX7_caught : Cond.instanceMethod yX7_caught ∈ gx_T := gx_in2 223 rfl rfl
theorem ws_yX7_caught : Cond.selects RX7 yX7_caught yX7_caught ∈ gx_T := gx_in2 224 rfl rfl
theorem wc_yX7_caught : Cond.code yX7_caught cX7_caught 3 (some .int) ∈ gx_T := gx_in2 225 rfl rfl
theorem wlX7_173 : Cond.methodLink RX7 173 yX4_caughtBehind ∈ gx_T := gx_in2 226 rfl rfl
theorem wi_yX4_caughtBehind : Cond.instanceMethod yX4_caughtBehind ∈ gx_T := gx_in2 227 rfl rfl
theorem ws_yX4_caughtBehind : Cond.selects RX4 yX4_caughtBehind yX4_caughtBehind ∈ gx_T := gx_in2 228 rfl rfl
theorem wc_yX4_caughtBehind : Cond.code yX4_caughtBehind cX4_caughtBehind 5 (some .int) ∈ gx_T := gx_in2 229 rfl rfl
theorem wlX4_64 : Cond.methodLink RX4 64 yX2_caughtBy ∈ gx_T := gx_in2 230 rfl rfl
theorem wlL_61 : Cond.methodLink RL 61 yX7_first ∈ gx_T := gx_in2 231 rfl rfl
theorem wi_yX7_first : Cond.instanceMethod yX7_first ∈ gx_T := gx_in2 232 rfl rfl
theorem ws_yX7_first : Cond.selects RX7 yX7_first yX7_first ∈ gx_T := gx_in2 233 rfl rfl
theorem wc_yX7_first : Cond.code yX7_first cX7_first 2 (some .int) ∈ gx_T := gx_in2 234 rfl rfl
theorem wlX7_176 : Cond.methodLink RX7 176 yX4_firstWetter ∈ gx_T := gx_in2 235 rfl rfl
theorem wi_yX4_firstWetter : Cond.instanceMethod yX4_firstWetter ∈ gx_T := gx_in2 236 rfl rfl
theorem ws_yX4_firstWetter : Cond.selects RX4 yX4_firstWetter yX4_firstWetter ∈ gx_T := gx_in2 237 rfl rfl
theorem wc_yX4_firstWetter : Cond.code yX4_firstWetter cX4_firstWetter 4 (some .int) ∈ gx_T := gx_in2 238 rfl rfl
theorem wlL_65 : Cond.methodLink RL 65 yX7_from ∈ gx_T := gx_in2 239 rfl rfl
theorem wi_yX7_from : Cond.instanceMethod yX7_from ∈ gx_T := gx_in3 0 rfl rfl
theorem ws_yX7_from : Cond.selects RX7 yX7_from yX7_from ∈ gx_T := gx_in3 1 rfl rfl
theorem wc_yX7_from : Cond.code yX7_from cX7_from 3 (some .int) ∈ gx_T := gx_in3 2 rfl rfl
theorem wlX7_179 : Cond.methodLink RX7 179 yX4_pairs ∈ gx_T := gx_in3 3 rfl rfl
theorem wi_yX4_pairs : Cond.instanceMethod yX4_pairs ∈ gx_T := gx_in3 4 rfl rfl
theorem ws_yX4_pairs : Cond.selects RX4 yX4_pairs yX4_pairs ∈ gx_T := gx_in3 5 rfl rfl
theorem wc_yX4_pairs : Cond.code yX4_pairs cX4_pairs 5 (some .int) ∈ gx_T := gx_in3 6 rfl rfl
theorem wlX4_70 : Cond.methodLink RX4 70 yX4_wetter ∈ gx_T := gx_in3 7 rfl rfl
theorem wt_yX4_wetter : Cond.static yX4_wetter ∈ gx_T := gx_in3 8 rfl rfl
theorem wc_yX4_wetter : Cond.code yX4_wetter cX4_wetter 10 (some .int) ∈ gx_T := gx_in3 9 rfl rfl
theorem wlL_69 : Cond.methodLink RL 69 yX7_dry ∈ gx_T := gx_in3 10 rfl rfl
theorem wi_yX7_dry : Cond.instanceMethod yX7_dry ∈ gx_T := gx_in3 11 rfl rfl
theorem ws_yX7_dry : Cond.selects RX7 yX7_dry yX7_dry ∈ gx_T := gx_in3 12 rfl rfl
theorem wc_yX7_dry : Cond.code yX7_dry cX7_dry 4 (some .int) ∈ gx_T := gx_in3 13 rfl rfl
theorem wlX7_183 : Cond.methodLink RX7 183 yX4_driest ∈ gx_T := gx_in3 14 rfl rfl
theorem wi_yX4_driest : Cond.instanceMethod yX4_driest ∈ gx_T := gx_in3 15 rfl rfl
theorem ws_yX4_driest : Cond.selects RX4 yX4_driest yX4_driest ∈ gx_T := gx_in3 16 rfl rfl
theorem wc_yX4_driest : Cond.code yX4_driest cX4_driest 7 (some .int) ∈ gx_T := gx_in3 17 rfl rfl
theorem wlX4_77 : Cond.methodLink RX4 77 yX2_liken ∈ gx_T := gx_in3 18 rfl rfl
theorem wi_yX2_liken : Cond.instanceMethod yX2_liken ∈ gx_T := gx_in3 19 rfl rfl
theorem ws_yX2_liken : Cond.selects RX2 yX2_liken yX2_liken ∈ gx_T := gx_in3 20 rfl rfl
theorem wc_yX2_liken : Cond.code yX2_liken cX2_liken 2 none ∈ gx_T := gx_in3 21 rfl rfl
theorem wlX2_44 : Cond.methodLink RX2 44 arraycopyName ∈ gx_T := gx_in3 22 rfl rfl
theorem wlX4_81 : Cond.methodLink RX4 81 yJ6_bitCount_0f7a4 ∈ gx_T := gx_in3 23 rfl rfl
theorem wt_yJ6_bitCount_0f7a4 : Cond.static yJ6_bitCount_0f7a4 ∈ gx_T := gx_in3 24 rfl rfl
theorem wc_yJ6_bitCount_0f7a4 : Cond.code yJ6_bitCount_0f7a4 cJ6_bitCount_0f7a4 1 (some .int) ∈ gx_T := gx_in3 25 rfl rfl
theorem wkJ6_265 : Cond.constant RJ6 265 (1431655765) ∈ gx_T := gx_in3 26 rfl rfl
theorem wkJ6_266 : Cond.constant RJ6 266 (858993459) ∈ gx_T := gx_in3 27 rfl rfl
theorem wkJ6_267 : Cond.constant RJ6 267 (252645135) ∈ gx_T := gx_in3 28 rfl rfl
theorem wlX4_86 : Cond.methodLink RX4 86 yX4_spread ∈ gx_T := gx_in3 29 rfl rfl
theorem wi_yX4_spread : Cond.instanceMethod yX4_spread ∈ gx_T := gx_in3 31 rfl rfl
theorem wc_yX4_spread : Cond.code yX4_spread cX4_spread 5 none ∈ gx_T := gx_in3 32 rfl rfl
theorem wlX7_186 : Cond.methodLink RX7 186 yJ6_bitCount_0f7a4 ∈ gx_T := gx_in3 33 rfl rfl
theorem wlL_73 : Cond.methodLink RL 73 yX7_change ∈ gx_T := gx_in3 34 rfl rfl
theorem wi_yX7_change : Cond.instanceMethod yX7_change ∈ gx_T := gx_in3 35 rfl rfl
theorem ws_yX7_change : Cond.selects RX7 yX7_change yX7_change ∈ gx_T := gx_in3 36 rfl rfl
theorem wc_yX7_change : Cond.code yX7_change cX7_change 5 (some .int) ∈ gx_T := gx_in3 37 rfl rfl
theorem wlX7_191 : Cond.methodLink RX7 191 yX4_deal ∈ gx_T := gx_in3 38 rfl rfl
theorem wi_yX4_deal : Cond.instanceMethod yX4_deal ∈ gx_T := gx_in3 39 rfl rfl
theorem ws_yX4_deal : Cond.selects RX4 yX4_deal yX4_deal ∈ gx_T := gx_in3 40 rfl rfl
theorem wc_yX4_deal : Cond.code yX4_deal cX4_deal 7 (some .int) ∈ gx_T := gx_in3 41 rfl rfl
theorem wlX4_93 : Cond.methodLink RX4 93 arraycopyName ∈ gx_T := gx_in3 42 rfl rfl
theorem wlX4_99 : Cond.methodLink RX4 99 yX4_nextDealing ∈ gx_T := gx_in3 43 rfl rfl
theorem wi_yX4_nextDealing : Cond.instanceMethod yX4_nextDealing ∈ gx_T := gx_in3 45 rfl rfl
theorem wc_yX4_nextDealing : Cond.code yX4_nextDealing cX4_nextDealing 6 (some .boolean) ∈ gx_T := gx_in3 46 rfl rfl
theorem wlX4_103 : Cond.methodLink RX4 103 yX4_exchange ∈ gx_T := gx_in3 47 rfl rfl
theorem wi_yX4_exchange : Cond.instanceMethod yX4_exchange ∈ gx_T := gx_in3 49 rfl rfl
theorem wc_yX4_exchange : Cond.code yX4_exchange cX4_exchange 4 none ∈ gx_T := gx_in3 50 rfl rfl
theorem wlX7_195 : Cond.methodLink RX7 195 yX4_dealtFlat ∈ gx_T := gx_in3 51 rfl rfl
theorem wi_yX4_dealtFlat : Cond.instanceMethod yX4_dealtFlat ∈ gx_T := gx_in3 52 rfl rfl
theorem ws_yX4_dealtFlat : Cond.selects RX4 yX4_dealtFlat yX4_dealtFlat ∈ gx_T := gx_in3 53 rfl rfl
theorem wc_yX4_dealtFlat : Cond.code yX4_dealtFlat cX4_dealtFlat 2 (some .int) ∈ gx_T := gx_in3 54 rfl rfl
theorem wlL_77 : Cond.methodLink RL 77 yX7_who ∈ gx_T := gx_in3 55 rfl rfl
theorem wi_yX7_who : Cond.instanceMethod yX7_who ∈ gx_T := gx_in3 56 rfl rfl
theorem ws_yX7_who : Cond.selects RX7 yX7_who yX7_who ∈ gx_T := gx_in3 57 rfl rfl
theorem wc_yX7_who : Cond.code yX7_who cX7_who 5 (some .int) ∈ gx_T := gx_in3 58 rfl rfl
theorem wlX7_198 : Cond.methodLink RX7 198 yX7_basinRefusal ∈ gx_T := gx_in3 59 rfl rfl
theorem wt_yX7_basinRefusal : Cond.static yX7_basinRefusal ∈ gx_T := gx_in3 60 rfl rfl
theorem wc_yX7_basinRefusal : Cond.code yX7_basinRefusal cX7_basinRefusal 1 (some .int) ∈ gx_T := gx_in3 61 rfl rfl
theorem wlX7_324 : Cond.methodLink RX7 324 yX5_isEmpty ∈ gx_T := gx_in3 62 rfl rfl
theorem wi_yX5_isEmpty : Cond.instanceMethod yX5_isEmpty ∈ gx_T := gx_in3 63 rfl rfl
theorem ws_yX5_isEmpty : Cond.selects RX5 yX5_isEmpty yX5_isEmpty ∈ gx_T := gx_in3 64 rfl rfl
theorem wc_yX5_isEmpty : Cond.code yX5_isEmpty cX5_isEmpty 1 (some .boolean) ∈ gx_T := gx_in3 65 rfl rfl
theorem wlX7_202 : Cond.methodLink RX7 202 yX4_sets ∈ gx_T := gx_in3 66 rfl rfl
theorem wi_yX4_sets : Cond.instanceMethod yX4_sets ∈ gx_T := gx_in3 67 rfl rfl
theorem ws_yX4_sets : Cond.selects RX4 yX4_sets yX4_sets ∈ gx_T := gx_in3 68 rfl rfl
theorem wc_yX4_sets : Cond.code yX4_sets cX4_sets 7 (some .int) ∈ gx_T := gx_in3 69 rfl rfl
theorem wlX4_106 : Cond.methodLink RX4 106 yX4_fills ∈ gx_T := gx_in3 70 rfl rfl
theorem wt_yX4_fills : Cond.static yX4_fills ∈ gx_T := gx_in3 71 rfl rfl
theorem wc_yX4_fills : Cond.code yX4_fills cX4_fills 4 (some .boolean) ∈ gx_T := gx_in3 72 rfl rfl
theorem wlL_81 : Cond.methodLink RL 81 yX7_thought ∈ gx_T := gx_in3 73 rfl rfl
theorem wi_yX7_thought : Cond.instanceMethod yX7_thought ∈ gx_T := gx_in3 74 rfl rfl
theorem ws_yX7_thought : Cond.selects RX7 yX7_thought yX7_thought ∈ gx_T := gx_in3 75 rfl rfl
theorem wc_yX7_thought : Cond.code yX7_thought cX7_thought 6 (some .int) ∈ gx_T := gx_in3 76 rfl rfl
theorem wlX7_206 : Cond.methodLink RX7 206 yX4_amounts ∈ gx_T := gx_in3 77 rfl rfl
theorem wi_yX4_amounts : Cond.instanceMethod yX4_amounts ∈ gx_T := gx_in3 78 rfl rfl
theorem ws_yX4_amounts : Cond.selects RX4 yX4_amounts yX4_amounts ∈ gx_T := gx_in3 79 rfl rfl
theorem wc_yX4_amounts : Cond.code yX4_amounts cX4_amounts 9 (some .int) ∈ gx_T := gx_in3 80 rfl rfl
theorem wfX4_110 : Cond.fieldLink RX4 110 "ThoughtsDrip$House" "GREATEST" "[I" ∈ gx_T := gx_in3 81 rfl rfl
theorem wlL_86 : Cond.methodLink RL 86 yX7_rent ∈ gx_T := gx_in3 82 rfl rfl
theorem wi_yX7_rent : Cond.instanceMethod yX7_rent ∈ gx_T := gx_in3 83 rfl rfl
theorem ws_yX7_rent : Cond.selects RX7 yX7_rent yX7_rent ∈ gx_T := gx_in3 84 rfl rfl
theorem wc_yX7_rent : Cond.code yX7_rent cX7_rent 3 (some .int) ∈ gx_T := gx_in3 85 rfl rfl
theorem wlX7_210 : Cond.methodLink RX7 210 yX4_share ∈ gx_T := gx_in3 86 rfl rfl
theorem wi_yX4_share : Cond.instanceMethod yX4_share ∈ gx_T := gx_in3 87 rfl rfl
theorem ws_yX4_share : Cond.selects RX4 yX4_share yX4_share ∈ gx_T := gx_in3 88 rfl rfl
theorem wc_yX4_share : Cond.code yX4_share cX4_share 8 (some .int) ∈ gx_T := gx_in3 89 rfl rfl
theorem wlX4_116 : Cond.methodLink RX4 116 yX4_comesInAll ∈ gx_T := gx_in3 90 rfl rfl
theorem wi_yX4_comesInAll : Cond.instanceMethod yX4_comesInAll ∈ gx_T := gx_in3 92 rfl rfl
theorem wc_yX4_comesInAll : Cond.code yX4_comesInAll cX4_comesInAll 6 (some .int) ∈ gx_T := gx_in3 93 rfl rfl
theorem wlX4_119 : Cond.methodLink RX4 119 yX2_reaches ∈ gx_T := gx_in3 94 rfl rfl
theorem wlL_90 : Cond.methodLink RL 90 yX7_swap ∈ gx_T := gx_in3 95 rfl rfl
theorem wi_yX7_swap : Cond.instanceMethod yX7_swap ∈ gx_T := gx_in3 96 rfl rfl
theorem ws_yX7_swap : Cond.selects RX7 yX7_swap yX7_swap ∈ gx_T := gx_in3 97 rfl rfl
theorem wc_yX7_swap : Cond.code yX7_swap cX7_swap 2 (some .int) ∈ gx_T := gx_in3 98 rfl rfl
theorem wlX7_213 : Cond.methodLink RX7 213 yX4_partner ∈ gx_T := gx_in3 99 rfl rfl
theorem wi_yX4_partner : Cond.instanceMethod yX4_partner ∈ gx_T := gx_in3 100 rfl rfl
theorem ws_yX4_partner : Cond.selects RX4 yX4_partner yX4_partner ∈ gx_T := gx_in3 101 rfl rfl
theorem wc_yX4_partner : Cond.code yX4_partner cX4_partner 7 (some .int) ∈ gx_T := gx_in3 102 rfl rfl
theorem wlL_94 : Cond.methodLink RL 94 yX7_odds ∈ gx_T := gx_in3 103 rfl rfl
theorem wi_yX7_odds : Cond.instanceMethod yX7_odds ∈ gx_T := gx_in3 104 rfl rfl
theorem ws_yX7_odds : Cond.selects RX7 yX7_odds yX7_odds ∈ gx_T := gx_in3 105 rfl rfl
theorem wc_yX7_odds : Cond.code yX7_odds cX7_odds 4 (some .long) ∈ gx_T := gx_in3 106 rfl rfl
theorem wkX7_218 : Cond.constantLong RX7 218 (-9223372036854775808) ∈ gx_T := gx_in3 107 rfl rfl
theorem wlX7_220 : Cond.methodLink RX7 220 yX4_overSets ∈ gx_T := gx_in3 108 rfl rfl
theorem wi_yX4_overSets : Cond.instanceMethod yX4_overSets ∈ gx_T := gx_in3 109 rfl rfl
theorem ws_yX4_overSets : Cond.selects RX4 yX4_overSets yX4_overSets ∈ gx_T := gx_in3 110 rfl rfl
theorem wc_yX4_overSets : Cond.code yX4_overSets cX4_overSets 8 (some .int) ∈ gx_T := gx_in3 111 rfl rfl
theorem wlX7_223 : Cond.methodLink RX7 223 yX7_fraction ∈ gx_T := gx_in3 112 rfl rfl
theorem wt_yX7_fraction : Cond.static yX7_fraction ∈ gx_T := gx_in3 113 rfl rfl
theorem wc_yX7_fraction : Cond.code yX7_fraction cX7_fraction 6 (some .long) ∈ gx_T := gx_in3 114 rfl rfl
theorem wlL_99 : Cond.methodLink RL 99 yX7_mean ∈ gx_T := gx_in3 115 rfl rfl
theorem wi_yX7_mean : Cond.instanceMethod yX7_mean ∈ gx_T := gx_in3 116 rfl rfl
theorem ws_yX7_mean : Cond.selects RX7 yX7_mean yX7_mean ∈ gx_T := gx_in3 117 rfl rfl
theorem wc_yX7_mean : Cond.code yX7_mean cX7_mean 4 (some .long) ∈ gx_T := gx_in3 118 rfl rfl
theorem wlL_103 : Cond.methodLink RL 103 yX7_byTurns ∈ gx_T := gx_in3 119 rfl rfl
theorem wi_yX7_byTurns : Cond.instanceMethod yX7_byTurns ∈ gx_T := gx_in3 120 rfl rfl
theorem ws_yX7_byTurns : Cond.selects RX7 yX7_byTurns yX7_byTurns ∈ gx_T := gx_in3 121 rfl rfl
theorem wc_yX7_byTurns : Cond.code yX7_byTurns cX7_byTurns 6 (some .int) ∈ gx_T := gx_in3 122 rfl rfl
theorem wlX7_227 : Cond.methodLink RX7 227 yX4_turns ∈ gx_T := gx_in3 123 rfl rfl
theorem wi_yX4_turns : Cond.instanceMethod yX4_turns ∈ gx_T := gx_in3 124 rfl rfl
theorem ws_yX4_turns : Cond.selects RX4 yX4_turns yX4_turns ∈ gx_T := gx_in3 125 rfl rfl
theorem wc_yX4_turns : Cond.code yX4_turns cX4_turns 14 (some .int) ∈ gx_T := gx_in3 126 rfl rfl
theorem wlX4_123 : Cond.methodLink RX4 123 yX4_favourite ∈ gx_T := gx_in3 127 rfl rfl
theorem wi_yX4_favourite : Cond.instanceMethod yX4_favourite ∈ gx_T := gx_in3 129 rfl rfl
theorem wc_yX4_favourite : Cond.code yX4_favourite cX4_favourite 4 (some .int) ∈ gx_T := gx_in3 130 rfl rfl
theorem wlX4_126 : Cond.methodLink RX4 126 Lib.Math.max.name ∈ gx_T := gx_in3 131 rfl rfl
theorem wlL_107 : Cond.methodLink RL 107 yX7_drawn ∈ gx_T := gx_in3 132 rfl rfl
theorem wi_yX7_drawn : Cond.instanceMethod yX7_drawn ∈ gx_T := gx_in3 133 rfl rfl
theorem ws_yX7_drawn : Cond.selects RX7 yX7_drawn yX7_drawn ∈ gx_T := gx_in3 134 rfl rfl
theorem wc_yX7_drawn : Cond.code yX7_drawn cX7_drawn 6 (some .int) ∈ gx_T := gx_in3 135 rfl rfl
theorem wlX7_231 : Cond.methodLink RX7 231 yX4_draw ∈ gx_T := gx_in3 136 rfl rfl
theorem wi_yX4_draw : Cond.instanceMethod yX4_draw ∈ gx_T := gx_in3 137 rfl rfl
theorem ws_yX4_draw : Cond.selects RX4 yX4_draw yX4_draw ∈ gx_T := gx_in3 138 rfl rfl
theorem wc_yX4_draw : Cond.code yX4_draw cX4_draw 12 (some .int) ∈ gx_T := gx_in3 139 rfl rfl
theorem wkX4_129 : Cond.constant RX4 129 (1103515245) ∈ gx_T := gx_in3 140 rfl rfl
theorem wlX4_130 : Cond.methodLink RX4 130 yX4_caughtOfAll ∈ gx_T := gx_in3 141 rfl rfl
theorem wi_yX4_caughtOfAll : Cond.instanceMethod yX4_caughtOfAll ∈ gx_T := gx_in3 143 rfl rfl
theorem wc_yX4_caughtOfAll : Cond.code yX4_caughtOfAll cX4_caughtOfAll 4 (some .int) ∈ gx_T := gx_in3 144 rfl rfl
theorem wlX4_133 : Cond.methodLink RX4 133 yX4_soak ∈ gx_T := gx_in3 145 rfl rfl
theorem wi_yX4_soak : Cond.instanceMethod yX4_soak ∈ gx_T := gx_in3 147 rfl rfl
theorem wc_yX4_soak : Cond.code yX4_soak cX4_soak 4 none ∈ gx_T := gx_in3 148 rfl rfl
theorem wlX4_137 : Cond.methodLink RX4 137 yX4_gainedInAll ∈ gx_T := gx_in3 149 rfl rfl
theorem wi_yX4_gainedInAll : Cond.instanceMethod yX4_gainedInAll ∈ gx_T := gx_in3 151 rfl rfl
theorem wc_yX4_gainedInAll : Cond.code yX4_gainedInAll cX4_gainedInAll 4 (some .int) ∈ gx_T := gx_in3 152 rfl rfl
theorem wlL_111 : Cond.methodLink RL 111 yX7_hour ∈ gx_T := gx_in3 153 rfl rfl
theorem wi_yX7_hour : Cond.instanceMethod yX7_hour ∈ gx_T := gx_in3 154 rfl rfl
theorem ws_yX7_hour : Cond.selects RX7 yX7_hour yX7_hour ∈ gx_T := gx_in3 155 rfl rfl
theorem wc_yX7_hour : Cond.code yX7_hour cX7_hour 1 (some .int) ∈ gx_T := gx_in3 156 rfl rfl
theorem wlX7_234 : Cond.methodLink RX7 234 yX2_passHour ∈ gx_T := gx_in3 157 rfl rfl
theorem wi_yX2_passHour : Cond.instanceMethod yX2_passHour ∈ gx_T := gx_in3 158 rfl rfl
theorem ws_yX2_passHour : Cond.selects RX2 yX2_passHour yX2_passHour ∈ gx_T := gx_in3 159 rfl rfl
theorem wc_yX2_passHour : Cond.code yX2_passHour cX2_passHour 4 none ∈ gx_T := gx_in3 160 rfl rfl
theorem wlX2_73 : Cond.methodLink RX2 73 yX2_outAt ∈ gx_T := gx_in3 161 rfl rfl
theorem wlX2_76 : Cond.methodLink RX2 76 yX2_room ∈ gx_T := gx_in3 162 rfl rfl
theorem wlX2_79 : Cond.methodLink RX2 79 yX2_drips ∈ gx_T := gx_in3 163 rfl rfl
theorem wlX2_50 : Cond.methodLink RX2 50 Lib.Math.min.name ∈ gx_T := gx_in3 164 rfl rfl
theorem wlX2_83 : Cond.methodLink RX2 83 yX2_caughtBy ∈ gx_T := gx_in3 165 rfl rfl
theorem wlL_115 : Cond.methodLink RL 115 yX7_moves ∈ gx_T := gx_in3 166 rfl rfl
theorem wi_yX7_moves : Cond.instanceMethod yX7_moves ∈ gx_T := gx_in3 167 rfl rfl
theorem ws_yX7_moves : Cond.selects RX7 yX7_moves yX7_moves ∈ gx_T := gx_in3 168 rfl rfl
theorem wc_yX7_moves : Cond.code yX7_moves cX7_moves 4 (some .int) ∈ gx_T := gx_in3 169 rfl rfl
theorem wlL_119 : Cond.methodLink RL 119 yX7_awning ∈ gx_T := gx_in3 170 rfl rfl
theorem wi_yX7_awning : Cond.instanceMethod yX7_awning ∈ gx_T := gx_in3 171 rfl rfl
theorem ws_yX7_awning : Cond.selects RX7 yX7_awning yX7_awning ∈ gx_T := gx_in3 172 rfl rfl
theorem wc_yX7_awning : Cond.code yX7_awning cX7_awning 2 (some .int) ∈ gx_T := gx_in3 173 rfl rfl
theorem wlX7_249 : Cond.methodLink RX7 249 Lib.Math.min.name ∈ gx_T := gx_in3 174 rfl rfl
theorem wlL_123 : Cond.methodLink RL 123 yX7_wipe ∈ gx_T := gx_in3 175 rfl rfl
theorem wi_yX7_wipe : Cond.instanceMethod yX7_wipe ∈ gx_T := gx_in3 176 rfl rfl
theorem ws_yX7_wipe : Cond.selects RX7 yX7_wipe yX7_wipe ∈ gx_T := gx_in3 177 rfl rfl
theorem wc_yX7_wipe : Cond.code yX7_wipe cX7_wipe 2 (some .int) ∈ gx_T := gx_in3 178 rfl rfl
theorem wlX7_254 : Cond.methodLink RX7 254 yX2_dried ∈ gx_T := gx_in3 179 rfl rfl
theorem wi_yX2_dried : Cond.instanceMethod yX2_dried ∈ gx_T := gx_in3 180 rfl rfl
theorem ws_yX2_dried : Cond.selects RX2 yX2_dried yX2_dried ∈ gx_T := gx_in3 181 rfl rfl
theorem wc_yX2_dried : Cond.code yX2_dried cX2_dried 4 (some .int) ∈ gx_T := gx_in3 182 rfl rfl
theorem wlL_127 : Cond.methodLink RL 127 yX7_led ∈ gx_T := gx_in3 183 rfl rfl
theorem wi_yX7_led : Cond.instanceMethod yX7_led ∈ gx_T := gx_in3 184 rfl rfl
theorem ws_yX7_led : Cond.selects RX7 yX7_led yX7_led ∈ gx_T := gx_in3 185 rfl rfl
theorem wc_yX7_led : Cond.code yX7_led cX7_led 2 (some .int) ∈ gx_T := gx_in3 186 rfl rfl
theorem wlL_131 : Cond.methodLink RL 131 yX7_image ∈ gx_T := gx_in3 187 rfl rfl
theorem wi_yX7_image : Cond.instanceMethod yX7_image ∈ gx_T := gx_in3 188 rfl rfl
theorem ws_yX7_image : Cond.selects RX7 yX7_image yX7_image ∈ gx_T := gx_in3 189 rfl rfl
theorem wc_yX7_image : Cond.code yX7_image cX7_image 1 (some .int) ∈ gx_T := gx_in3 190 rfl rfl
theorem wlX7_257 : Cond.methodLink RX7 257 yX2_liken ∈ gx_T := gx_in3 191 rfl rfl
theorem wlL_135 : Cond.methodLink RL 135 yX7_back ∈ gx_T := gx_in3 192 rfl rfl
theorem wi_yX7_back : Cond.instanceMethod yX7_back ∈ gx_T := gx_in3 193 rfl rfl
theorem ws_yX7_back : Cond.selects RX7 yX7_back yX7_back ∈ gx_T := gx_in3 194 rfl rfl
theorem wc_yX7_back : Cond.code yX7_back cX7_back 1 (some .int) ∈ gx_T := gx_in3 195 rfl rfl
theorem wlX7_261 : Cond.methodLink RX7 261 yX2_layBack ∈ gx_T := gx_in3 196 rfl rfl
theorem wi_yX2_layBack : Cond.instanceMethod yX2_layBack ∈ gx_T := gx_in3 197 rfl rfl
theorem ws_yX2_layBack : Cond.selects RX2 yX2_layBack yX2_layBack ∈ gx_T := gx_in3 198 rfl rfl
theorem wc_yX2_layBack : Cond.code yX2_layBack cX2_layBack 3 none ∈ gx_T := gx_in3 199 rfl rfl
theorem wlL_139 : Cond.methodLink RL 139 yX7_undo ∈ gx_T := gx_in3 200 rfl rfl
theorem wi_yX7_undo : Cond.instanceMethod yX7_undo ∈ gx_T := gx_in3 201 rfl rfl
theorem ws_yX7_undo : Cond.selects RX7 yX7_undo yX7_undo ∈ gx_T := gx_in3 202 rfl rfl
theorem wc_yX7_undo : Cond.code yX7_undo cX7_undo 2 (some .int) ∈ gx_T := gx_in3 203 rfl rfl
theorem wlX7_267 : Cond.methodLink RX7 267 yX1_stepBack ∈ gx_T := gx_in3 204 rfl rfl
theorem wi_yX1_stepBack : Cond.instanceMethod yX1_stepBack ∈ gx_T := gx_in3 205 rfl rfl
theorem ws_yX1_stepBack : Cond.selects RX1 yX1_stepBack yX1_stepBack ∈ gx_T := gx_in3 206 rfl rfl
theorem wc_yX1_stepBack : Cond.code yX1_stepBack cX1_stepBack 1 (some .int) ∈ gx_T := gx_in3 207 rfl rfl
theorem wlL_143 : Cond.methodLink RL 143 yX7_redo ∈ gx_T := gx_in3 208 rfl rfl
theorem wi_yX7_redo : Cond.instanceMethod yX7_redo ∈ gx_T := gx_in3 209 rfl rfl
theorem ws_yX7_redo : Cond.selects RX7 yX7_redo yX7_redo ∈ gx_T := gx_in3 210 rfl rfl
theorem wc_yX7_redo : Cond.code yX7_redo cX7_redo 2 (some .int) ∈ gx_T := gx_in3 211 rfl rfl
theorem wlX7_283 : Cond.methodLink RX7 283 yX1_stepOn ∈ gx_T := gx_in3 212 rfl rfl
theorem wi_yX1_stepOn : Cond.instanceMethod yX1_stepOn ∈ gx_T := gx_in3 213 rfl rfl
theorem ws_yX1_stepOn : Cond.selects RX1 yX1_stepOn yX1_stepOn ∈ gx_T := gx_in3 214 rfl rfl
theorem wc_yX1_stepOn : Cond.code yX1_stepOn cX1_stepOn 1 (some .int) ∈ gx_T := gx_in3 215 rfl rfl
theorem wlL_147 : Cond.methodLink RL 147 yX7_body ∈ gx_T := gx_in3 216 rfl rfl
theorem wi_yX7_body : Cond.instanceMethod yX7_body ∈ gx_T := gx_in3 217 rfl rfl
theorem ws_yX7_body : Cond.selects RX7 yX7_body yX7_body ∈ gx_T := gx_in3 218 rfl rfl
theorem wc_yX7_body : Cond.code yX7_body cX7_body 2 (some .int) ∈ gx_T := gx_in3 219 rfl rfl
theorem wlX7_289 : Cond.methodLink RX7 289 yX7_isKind ∈ gx_T := gx_in3 220 rfl rfl
theorem wt_yX7_isKind : Cond.static yX7_isKind ∈ gx_T := gx_in3 221 rfl rfl
theorem wc_yX7_isKind : Cond.code yX7_isKind cX7_isKind 1 (some .boolean) ∈ gx_T := gx_in3 222 rfl rfl
theorem wlX7_295 : Cond.methodLink RX7 295 yX0_add ∈ gx_T := gx_in3 223 rfl rfl
theorem wi_yX0_add : Cond.instanceMethod yX0_add ∈ gx_T := gx_in3 224 rfl rfl
theorem ws_yX0_add : Cond.selects RX0 yX0_add yX0_add ∈ gx_T := gx_in3 225 rfl rfl
theorem wc_yX0_add : Cond.code yX0_add cX0_add 2 (some .int) ∈ gx_T := gx_in3 226 rfl rfl
theorem wlL_151 : Cond.methodLink RL 151 yX7_act ∈ gx_T := gx_in3 227 rfl rfl
theorem wi_yX7_act : Cond.instanceMethod yX7_act ∈ gx_T := gx_in3 228 rfl rfl
theorem ws_yX7_act : Cond.selects RX7 yX7_act yX7_act ∈ gx_T := gx_in3 229 rfl rfl
theorem wc_yX7_act : Cond.code yX7_act cX7_act 4 (some .int) ∈ gx_T := gx_in3 230 rfl rfl
theorem wlX7_297 : Cond.methodLink RX7 297 yX7_isBody ∈ gx_T := gx_in3 231 rfl rfl
theorem wi_yX7_isBody : Cond.instanceMethod yX7_isBody ∈ gx_T := gx_in3 233 rfl rfl
theorem wc_yX7_isBody : Cond.code yX7_isBody cX7_isBody 2 (some .boolean) ∈ gx_T := gx_in3 234 rfl rfl
theorem wlX7_303 : Cond.methodLink RX7 303 yX0_acted ∈ gx_T := gx_in3 235 rfl rfl
theorem wi_yX0_acted : Cond.instanceMethod yX0_acted ∈ gx_T := gx_in3 236 rfl rfl
theorem ws_yX0_acted : Cond.selects RX0 yX0_acted yX0_acted ∈ gx_T := gx_in3 237 rfl rfl
theorem wc_yX0_acted : Cond.code yX0_acted cX0_acted 4 (some .int) ∈ gx_T := gx_in3 238 rfl rfl
theorem wlX0_31 : Cond.methodLink RX0 31 yX0_does ∈ gx_T := gx_in3 239 rfl rfl
theorem wi_yX0_does : Cond.instanceMethod yX0_does ∈ gx_T := gx_in4 1 rfl rfl
theorem wc_yX0_does : Cond.code yX0_does cX0_does 8 (some .int) ∈ gx_T := gx_in4 2 rfl rfl
theorem wlX0_35 : Cond.methodLink RX0 35 yX0_owner ∈ gx_T := gx_in4 3 rfl rfl
theorem wt_yX0_owner : Cond.static yX0_owner ∈ gx_T := gx_in4 4 rfl rfl
theorem wc_yX0_owner : Cond.code yX0_owner cX0_owner 4 (some .int) ∈ gx_T := gx_in4 5 rfl rfl
theorem wfX0_28 : Cond.fieldLink RX0 28 "ThoughtsDrip$Acts" "OWN" "[I" ∈ gx_T := gx_in4 6 rfl rfl
theorem wz_X0_OWN : Cond.laysStatic "ThoughtsDrip$Acts" "OWN" "[I" ∈ lw_tbl := gx_il4 7 rfl
theorem wfX0_25 : Cond.fieldLink RX0 25 "ThoughtsDrip$Acts" "ABOVE" "[I" ∈ gx_T := gx_in4 8 rfl rfl
theorem wz_X0_ABOVE : Cond.laysStatic "ThoughtsDrip$Acts" "ABOVE" "[I" ∈ lw_tbl := gx_il4 9 rfl
theorem wlX0_39 : Cond.methodLink RX0 39 yX0_plays ∈ gx_T := gx_in4 10 rfl rfl
theorem wi_yX0_plays : Cond.instanceMethod yX0_plays ∈ gx_T := gx_in4 12 rfl rfl
theorem wc_yX0_plays : Cond.code yX0_plays cX0_plays 7 (some .int) ∈ gx_T := gx_in4 13 rfl rfl
theorem wlL_155 : Cond.methodLink RL 155 yX7_trace ∈ gx_T := gx_in4 14 rfl rfl
theorem wi_yX7_trace : Cond.instanceMethod yX7_trace ∈ gx_T := gx_in4 15 rfl rfl
theorem ws_yX7_trace : Cond.selects RX7 yX7_trace yX7_trace ∈ gx_T := gx_in4 16 rfl rfl
theorem wc_yX7_trace : Cond.code yX7_trace cX7_trace 2 (some .int) ∈ gx_T := gx_in4 17 rfl rfl
theorem wlL_159 : Cond.methodLink RL 159 yX7_keep ∈ gx_T := gx_in4 18 rfl rfl
theorem wi_yX7_keep : Cond.instanceMethod yX7_keep ∈ gx_T := gx_in4 19 rfl rfl
theorem ws_yX7_keep : Cond.selects RX7 yX7_keep yX7_keep ∈ gx_T := gx_in4 20 rfl rfl
theorem wc_yX7_keep : Cond.code yX7_keep cX7_keep 3 (some .int) ∈ gx_T := gx_in4 21 rfl rfl
theorem wlX7_309 : Cond.methodLink RX7 309 yX5_holdBody ∈ gx_T := gx_in4 22 rfl rfl
theorem wi_yX5_holdBody : Cond.instanceMethod yX5_holdBody ∈ gx_T := gx_in4 23 rfl rfl
theorem ws_yX5_holdBody : Cond.selects RX5 yX5_holdBody yX5_holdBody ∈ gx_T := gx_in4 24 rfl rfl
theorem wc_yX5_holdBody : Cond.code yX5_holdBody cX5_holdBody 2 none ∈ gx_T := gx_in4 25 rfl rfl
theorem wlL_163 : Cond.methodLink RL 163 yX7_row ∈ gx_T := gx_in4 26 rfl rfl
theorem wi_yX7_row : Cond.instanceMethod yX7_row ∈ gx_T := gx_in4 27 rfl rfl
theorem ws_yX7_row : Cond.selects RX7 yX7_row yX7_row ∈ gx_T := gx_in4 28 rfl rfl
theorem wc_yX7_row : Cond.code yX7_row cX7_row 4 (some .int) ∈ gx_T := gx_in4 29 rfl rfl
theorem wlX7_313 : Cond.methodLink RX7 313 yX5_holdRow ∈ gx_T := gx_in4 30 rfl rfl
theorem wi_yX5_holdRow : Cond.instanceMethod yX5_holdRow ∈ gx_T := gx_in4 31 rfl rfl
theorem ws_yX5_holdRow : Cond.selects RX5 yX5_holdRow yX5_holdRow ∈ gx_T := gx_in4 32 rfl rfl
theorem wc_yX5_holdRow : Cond.code yX5_holdRow cX5_holdRow 4 none ∈ gx_T := gx_in4 33 rfl rfl
theorem wlL_169 : Cond.methodLink RL 169 yX7_put ∈ gx_T := gx_in4 34 rfl rfl
theorem wi_yX7_put : Cond.instanceMethod yX7_put ∈ gx_T := gx_in4 35 rfl rfl
theorem ws_yX7_put : Cond.selects RX7 yX7_put yX7_put ∈ gx_T := gx_in4 36 rfl rfl
theorem wc_yX7_put : Cond.code yX7_put cX7_put 6 (some .int) ∈ gx_T := gx_in4 37 rfl rfl
theorem wlX7_317 : Cond.methodLink RX7 317 yX7_placeRefusal ∈ gx_T := gx_in4 38 rfl rfl
theorem wi_yX7_placeRefusal : Cond.instanceMethod yX7_placeRefusal ∈ gx_T := gx_in4 40 rfl rfl
theorem wc_yX7_placeRefusal : Cond.code yX7_placeRefusal cX7_placeRefusal 4 (some .int) ∈ gx_T := gx_in4 41 rfl rfl
theorem wlX7_320 : Cond.methodLink RX7 320 yX5_fitted ∈ gx_T := gx_in4 42 rfl rfl
theorem wi_yX5_fitted : Cond.instanceMethod yX5_fitted ∈ gx_T := gx_in4 43 rfl rfl
theorem ws_yX5_fitted : Cond.selects RX5 yX5_fitted yX5_fitted ∈ gx_T := gx_in4 44 rfl rfl
theorem wc_yX5_fitted : Cond.code yX5_fitted cX5_fitted 3 (some .long) ∈ gx_T := gx_in4 45 rfl rfl
theorem wlL_174 : Cond.methodLink RL 174 yX7_element ∈ gx_T := gx_in4 46 rfl rfl
theorem wi_yX7_element : Cond.instanceMethod yX7_element ∈ gx_T := gx_in4 47 rfl rfl
theorem ws_yX7_element : Cond.selects RX7 yX7_element yX7_element ∈ gx_T := gx_in4 48 rfl rfl
theorem wc_yX7_element : Cond.code yX7_element cX7_element 3 (some .long) ∈ gx_T := gx_in4 49 rfl rfl
theorem wlL_179 : Cond.methodLink RL 179 yX7_shift ∈ gx_T := gx_in4 50 rfl rfl
theorem wi_yX7_shift : Cond.instanceMethod yX7_shift ∈ gx_T := gx_in4 51 rfl rfl
theorem ws_yX7_shift : Cond.selects RX7 yX7_shift yX7_shift ∈ gx_T := gx_in4 52 rfl rfl
theorem wc_yX7_shift : Cond.code yX7_shift cX7_shift 8 (some .int) ∈ gx_T := gx_in4 53 rfl rfl
theorem wlX7_327 : Cond.methodLink RX7 327 yX5_spans ∈ gx_T := gx_in4 54 rfl rfl
theorem wi_yX5_spans : Cond.instanceMethod yX5_spans ∈ gx_T := gx_in4 55 rfl rfl
theorem ws_yX5_spans : Cond.selects RX5 yX5_spans yX5_spans ∈ gx_T := gx_in4 56 rfl rfl
theorem wc_yX5_spans : Cond.code yX5_spans cX5_spans 3 (some .boolean) ∈ gx_T := gx_in4 57 rfl rfl
theorem wlX7_330 : Cond.methodLink RX7 330 arraycopyName ∈ gx_T := gx_in4 58 rfl rfl
theorem wlL_184 : Cond.methodLink RL 184 yX7_taken ∈ gx_T := gx_in4 59 rfl rfl
theorem wi_yX7_taken : Cond.instanceMethod yX7_taken ∈ gx_T := gx_in4 60 rfl rfl
theorem ws_yX7_taken : Cond.selects RX7 yX7_taken yX7_taken ∈ gx_T := gx_in4 61 rfl rfl
theorem wc_yX7_taken : Cond.code yX7_taken cX7_taken 5 (some .int) ∈ gx_T := gx_in4 62 rfl rfl
theorem wlX7_339 : Cond.methodLink RX7 339 yX0_isUnder ∈ gx_T := gx_in4 63 rfl rfl
theorem wt_yX0_isUnder : Cond.static yX0_isUnder ∈ gx_T := gx_in4 64 rfl rfl
theorem wc_yX0_isUnder : Cond.code yX0_isUnder cX0_isUnder 4 (some .boolean) ∈ gx_T := gx_in4 65 rfl rfl
theorem wlL_188 : Cond.methodLink RL 188 yX7_count ∈ gx_T := gx_in4 66 rfl rfl
theorem wi_yX7_count : Cond.instanceMethod yX7_count ∈ gx_T := gx_in4 67 rfl rfl
theorem ws_yX7_count : Cond.selects RX7 yX7_count yX7_count ∈ gx_T := gx_in4 68 rfl rfl
theorem wc_yX7_count : Cond.code yX7_count cX7_count 2 (some .int) ∈ gx_T := gx_in4 69 rfl rfl
theorem wlX7_342 : Cond.methodLink RX7 342 yX2_awningsOut ∈ gx_T := gx_in4 70 rfl rfl
theorem wi_yX2_awningsOut : Cond.instanceMethod yX2_awningsOut ∈ gx_T := gx_in4 71 rfl rfl
theorem ws_yX2_awningsOut : Cond.selects RX2 yX2_awningsOut yX2_awningsOut ∈ gx_T := gx_in4 72 rfl rfl
theorem wc_yX2_awningsOut : Cond.code yX2_awningsOut cX2_awningsOut 3 (some .int) ∈ gx_T := gx_in4 73 rfl rfl
theorem wgL_10 : Cond.classLink RL 10 RX8 ∈ gx_T := gx_in4 74 rfl rfl
theorem wmX8 : Cond.instantiable RX8 60 ∈ gx_T := gx_in4 75 rfl rfl
theorem wlL_12 : Cond.methodLink RL 12 yX8_init ∈ gx_T := gx_in4 76 rfl rfl
theorem wi_yX8_init : Cond.instanceMethod yX8_init ∈ gx_T := gx_in4 77 rfl rfl
theorem wc_yX8_init : Cond.code yX8_init cX8_init 1 none ∈ gx_T := gx_in4 78 rfl rfl
theorem wlX8_3 : Cond.methodLink RX8 3 objectInit ∈ gx_T := gx_in4 79 rfl rfl
theorem wfX8_133 : Cond.fieldLink RX8 133 "ThoughtsDripModel" "people1" "I" ∈ gx_T := gx_in4 80 rfl rfl
theorem wfX8_9 : Cond.fieldLink RX8 9 "ThoughtsDripModel" "flatOf" "[I" ∈ gx_T := gx_in4 81 rfl rfl
theorem wfX8_15 : Cond.fieldLink RX8 15 "ThoughtsDripModel" "outOf" "[I" ∈ gx_T := gx_in4 82 rfl rfl
theorem wfX8_18 : Cond.fieldLink RX8 18 "ThoughtsDripModel" "thinks" "[I" ∈ gx_T := gx_in4 83 rfl rfl
theorem wfX8_21 : Cond.fieldLink RX8 21 "ThoughtsDripModel" "wetOf" "[I" ∈ gx_T := gx_in4 84 rfl rfl
theorem wfX8_24 : Cond.fieldLink RX8 24 "ThoughtsDripModel" "awningOf" "[I" ∈ gx_T := gx_in4 85 rfl rfl
theorem wfX8_27 : Cond.fieldLink RX8 27 "ThoughtsDripModel" "told" "[I" ∈ gx_T := gx_in4 86 rfl rfl
theorem wfX8_163 : Cond.fieldLink RX8 163 "ThoughtsDripModel" "doneMany" "I" ∈ gx_T := gx_in4 87 rfl rfl
theorem wfX8_160 : Cond.fieldLink RX8 160 "ThoughtsDripModel" "undoneMany" "I" ∈ gx_T := gx_in4 88 rfl rfl
theorem wfX8_30 : Cond.fieldLink RX8 30 "ThoughtsDripModel" "changeOf" "[I" ∈ gx_T := gx_in4 89 rfl rfl
theorem wfX8_33 : Cond.fieldLink RX8 33 "ThoughtsDripModel" "changeAt" "[I" ∈ gx_T := gx_in4 90 rfl rfl
theorem wfX8_36 : Cond.fieldLink RX8 36 "ThoughtsDripModel" "before" "[I" ∈ gx_T := gx_in4 91 rfl rfl
theorem wfX8_39 : Cond.fieldLink RX8 39 "ThoughtsDripModel" "behind" "[I" ∈ gx_T := gx_in4 92 rfl rfl
theorem wfX8_42 : Cond.fieldLink RX8 42 "ThoughtsDripModel" "tape" "[B" ∈ gx_T := gx_in4 93 rfl rfl
theorem wfX8_187 : Cond.fieldLink RX8 187 "ThoughtsDripModel" "taped" "I" ∈ gx_T := gx_in4 94 rfl rfl
theorem wfX8_190 : Cond.fieldLink RX8 190 "ThoughtsDripModel" "here" "I" ∈ gx_T := gx_in4 95 rfl rfl
theorem wfX8_193 : Cond.fieldLink RX8 193 "ThoughtsDripModel" "fault" "I" ∈ gx_T := gx_in4 96 rfl rfl
theorem wfX8_199 : Cond.fieldLink RX8 199 "ThoughtsDripModel" "open" "I" ∈ gx_T := gx_in4 97 rfl rfl
theorem wfX8_196 : Cond.fieldLink RX8 196 "ThoughtsDripModel" "laid" "I" ∈ gx_T := gx_in4 98 rfl rfl
theorem wfX8_46 : Cond.fieldLink RX8 46 "ThoughtsDripModel" "act" "[B" ∈ gx_T := gx_in4 99 rfl rfl
theorem wfX8_49 : Cond.fieldLink RX8 49 "ThoughtsDripModel" "with" "[I" ∈ gx_T := gx_in4 100 rfl rfl
theorem wfX8_52 : Cond.fieldLink RX8 52 "ThoughtsDripModel" "lineMany" "[I" ∈ gx_T := gx_in4 101 rfl rfl
theorem wfX8_55 : Cond.fieldLink RX8 55 "ThoughtsDripModel" "testEnd" "[S" ∈ gx_T := gx_in4 102 rfl rfl
theorem wfX8_59 : Cond.fieldLink RX8 59 "ThoughtsDripModel" "lineEnd" "[S" ∈ gx_T := gx_in4 103 rfl rfl
theorem wfX8_62 : Cond.fieldLink RX8 62 "ThoughtsDripModel" "facts" "[I" ∈ gx_T := gx_in4 104 rfl rfl
theorem wfX8_65 : Cond.fieldLink RX8 65 "ThoughtsDripModel" "pile" "[I" ∈ gx_T := gx_in4 105 rfl rfl
theorem wfX8_254 : Cond.fieldLink RX8 254 "ThoughtsDripModel" "hasLaw" "Z" ∈ gx_T := gx_in4 106 rfl rfl
theorem wfX8_267 : Cond.fieldLink RX8 267 "ThoughtsDripModel" "out1" "I" ∈ gx_T := gx_in4 107 rfl rfl
theorem wfX8_258 : Cond.fieldLink RX8 258 "ThoughtsDripModel" "hour1" "I" ∈ gx_T := gx_in4 108 rfl rfl
theorem wfX8_68 : Cond.fieldLink RX8 68 "ThoughtsDripModel" "flat1" "[I" ∈ gx_T := gx_in4 109 rfl rfl
theorem wfX8_71 : Cond.fieldLink RX8 71 "ThoughtsDripModel" "awning1" "[I" ∈ gx_T := gx_in4 110 rfl rfl
theorem wfX8_74 : Cond.fieldLink RX8 74 "ThoughtsDripModel" "wet1" "[I" ∈ gx_T := gx_in4 111 rfl rfl
theorem wfX8_77 : Cond.fieldLink RX8 77 "ThoughtsDripModel" "porter1" "[I" ∈ gx_T := gx_in4 112 rfl rfl
theorem wfX8_80 : Cond.fieldLink RX8 80 "ThoughtsDripModel" "comes1" "[I" ∈ gx_T := gx_in4 113 rfl rfl
theorem wfX8_83 : Cond.fieldLink RX8 83 "ThoughtsDripModel" "runs1" "[I" ∈ gx_T := gx_in4 114 rfl rfl
theorem wfX8_86 : Cond.fieldLink RX8 86 "ThoughtsDripModel" "dealt" "[I" ∈ gx_T := gx_in4 115 rfl rfl
theorem wfX8_89 : Cond.fieldLink RX8 89 "ThoughtsDripModel" "bestDealt" "[I" ∈ gx_T := gx_in4 116 rfl rfl
theorem wfX8_311 : Cond.fieldLink RX8 311 "ThoughtsDripModel" "bestWet" "I" ∈ gx_T := gx_in4 117 rfl rfl
theorem wfX8_92 : Cond.fieldLink RX8 92 "ThoughtsDripModel" "comesIn" "[I" ∈ gx_T := gx_in4 118 rfl rfl
theorem wfX8_344 : Cond.fieldLink RX8 344 "ThoughtsDripModel" "turnA" "I" ∈ gx_T := gx_in4 119 rfl rfl
theorem wfX8_347 : Cond.fieldLink RX8 347 "ThoughtsDripModel" "turnB" "I" ∈ gx_T := gx_in4 120 rfl rfl
theorem wfX8_350 : Cond.fieldLink RX8 350 "ThoughtsDripModel" "turnMark" "I" ∈ gx_T := gx_in4 121 rfl rfl
theorem wfX8_356 : Cond.fieldLink RX8 356 "ThoughtsDripModel" "turnsMany" "I" ∈ gx_T := gx_in4 122 rfl rfl
theorem wfX8_95 : Cond.fieldLink RX8 95 "ThoughtsDripModel" "ledOf" "[I" ∈ gx_T := gx_in4 123 rfl rfl
theorem wfX8_364 : Cond.fieldLink RX8 364 "ThoughtsDripModel" "hasImage" "Z" ∈ gx_T := gx_in4 124 rfl rfl
theorem wfX8_367 : Cond.fieldLink RX8 367 "ThoughtsDripModel" "keptMany" "I" ∈ gx_T := gx_in4 125 rfl rfl
theorem wfX8_370 : Cond.fieldLink RX8 370 "ThoughtsDripModel" "keptHour" "I" ∈ gx_T := gx_in4 126 rfl rfl
theorem wfX8_98 : Cond.fieldLink RX8 98 "ThoughtsDripModel" "keptFlat" "[I" ∈ gx_T := gx_in4 127 rfl rfl
theorem wfX8_101 : Cond.fieldLink RX8 101 "ThoughtsDripModel" "keptWet" "[I" ∈ gx_T := gx_in4 128 rfl rfl
theorem wfX8_104 : Cond.fieldLink RX8 104 "ThoughtsDripModel" "keptAwning" "[I" ∈ gx_T := gx_in4 129 rfl rfl
theorem wfX8_107 : Cond.fieldLink RX8 107 "ThoughtsDripModel" "keptLed" "[I" ∈ gx_T := gx_in4 130 rfl rfl
theorem wfX8_373 : Cond.fieldLink RX8 373 "ThoughtsDripModel" "bodies" "I" ∈ gx_T := gx_in4 131 rfl rfl
theorem wfX8_110 : Cond.fieldLink RX8 110 "ThoughtsDripModel" "kind" "[I" ∈ gx_T := gx_in4 132 rfl rfl
theorem wfX8_376 : Cond.fieldLink RX8 376 "ThoughtsDripModel" "traces" "I" ∈ gx_T := gx_in4 133 rfl rfl
theorem wfX8_113 : Cond.fieldLink RX8 113 "ThoughtsDripModel" "traced" "[I" ∈ gx_T := gx_in4 134 rfl rfl
theorem wfX8_116 : Cond.fieldLink RX8 116 "ThoughtsDripModel" "holds" "[I" ∈ gx_T := gx_in4 135 rfl rfl
theorem wfX8_119 : Cond.fieldLink RX8 119 "ThoughtsDripModel" "size" "[I" ∈ gx_T := gx_in4 136 rfl rfl
theorem wfX8_122 : Cond.fieldLink RX8 122 "ThoughtsDripModel" "elements" "[J" ∈ gx_T := gx_in4 137 rfl rfl
theorem wfX8_126 : Cond.fieldLink RX8 126 "ThoughtsDripModel" "shifted" "[J" ∈ gx_T := gx_in4 138 rfl rfl
theorem wo_1061 : Cond.arrayClass ClassFile.FieldType.byte ∈ gx_T := gx_in5 20 rfl rfl
theorem wo_1062 : Cond.arrayClass ClassFile.FieldType.short ∈ gx_T := gx_in5 21 rfl rfl
theorem wlL_17 : Cond.methodLink RL 17 yX8_person ∈ gx_T := gx_in5 22 rfl rfl
theorem wi_yX8_person : Cond.instanceMethod yX8_person ∈ gx_T := gx_in5 23 rfl rfl
theorem ws_yX8_person : Cond.selects RX8 yX8_person yX8_person ∈ gx_T := gx_in5 24 rfl rfl
theorem wc_yX8_person : Cond.code yX8_person cX8_person 3 (some .int) ∈ gx_T := gx_in5 25 rfl rfl
theorem wlX8_147 : Cond.methodLink RX8 147 yX8_isFlat ∈ gx_T := gx_in5 26 rfl rfl
theorem wt_yX8_isFlat : Cond.static yX8_isFlat ∈ gx_T := gx_in5 27 rfl rfl
theorem wc_yX8_isFlat : Cond.code yX8_isFlat cX8_isFlat 1 (some .boolean) ∈ gx_T := gx_in5 28 rfl rfl
theorem wlX8_136 : Cond.methodLink RX8 136 yX8_in ∈ gx_T := gx_in5 29 rfl rfl
theorem wt_yX8_in : Cond.static yX8_in ∈ gx_T := gx_in5 30 rfl rfl
theorem wc_yX8_in : Cond.code yX8_in cX8_in 3 (some .boolean) ∈ gx_T := gx_in5 31 rfl rfl
theorem wlX8_150 : Cond.methodLink RX8 150 yX8_addOne ∈ gx_T := gx_in5 32 rfl rfl
theorem wi_yX8_addOne : Cond.instanceMethod yX8_addOne ∈ gx_T := gx_in5 34 rfl rfl
theorem wc_yX8_addOne : Cond.code yX8_addOne cX8_addOne 3 (some .int) ∈ gx_T := gx_in5 35 rfl rfl
theorem wlL_22 : Cond.methodLink RL 22 yX8_people ∈ gx_T := gx_in5 36 rfl rfl
theorem wi_yX8_people : Cond.instanceMethod yX8_people ∈ gx_T := gx_in5 37 rfl rfl
theorem ws_yX8_people : Cond.selects RX8 yX8_people yX8_people ∈ gx_T := gx_in5 38 rfl rfl
theorem wc_yX8_people : Cond.code yX8_people cX8_people 8 (some .int) ∈ gx_T := gx_in5 39 rfl rfl
theorem wlX8_154 : Cond.methodLink RX8 154 yX8_isShelf ∈ gx_T := gx_in5 40 rfl rfl
theorem wt_yX8_isShelf : Cond.static yX8_isShelf ∈ gx_T := gx_in5 41 rfl rfl
theorem wc_yX8_isShelf : Cond.code yX8_isShelf cX8_isShelf 1 (some .boolean) ∈ gx_T := gx_in5 42 rfl rfl
theorem wlL_142 : Cond.methodLink RL 142 yX8_undo ∈ gx_T := gx_in5 43 rfl rfl
theorem wi_yX8_undo : Cond.instanceMethod yX8_undo ∈ gx_T := gx_in5 44 rfl rfl
theorem ws_yX8_undo : Cond.selects RX8 yX8_undo yX8_undo ∈ gx_T := gx_in5 45 rfl rfl
theorem wc_yX8_undo : Cond.code yX8_undo cX8_undo 1 (some .int) ∈ gx_T := gx_in5 46 rfl rfl
theorem wlX8_166 : Cond.methodLink RX8 166 yX8_lays ∈ gx_T := gx_in5 47 rfl rfl
theorem wi_yX8_lays : Cond.instanceMethod yX8_lays ∈ gx_T := gx_in5 49 rfl rfl
theorem wc_yX8_lays : Cond.code yX8_lays cX8_lays 4 none ∈ gx_T := gx_in5 50 rfl rfl
theorem wlL_146 : Cond.methodLink RL 146 yX8_redo ∈ gx_T := gx_in5 51 rfl rfl
theorem wi_yX8_redo : Cond.instanceMethod yX8_redo ∈ gx_T := gx_in5 52 rfl rfl
theorem ws_yX8_redo : Cond.selects RX8 yX8_redo yX8_redo ∈ gx_T := gx_in5 53 rfl rfl
theorem wc_yX8_redo : Cond.code yX8_redo cX8_redo 1 (some .int) ∈ gx_T := gx_in5 54 rfl rfl
theorem wlL_26 : Cond.methodLink RL 26 yX8_mend ∈ gx_T := gx_in5 55 rfl rfl
theorem wi_yX8_mend : Cond.instanceMethod yX8_mend ∈ gx_T := gx_in5 56 rfl rfl
theorem ws_yX8_mend : Cond.selects RX8 yX8_mend yX8_mend ∈ gx_T := gx_in5 57 rfl rfl
theorem wc_yX8_mend : Cond.code yX8_mend cX8_mend 4 (some .int) ∈ gx_T := gx_in5 58 rfl rfl
theorem wlX8_176 : Cond.methodLink RX8 176 yX8_isPlace ∈ gx_T := gx_in5 59 rfl rfl
theorem wi_yX8_isPlace : Cond.instanceMethod yX8_isPlace ∈ gx_T := gx_in5 61 rfl rfl
theorem wc_yX8_isPlace : Cond.code yX8_isPlace cX8_isPlace 3 (some .boolean) ∈ gx_T := gx_in5 62 rfl rfl
theorem wlX8_140 : Cond.methodLink RX8 140 yX8_isOne ∈ gx_T := gx_in5 63 rfl rfl
theorem wi_yX8_isOne : Cond.instanceMethod yX8_isOne ∈ gx_T := gx_in5 65 rfl rfl
theorem wc_yX8_isOne : Cond.code yX8_isOne cX8_isOne 2 (some .boolean) ∈ gx_T := gx_in5 66 rfl rfl
theorem wlX8_170 : Cond.methodLink RX8 170 yX8_areMark ∈ gx_T := gx_in5 67 rfl rfl
theorem wi_yX8_areMark : Cond.instanceMethod yX8_areMark ∈ gx_T := gx_in5 69 rfl rfl
theorem wc_yX8_areMark : Cond.code yX8_areMark cX8_areMark 2 (some .boolean) ∈ gx_T := gx_in5 70 rfl rfl
theorem wlX8_144 : Cond.methodLink RX8 144 yX8_isMark ∈ gx_T := gx_in5 71 rfl rfl
theorem wt_yX8_isMark : Cond.static yX8_isMark ∈ gx_T := gx_in5 72 rfl rfl
theorem wc_yX8_isMark : Cond.code yX8_isMark cX8_isMark 1 (some .boolean) ∈ gx_T := gx_in5 73 rfl rfl
theorem wlX8_180 : Cond.methodLink RX8 180 yX8_mayHave ∈ gx_T := gx_in5 74 rfl rfl
theorem wt_yX8_mayHave : Cond.static yX8_mayHave ∈ gx_T := gx_in5 75 rfl rfl
theorem wc_yX8_mayHave : Cond.code yX8_mayHave cX8_mayHave 2 (some .boolean) ∈ gx_T := gx_in5 76 rfl rfl
theorem wlX8_173 : Cond.methodLink RX8 173 yX8_isHour ∈ gx_T := gx_in5 77 rfl rfl
theorem wt_yX8_isHour : Cond.static yX8_isHour ∈ gx_T := gx_in5 78 rfl rfl
theorem wc_yX8_isHour : Cond.code yX8_isHour cX8_isHour 1 (some .boolean) ∈ gx_T := gx_in5 79 rfl rfl
theorem wlX8_183 : Cond.methodLink RX8 183 yX8_changes ∈ gx_T := gx_in5 80 rfl rfl
theorem wi_yX8_changes : Cond.instanceMethod yX8_changes ∈ gx_T := gx_in5 82 rfl rfl
theorem wc_yX8_changes : Cond.code yX8_changes cX8_changes 6 (some .int) ∈ gx_T := gx_in5 83 rfl rfl
theorem wlX8_157 : Cond.methodLink RX8 157 yX8_valueAt ∈ gx_T := gx_in5 84 rfl rfl
theorem wi_yX8_valueAt : Cond.instanceMethod yX8_valueAt ∈ gx_T := gx_in5 86 rfl rfl
theorem wc_yX8_valueAt : Cond.code yX8_valueAt cX8_valueAt 3 (some .int) ∈ gx_T := gx_in5 87 rfl rfl
theorem wlL_30 : Cond.methodLink RL 30 yX8_of ∈ gx_T := gx_in5 88 rfl rfl
theorem wi_yX8_of : Cond.instanceMethod yX8_of ∈ gx_T := gx_in5 89 rfl rfl
theorem ws_yX8_of : Cond.selects RX8 yX8_of yX8_of ∈ gx_T := gx_in5 90 rfl rfl
theorem wc_yX8_of : Cond.code yX8_of cX8_of 3 (some .int) ∈ gx_T := gx_in5 91 rfl rfl
theorem wlL_35 : Cond.methodLink RL 35 yX8_feed ∈ gx_T := gx_in5 92 rfl rfl
theorem wi_yX8_feed : Cond.instanceMethod yX8_feed ∈ gx_T := gx_in5 93 rfl rfl
theorem ws_yX8_feed : Cond.selects RX8 yX8_feed yX8_feed ∈ gx_T := gx_in5 94 rfl rfl
theorem wc_yX8_feed : Cond.code yX8_feed cX8_feed 2 (some .int) ∈ gx_T := gx_in5 95 rfl rfl
theorem wlL_40 : Cond.methodLink RL 40 yX8_law ∈ gx_T := gx_in5 96 rfl rfl
theorem wi_yX8_law : Cond.instanceMethod yX8_law ∈ gx_T := gx_in5 97 rfl rfl
theorem ws_yX8_law : Cond.selects RX8 yX8_law yX8_law ∈ gx_T := gx_in5 98 rfl rfl
theorem wc_yX8_law : Cond.code yX8_law cX8_law 2 (some .int) ∈ gx_T := gx_in5 99 rfl rfl
theorem wlX8_251 : Cond.methodLink RX8 251 yX8_readText ∈ gx_T := gx_in5 100 rfl rfl
theorem wi_yX8_readText : Cond.instanceMethod yX8_readText ∈ gx_T := gx_in5 102 rfl rfl
theorem wc_yX8_readText : Cond.code yX8_readText cX8_readText 3 (some .int) ∈ gx_T := gx_in5 103 rfl rfl
theorem wlX8_242 : Cond.methodLink RX8 242 yX8_line ∈ gx_T := gx_in5 104 rfl rfl
theorem wi_yX8_line : Cond.instanceMethod yX8_line ∈ gx_T := gx_in5 106 rfl rfl
theorem wc_yX8_line : Cond.code yX8_line cX8_line 2 none ∈ gx_T := gx_in5 107 rfl rfl
theorem wlX8_224 : Cond.methodLink RX8 224 yX8_either ∈ gx_T := gx_in5 108 rfl rfl
theorem wi_yX8_either : Cond.instanceMethod yX8_either ∈ gx_T := gx_in5 110 rfl rfl
theorem wc_yX8_either : Cond.code yX8_either cX8_either 1 none ∈ gx_T := gx_in5 111 rfl rfl
theorem wlX8_239 : Cond.methodLink RX8 239 yX8_both ∈ gx_T := gx_in5 112 rfl rfl
theorem wi_yX8_both : Cond.instanceMethod yX8_both ∈ gx_T := gx_in5 114 rfl rfl
theorem wc_yX8_both : Cond.code yX8_both cX8_both 1 none ∈ gx_T := gx_in5 115 rfl rfl
theorem wlX8_236 : Cond.methodLink RX8 236 yX8_compared ∈ gx_T := gx_in5 116 rfl rfl
theorem wi_yX8_compared : Cond.instanceMethod yX8_compared ∈ gx_T := gx_in5 118 rfl rfl
theorem wc_yX8_compared : Cond.code yX8_compared cX8_compared 2 none ∈ gx_T := gx_in5 119 rfl rfl
theorem wlX8_233 : Cond.methodLink RX8 233 yX8_sum ∈ gx_T := gx_in5 120 rfl rfl
theorem wi_yX8_sum : Cond.instanceMethod yX8_sum ∈ gx_T := gx_in5 122 rfl rfl
theorem wc_yX8_sum : Cond.code yX8_sum cX8_sum 2 none ∈ gx_T := gx_in5 123 rfl rfl
theorem wlX8_230 : Cond.methodLink RX8 230 yX8_product ∈ gx_T := gx_in5 124 rfl rfl
theorem wi_yX8_product : Cond.instanceMethod yX8_product ∈ gx_T := gx_in5 126 rfl rfl
theorem wc_yX8_product : Cond.code yX8_product cX8_product 2 none ∈ gx_T := gx_in5 127 rfl rfl
theorem wlX8_221 : Cond.methodLink RX8 221 yX8_operand ∈ gx_T := gx_in5 128 rfl rfl
theorem wi_yX8_operand : Cond.instanceMethod yX8_operand ∈ gx_T := gx_in5 130 rfl rfl
theorem wc_yX8_operand : Cond.code yX8_operand cX8_operand 2 none ∈ gx_T := gx_in5 131 rfl rfl
theorem wlX8_205 : Cond.methodLink RX8 205 yX8_look ∈ gx_T := gx_in5 132 rfl rfl
theorem wi_yX8_look : Cond.instanceMethod yX8_look ∈ gx_T := gx_in5 134 rfl rfl
theorem wc_yX8_look : Cond.code yX8_look cX8_look 1 (some .int) ∈ gx_T := gx_in5 135 rfl rfl
theorem wlX8_213 : Cond.methodLink RX8 213 yX8_nameOf ∈ gx_T := gx_in5 136 rfl rfl
theorem wt_yX8_nameOf : Cond.static yX8_nameOf ∈ gx_T := gx_in5 137 rfl rfl
theorem wc_yX8_nameOf : Cond.code yX8_nameOf cX8_nameOf 1 (some .int) ∈ gx_T := gx_in5 138 rfl rfl
theorem wlX8_209 : Cond.methodLink RX8 209 yX8_addStep ∈ gx_T := gx_in5 139 rfl rfl
theorem wi_yX8_addStep : Cond.instanceMethod yX8_addStep ∈ gx_T := gx_in5 141 rfl rfl
theorem wc_yX8_addStep : Cond.code yX8_addStep cX8_addStep 3 none ∈ gx_T := gx_in5 142 rfl rfl
theorem wlX8_217 : Cond.methodLink RX8 217 yX8_opens ∈ gx_T := gx_in5 143 rfl rfl
theorem wi_yX8_opens : Cond.instanceMethod yX8_opens ∈ gx_T := gx_in5 145 rfl rfl
theorem wc_yX8_opens : Cond.code yX8_opens cX8_opens 1 (some .boolean) ∈ gx_T := gx_in5 146 rfl rfl
theorem wlX8_202 : Cond.methodLink RX8 202 yX8_wrong ∈ gx_T := gx_in5 147 rfl rfl
theorem wi_yX8_wrong : Cond.instanceMethod yX8_wrong ∈ gx_T := gx_in5 149 rfl rfl
theorem wc_yX8_wrong : Cond.code yX8_wrong cX8_wrong 1 none ∈ gx_T := gx_in5 150 rfl rfl
theorem wlX8_227 : Cond.methodLink RX8 227 yX8_figure ∈ gx_T := gx_in5 151 rfl rfl
theorem wi_yX8_figure : Cond.instanceMethod yX8_figure ∈ gx_T := gx_in5 153 rfl rfl
theorem wc_yX8_figure : Cond.code yX8_figure cX8_figure 3 none ∈ gx_T := gx_in5 154 rfl rfl
theorem wlL_44 : Cond.methodLink RL 44 yX8_comes ∈ gx_T := gx_in5 155 rfl rfl
theorem wi_yX8_comes : Cond.instanceMethod yX8_comes ∈ gx_T := gx_in5 156 rfl rfl
theorem ws_yX8_comes : Cond.selects RX8 yX8_comes yX8_comes ∈ gx_T := gx_in5 157 rfl rfl
theorem wc_yX8_comes : Cond.code yX8_comes cX8_comes 4 (some .int) ∈ gx_T := gx_in5 158 rfl rfl
theorem wlX8_290 : Cond.methodLink RX8 290 yX8_layNow ∈ gx_T := gx_in5 159 rfl rfl
theorem wi_yX8_layNow : Cond.instanceMethod yX8_layNow ∈ gx_T := gx_in5 161 rfl rfl
theorem wc_yX8_layNow : Cond.code yX8_layNow cX8_layNow 2 none ∈ gx_T := gx_in5 162 rfl rfl
theorem wlX8_284 : Cond.methodLink RX8 284 yX8_outAt ∈ gx_T := gx_in5 163 rfl rfl
theorem wi_yX8_outAt : Cond.instanceMethod yX8_outAt ∈ gx_T := gx_in5 165 rfl rfl
theorem wc_yX8_outAt : Cond.code yX8_outAt cX8_outAt 5 (some .int) ∈ gx_T := gx_in5 166 rfl rfl
theorem wlX8_261 : Cond.methodLink RX8 261 yX8_has ∈ gx_T := gx_in5 167 rfl rfl
theorem wt_yX8_has : Cond.static yX8_has ∈ gx_T := gx_in5 168 rfl rfl
theorem wc_yX8_has : Cond.code yX8_has cX8_has 2 (some .boolean) ∈ gx_T := gx_in5 169 rfl rfl
theorem wlX8_274 : Cond.methodLink RX8 274 yX8_flow ∈ gx_T := gx_in5 170 rfl rfl
theorem wi_yX8_flow : Cond.instanceMethod yX8_flow ∈ gx_T := gx_in5 172 rfl rfl
theorem wc_yX8_flow : Cond.code yX8_flow cX8_flow 6 none ∈ gx_T := gx_in5 173 rfl rfl
theorem wlX8_270 : Cond.methodLink RX8 270 yX8_runOf ∈ gx_T := gx_in5 174 rfl rfl
theorem wi_yX8_runOf : Cond.instanceMethod yX8_runOf ∈ gx_T := gx_in5 176 rfl rfl
theorem wc_yX8_runOf : Cond.code yX8_runOf cX8_runOf 6 (some .int) ∈ gx_T := gx_in5 177 rfl rfl
theorem wlX8_264 : Cond.methodLink RX8 264 yX8_gives ∈ gx_T := gx_in5 178 rfl rfl
theorem wi_yX8_gives : Cond.instanceMethod yX8_gives ∈ gx_T := gx_in5 180 rfl rfl
theorem wc_yX8_gives : Cond.code yX8_gives cX8_gives 4 (some .int) ∈ gx_T := gx_in5 181 rfl rfl
theorem wlX8_248 : Cond.methodLink RX8 248 yX8_worked ∈ gx_T := gx_in5 182 rfl rfl
theorem wi_yX8_worked : Cond.instanceMethod yX8_worked ∈ gx_T := gx_in5 184 rfl rfl
theorem wc_yX8_worked : Cond.code yX8_worked cX8_worked 7 (some .int) ∈ gx_T := gx_in5 185 rfl rfl
theorem wlX8_245 : Cond.methodLink RX8 245 yX8_twoOf ∈ gx_T := gx_in5 186 rfl rfl
theorem wt_yX8_twoOf : Cond.static yX8_twoOf ∈ gx_T := gx_in5 187 rfl rfl
theorem wc_yX8_twoOf : Cond.code yX8_twoOf cX8_twoOf 3 (some .int) ∈ gx_T := gx_in5 188 rfl rfl
theorem wlL_48 : Cond.methodLink RL 48 yX8_porter ∈ gx_T := gx_in5 189 rfl rfl
theorem wi_yX8_porter : Cond.instanceMethod yX8_porter ∈ gx_T := gx_in5 190 rfl rfl
theorem ws_yX8_porter : Cond.selects RX8 yX8_porter yX8_porter ∈ gx_T := gx_in5 191 rfl rfl
theorem wc_yX8_porter : Cond.code yX8_porter cX8_porter 3 (some .int) ∈ gx_T := gx_in5 192 rfl rfl
theorem wlX8_278 : Cond.methodLink RX8 278 yX8_toPorter ∈ gx_T := gx_in5 193 rfl rfl
theorem wi_yX8_toPorter : Cond.instanceMethod yX8_toPorter ∈ gx_T := gx_in5 195 rfl rfl
theorem wc_yX8_toPorter : Cond.code yX8_toPorter cX8_toPorter 4 (some .int) ∈ gx_T := gx_in5 196 rfl rfl
theorem wlL_52 : Cond.methodLink RL 52 yX8_wet ∈ gx_T := gx_in5 197 rfl rfl
theorem wi_yX8_wet : Cond.instanceMethod yX8_wet ∈ gx_T := gx_in5 198 rfl rfl
theorem ws_yX8_wet : Cond.selects RX8 yX8_wet yX8_wet ∈ gx_T := gx_in5 199 rfl rfl
theorem wc_yX8_wet : Cond.code yX8_wet cX8_wet 3 (some .int) ∈ gx_T := gx_in5 200 rfl rfl
theorem wlX8_293 : Cond.methodLink RX8 293 yX8_areHours ∈ gx_T := gx_in5 201 rfl rfl
theorem wt_yX8_areHours : Cond.static yX8_areHours ∈ gx_T := gx_in5 202 rfl rfl
theorem wc_yX8_areHours : Cond.code yX8_areHours cX8_areHours 1 (some .boolean) ∈ gx_T := gx_in5 203 rfl rfl
theorem wlX8_296 : Cond.methodLink RX8 296 yX8_goHours ∈ gx_T := gx_in5 204 rfl rfl
theorem wi_yX8_goHours : Cond.instanceMethod yX8_goHours ∈ gx_T := gx_in5 206 rfl rfl
theorem wc_yX8_goHours : Cond.code yX8_goHours cX8_goHours 5 none ∈ gx_T := gx_in5 207 rfl rfl
theorem wlX8_287 : Cond.methodLink RX8 287 yX8_goMark ∈ gx_T := gx_in5 208 rfl rfl
theorem wi_yX8_goMark : Cond.instanceMethod yX8_goMark ∈ gx_T := gx_in5 210 rfl rfl
theorem wc_yX8_goMark : Cond.code yX8_goMark cX8_goMark 4 none ∈ gx_T := gx_in5 211 rfl rfl
theorem wlX8_281 : Cond.methodLink RX8 281 yX8_wetsBy ∈ gx_T := gx_in5 212 rfl rfl
theorem wi_yX8_wetsBy : Cond.instanceMethod yX8_wetsBy ∈ gx_T := gx_in5 214 rfl rfl
theorem wc_yX8_wetsBy : Cond.code yX8_wetsBy cX8_wetsBy 4 (some .int) ∈ gx_T := gx_in5 215 rfl rfl
theorem wlL_56 : Cond.methodLink RL 56 yX8_most ∈ gx_T := gx_in5 216 rfl rfl
theorem wi_yX8_most : Cond.instanceMethod yX8_most ∈ gx_T := gx_in5 217 rfl rfl
theorem ws_yX8_most : Cond.selects RX8 yX8_most yX8_most ∈ gx_T := gx_in5 218 rfl rfl
theorem wc_yX8_most : Cond.code yX8_most cX8_most 7 (some .int) ∈ gx_T := gx_in5 219 rfl rfl
theorem wlX8_299 : Cond.methodLink RX8 299 yX8_allWet ∈ gx_T := gx_in5 220 rfl rfl
theorem wi_yX8_allWet : Cond.instanceMethod yX8_allWet ∈ gx_T := gx_in5 222 rfl rfl
theorem wc_yX8_allWet : Cond.code yX8_allWet cX8_allWet 4 (some .int) ∈ gx_T := gx_in5 223 rfl rfl
theorem wlL_60 : Cond.methodLink RL 60 yX8_caught ∈ gx_T := gx_in5 224 rfl rfl
theorem wi_yX8_caught : Cond.instanceMethod yX8_caught ∈ gx_T := gx_in5 225 rfl rfl
theorem ws_yX8_caught : Cond.selects RX8 yX8_caught yX8_caught ∈ gx_T := gx_in5 226 rfl rfl
theorem wc_yX8_caught : Cond.code yX8_caught cX8_caught 3 (some .int) ∈ gx_T := gx_in5 227 rfl rfl
theorem wlL_64 : Cond.methodLink RL 64 yX8_first ∈ gx_T := gx_in5 228 rfl rfl
theorem wi_yX8_first : Cond.instanceMethod yX8_first ∈ gx_T := gx_in5 229 rfl rfl
theorem ws_yX8_first : Cond.selects RX8 yX8_first yX8_first ∈ gx_T := gx_in5 230 rfl rfl
theorem wc_yX8_first : Cond.code yX8_first cX8_first 3 (some .int) ∈ gx_T := gx_in5 231 rfl rfl
theorem wlX8_302 : Cond.methodLink RX8 302 yX8_wetter ∈ gx_T := gx_in5 232 rfl rfl
theorem wi_yX8_wetter : Cond.instanceMethod yX8_wetter ∈ gx_T := gx_in5 234 rfl rfl
theorem wc_yX8_wetter : Cond.code yX8_wetter cX8_wetter 4 (some .int) ∈ gx_T := gx_in5 235 rfl rfl
theorem wlL_68 : Cond.methodLink RL 68 yX8_from ∈ gx_T := gx_in5 236 rfl rfl
theorem wi_yX8_from : Cond.instanceMethod yX8_from ∈ gx_T := gx_in5 237 rfl rfl
theorem ws_yX8_from : Cond.selects RX8 yX8_from yX8_from ∈ gx_T := gx_in5 238 rfl rfl
theorem wc_yX8_from : Cond.code yX8_from cX8_from 5 (some .int) ∈ gx_T := gx_in5 239 rfl rfl
theorem wlL_72 : Cond.methodLink RL 72 yX8_dry ∈ gx_T := gx_in6 0 rfl rfl
theorem wi_yX8_dry : Cond.instanceMethod yX8_dry ∈ gx_T := gx_in6 1 rfl rfl
theorem ws_yX8_dry : Cond.selects RX8 yX8_dry yX8_dry ∈ gx_T := gx_in6 2 rfl rfl
theorem wc_yX8_dry : Cond.code yX8_dry cX8_dry 6 (some .int) ∈ gx_T := gx_in6 3 rfl rfl
theorem wlX8_305 : Cond.methodLink RX8 305 yX8_bitsOf ∈ gx_T := gx_in6 4 rfl rfl
theorem wt_yX8_bitsOf : Cond.static yX8_bitsOf ∈ gx_T := gx_in6 5 rfl rfl
theorem wc_yX8_bitsOf : Cond.code yX8_bitsOf cX8_bitsOf 3 (some .int) ∈ gx_T := gx_in6 6 rfl rfl
theorem wlL_76 : Cond.methodLink RL 76 yX8_change ∈ gx_T := gx_in6 7 rfl rfl
theorem wi_yX8_change : Cond.instanceMethod yX8_change ∈ gx_T := gx_in6 8 rfl rfl
theorem ws_yX8_change : Cond.selects RX8 yX8_change yX8_change ∈ gx_T := gx_in6 9 rfl rfl
theorem wc_yX8_change : Cond.code yX8_change cX8_change 4 (some .int) ∈ gx_T := gx_in6 10 rfl rfl
theorem wlX8_314 : Cond.methodLink RX8 314 yX8_goDealing ∈ gx_T := gx_in6 11 rfl rfl
theorem wi_yX8_goDealing : Cond.instanceMethod yX8_goDealing ∈ gx_T := gx_in6 13 rfl rfl
theorem wc_yX8_goDealing : Cond.code yX8_goDealing cX8_goDealing 8 none ∈ gx_T := gx_in6 14 rfl rfl
theorem wlX8_308 : Cond.methodLink RX8 308 yX8_wetOfDealing ∈ gx_T := gx_in6 15 rfl rfl
theorem wi_yX8_wetOfDealing : Cond.instanceMethod yX8_wetOfDealing ∈ gx_T := gx_in6 17 rfl rfl
theorem wc_yX8_wetOfDealing : Cond.code yX8_wetOfDealing cX8_wetOfDealing 4 (some .int) ∈ gx_T := gx_in6 18 rfl rfl
theorem wlL_80 : Cond.methodLink RL 80 yX8_who ∈ gx_T := gx_in6 19 rfl rfl
theorem wi_yX8_who : Cond.instanceMethod yX8_who ∈ gx_T := gx_in6 20 rfl rfl
theorem ws_yX8_who : Cond.selects RX8 yX8_who yX8_who ∈ gx_T := gx_in6 21 rfl rfl
theorem wc_yX8_who : Cond.code yX8_who cX8_who 8 (some .int) ∈ gx_T := gx_in6 22 rfl rfl
theorem wlX8_321 : Cond.methodLink RX8 321 yX8_rowFault ∈ gx_T := gx_in6 23 rfl rfl
theorem wi_yX8_rowFault : Cond.instanceMethod yX8_rowFault ∈ gx_T := gx_in6 25 rfl rfl
theorem wc_yX8_rowFault : Cond.code yX8_rowFault cX8_rowFault 2 (some .int) ∈ gx_T := gx_in6 26 rfl rfl
theorem wlX8_324 : Cond.methodLink RX8 324 yX8_isJust ∈ gx_T := gx_in6 27 rfl rfl
theorem wi_yX8_isJust : Cond.instanceMethod yX8_isJust ∈ gx_T := gx_in6 29 rfl rfl
theorem wc_yX8_isJust : Cond.code yX8_isJust cX8_isJust 3 (some .boolean) ∈ gx_T := gx_in6 30 rfl rfl
theorem wlX8_318 : Cond.methodLink RX8 318 yX8_at ∈ gx_T := gx_in6 31 rfl rfl
theorem wi_yX8_at : Cond.instanceMethod yX8_at ∈ gx_T := gx_in6 33 rfl rfl
theorem wc_yX8_at : Cond.code yX8_at cX8_at 3 (some .int) ∈ gx_T := gx_in6 34 rfl rfl
theorem wlL_85 : Cond.methodLink RL 85 yX8_thought ∈ gx_T := gx_in6 35 rfl rfl
theorem wi_yX8_thought : Cond.instanceMethod yX8_thought ∈ gx_T := gx_in6 36 rfl rfl
theorem ws_yX8_thought : Cond.selects RX8 yX8_thought yX8_thought ∈ gx_T := gx_in6 37 rfl rfl
theorem wc_yX8_thought : Cond.code yX8_thought cX8_thought 10 (some .int) ∈ gx_T := gx_in6 38 rfl rfl
theorem wlL_89 : Cond.methodLink RL 89 yX8_rent ∈ gx_T := gx_in6 39 rfl rfl
theorem wi_yX8_rent : Cond.instanceMethod yX8_rent ∈ gx_T := gx_in6 40 rfl rfl
theorem ws_yX8_rent : Cond.selects RX8 yX8_rent yX8_rent ∈ gx_T := gx_in6 41 rfl rfl
theorem wc_yX8_rent : Cond.code yX8_rent cX8_rent 6 (some .int) ∈ gx_T := gx_in6 42 rfl rfl
theorem wlX8_327 : Cond.methodLink RX8 327 yX8_layComes ∈ gx_T := gx_in6 43 rfl rfl
theorem wi_yX8_layComes : Cond.instanceMethod yX8_layComes ∈ gx_T := gx_in6 45 rfl rfl
theorem wc_yX8_layComes : Cond.code yX8_layComes cX8_layComes 4 none ∈ gx_T := gx_in6 46 rfl rfl
theorem wlX8_330 : Cond.methodLink RX8 330 yX8_others ∈ gx_T := gx_in6 47 rfl rfl
theorem wi_yX8_others : Cond.instanceMethod yX8_others ∈ gx_T := gx_in6 49 rfl rfl
theorem wc_yX8_others : Cond.code yX8_others cX8_others 5 (some .long) ∈ gx_T := gx_in6 50 rfl rfl
theorem wlL_93 : Cond.methodLink RL 93 yX8_swap ∈ gx_T := gx_in6 51 rfl rfl
theorem wi_yX8_swap : Cond.instanceMethod yX8_swap ∈ gx_T := gx_in6 52 rfl rfl
theorem ws_yX8_swap : Cond.selects RX8 yX8_swap yX8_swap ∈ gx_T := gx_in6 53 rfl rfl
theorem wc_yX8_swap : Cond.code yX8_swap cX8_swap 5 (some .int) ∈ gx_T := gx_in6 54 rfl rfl
theorem wlL_98 : Cond.methodLink RL 98 yX8_odds ∈ gx_T := gx_in6 55 rfl rfl
theorem wi_yX8_odds : Cond.instanceMethod yX8_odds ∈ gx_T := gx_in6 56 rfl rfl
theorem ws_yX8_odds : Cond.selects RX8 yX8_odds yX8_odds ∈ gx_T := gx_in6 57 rfl rfl
theorem wc_yX8_odds : Cond.code yX8_odds cX8_odds 4 (some .long) ∈ gx_T := gx_in6 58 rfl rfl
theorem wlX8_338 : Cond.methodLink RX8 338 yX8_oddsOf ∈ gx_T := gx_in6 59 rfl rfl
theorem wi_yX8_oddsOf : Cond.instanceMethod yX8_oddsOf ∈ gx_T := gx_in6 61 rfl rfl
theorem wc_yX8_oddsOf : Cond.code yX8_oddsOf cX8_oddsOf 11 (some .long) ∈ gx_T := gx_in6 62 rfl rfl
theorem wlX8_334 : Cond.methodLink RX8 334 yX8_lowest ∈ gx_T := gx_in6 63 rfl rfl
theorem wt_yX8_lowest : Cond.static yX8_lowest ∈ gx_T := gx_in6 64 rfl rfl
theorem wc_yX8_lowest : Cond.code yX8_lowest cX8_lowest 11 (some .long) ∈ gx_T := gx_in6 65 rfl rfl
theorem wkX8_342 : Cond.constantLong RX8 342 (-9223372036854775808) ∈ gx_T := gx_in6 66 rfl rfl
theorem wlL_102 : Cond.methodLink RL 102 yX8_mean ∈ gx_T := gx_in6 67 rfl rfl
theorem wi_yX8_mean : Cond.instanceMethod yX8_mean ∈ gx_T := gx_in6 68 rfl rfl
theorem ws_yX8_mean : Cond.selects RX8 yX8_mean yX8_mean ∈ gx_T := gx_in6 69 rfl rfl
theorem wc_yX8_mean : Cond.code yX8_mean cX8_mean 4 (some .long) ∈ gx_T := gx_in6 70 rfl rfl
theorem wlL_106 : Cond.methodLink RL 106 yX8_byTurns ∈ gx_T := gx_in6 71 rfl rfl
theorem wi_yX8_byTurns : Cond.instanceMethod yX8_byTurns ∈ gx_T := gx_in6 72 rfl rfl
theorem ws_yX8_byTurns : Cond.selects RX8 yX8_byTurns yX8_byTurns ∈ gx_T := gx_in6 73 rfl rfl
theorem wc_yX8_byTurns : Cond.code yX8_byTurns cX8_byTurns 7 (some .int) ∈ gx_T := gx_in6 74 rfl rfl
theorem wlX8_359 : Cond.methodLink RX8 359 yX8_byOut ∈ gx_T := gx_in6 75 rfl rfl
theorem wi_yX8_byOut : Cond.instanceMethod yX8_byOut ∈ gx_T := gx_in6 77 rfl rfl
theorem wc_yX8_byOut : Cond.code yX8_byOut cX8_byOut 7 (some .int) ∈ gx_T := gx_in6 78 rfl rfl
theorem wlX8_353 : Cond.methodLink RX8 353 yX8_bestOf ∈ gx_T := gx_in6 79 rfl rfl
theorem wi_yX8_bestOf : Cond.instanceMethod yX8_bestOf ∈ gx_T := gx_in6 81 rfl rfl
theorem wc_yX8_bestOf : Cond.code yX8_bestOf cX8_bestOf 5 (some .int) ∈ gx_T := gx_in6 82 rfl rfl
theorem wlL_110 : Cond.methodLink RL 110 yX8_drawn ∈ gx_T := gx_in6 83 rfl rfl
theorem wi_yX8_drawn : Cond.instanceMethod yX8_drawn ∈ gx_T := gx_in6 84 rfl rfl
theorem ws_yX8_drawn : Cond.selects RX8 yX8_drawn yX8_drawn ∈ gx_T := gx_in6 85 rfl rfl
theorem wc_yX8_drawn : Cond.code yX8_drawn cX8_drawn 9 (some .int) ∈ gx_T := gx_in6 86 rfl rfl
theorem wkX8_363 : Cond.constant RX8 363 (1103515245) ∈ gx_T := gx_in6 87 rfl rfl
theorem wlL_114 : Cond.methodLink RL 114 yX8_hour ∈ gx_T := gx_in6 88 rfl rfl
theorem wi_yX8_hour : Cond.instanceMethod yX8_hour ∈ gx_T := gx_in6 89 rfl rfl
theorem ws_yX8_hour : Cond.selects RX8 yX8_hour yX8_hour ∈ gx_T := gx_in6 90 rfl rfl
theorem wc_yX8_hour : Cond.code yX8_hour cX8_hour 2 (some .int) ∈ gx_T := gx_in6 91 rfl rfl
theorem wlL_118 : Cond.methodLink RL 118 yX8_moves ∈ gx_T := gx_in6 92 rfl rfl
theorem wi_yX8_moves : Cond.instanceMethod yX8_moves ∈ gx_T := gx_in6 93 rfl rfl
theorem ws_yX8_moves : Cond.selects RX8 yX8_moves yX8_moves ∈ gx_T := gx_in6 94 rfl rfl
theorem wc_yX8_moves : Cond.code yX8_moves cX8_moves 4 (some .int) ∈ gx_T := gx_in6 95 rfl rfl
theorem wlL_122 : Cond.methodLink RL 122 yX8_awning ∈ gx_T := gx_in6 96 rfl rfl
theorem wi_yX8_awning : Cond.instanceMethod yX8_awning ∈ gx_T := gx_in6 97 rfl rfl
theorem ws_yX8_awning : Cond.selects RX8 yX8_awning yX8_awning ∈ gx_T := gx_in6 98 rfl rfl
theorem wc_yX8_awning : Cond.code yX8_awning cX8_awning 2 (some .int) ∈ gx_T := gx_in6 99 rfl rfl
theorem wlL_126 : Cond.methodLink RL 126 yX8_wipe ∈ gx_T := gx_in6 100 rfl rfl
theorem wi_yX8_wipe : Cond.instanceMethod yX8_wipe ∈ gx_T := gx_in6 101 rfl rfl
theorem ws_yX8_wipe : Cond.selects RX8 yX8_wipe yX8_wipe ∈ gx_T := gx_in6 102 rfl rfl
theorem wc_yX8_wipe : Cond.code yX8_wipe cX8_wipe 4 (some .int) ∈ gx_T := gx_in6 103 rfl rfl
theorem wlL_130 : Cond.methodLink RL 130 yX8_led ∈ gx_T := gx_in6 104 rfl rfl
theorem wi_yX8_led : Cond.instanceMethod yX8_led ∈ gx_T := gx_in6 105 rfl rfl
theorem ws_yX8_led : Cond.selects RX8 yX8_led yX8_led ∈ gx_T := gx_in6 106 rfl rfl
theorem wc_yX8_led : Cond.code yX8_led cX8_led 2 (some .int) ∈ gx_T := gx_in6 107 rfl rfl
theorem wlL_134 : Cond.methodLink RL 134 yX8_image ∈ gx_T := gx_in6 108 rfl rfl
theorem wi_yX8_image : Cond.instanceMethod yX8_image ∈ gx_T := gx_in6 109 rfl rfl
theorem ws_yX8_image : Cond.selects RX8 yX8_image yX8_image ∈ gx_T := gx_in6 110 rfl rfl
theorem wc_yX8_image : Cond.code yX8_image cX8_image 2 (some .int) ∈ gx_T := gx_in6 111 rfl rfl
theorem wlL_138 : Cond.methodLink RL 138 yX8_back ∈ gx_T := gx_in6 112 rfl rfl
theorem wi_yX8_back : Cond.instanceMethod yX8_back ∈ gx_T := gx_in6 113 rfl rfl
theorem ws_yX8_back : Cond.selects RX8 yX8_back yX8_back ∈ gx_T := gx_in6 114 rfl rfl
theorem wc_yX8_back : Cond.code yX8_back cX8_back 2 (some .int) ∈ gx_T := gx_in6 115 rfl rfl
theorem wlL_158 : Cond.methodLink RL 158 yX8_trace ∈ gx_T := gx_in6 116 rfl rfl
theorem wi_yX8_trace : Cond.instanceMethod yX8_trace ∈ gx_T := gx_in6 117 rfl rfl
theorem ws_yX8_trace : Cond.selects RX8 yX8_trace yX8_trace ∈ gx_T := gx_in6 118 rfl rfl
theorem wc_yX8_trace : Cond.code yX8_trace cX8_trace 2 (some .int) ∈ gx_T := gx_in6 119 rfl rfl
theorem wlL_150 : Cond.methodLink RL 150 yX8_body ∈ gx_T := gx_in6 120 rfl rfl
theorem wi_yX8_body : Cond.instanceMethod yX8_body ∈ gx_T := gx_in6 121 rfl rfl
theorem ws_yX8_body : Cond.selects RX8 yX8_body yX8_body ∈ gx_T := gx_in6 122 rfl rfl
theorem wc_yX8_body : Cond.code yX8_body cX8_body 2 (some .int) ∈ gx_T := gx_in6 123 rfl rfl
theorem wlL_154 : Cond.methodLink RL 154 yX8_act ∈ gx_T := gx_in6 124 rfl rfl
theorem wi_yX8_act : Cond.instanceMethod yX8_act ∈ gx_T := gx_in6 125 rfl rfl
theorem ws_yX8_act : Cond.selects RX8 yX8_act yX8_act ∈ gx_T := gx_in6 126 rfl rfl
theorem wc_yX8_act : Cond.code yX8_act cX8_act 4 (some .int) ∈ gx_T := gx_in6 127 rfl rfl
theorem wlX8_415 : Cond.methodLink RX8 415 yX8_isBody ∈ gx_T := gx_in6 128 rfl rfl
theorem wi_yX8_isBody : Cond.instanceMethod yX8_isBody ∈ gx_T := gx_in6 130 rfl rfl
theorem wc_yX8_isBody : Cond.code yX8_isBody cX8_isBody 2 (some .boolean) ∈ gx_T := gx_in6 131 rfl rfl
theorem wlX8_391 : Cond.methodLink RX8 391 yX8_falling ∈ gx_T := gx_in6 132 rfl rfl
theorem wi_yX8_falling : Cond.instanceMethod yX8_falling ∈ gx_T := gx_in6 134 rfl rfl
theorem wc_yX8_falling : Cond.code yX8_falling cX8_falling 3 (some .int) ∈ gx_T := gx_in6 135 rfl rfl
theorem wlX8_385 : Cond.methodLink RX8 385 yX8_isUnder ∈ gx_T := gx_in6 136 rfl rfl
theorem wt_yX8_isUnder : Cond.static yX8_isUnder ∈ gx_T := gx_in6 137 rfl rfl
theorem wc_yX8_isUnder : Cond.code yX8_isUnder cX8_isUnder 2 (some .boolean) ∈ gx_T := gx_in6 138 rfl rfl
theorem wlX8_379 : Cond.methodLink RX8 379 yX8_ran ∈ gx_T := gx_in6 139 rfl rfl
theorem wi_yX8_ran : Cond.instanceMethod yX8_ran ∈ gx_T := gx_in6 141 rfl rfl
theorem wc_yX8_ran : Cond.code yX8_ran cX8_ran 2 none ∈ gx_T := gx_in6 142 rfl rfl
theorem wlX8_382 : Cond.methodLink RX8 382 yX8_plainFalls ∈ gx_T := gx_in6 143 rfl rfl
theorem wi_yX8_plainFalls : Cond.instanceMethod yX8_plainFalls ∈ gx_T := gx_in6 145 rfl rfl
theorem wc_yX8_plainFalls : Cond.code yX8_plainFalls cX8_plainFalls 3 (some .int) ∈ gx_T := gx_in6 146 rfl rfl
theorem wlX8_388 : Cond.methodLink RX8 388 yX8_lampFalls ∈ gx_T := gx_in6 147 rfl rfl
theorem wi_yX8_lampFalls : Cond.instanceMethod yX8_lampFalls ∈ gx_T := gx_in6 149 rfl rfl
theorem wc_yX8_lampFalls : Cond.code yX8_lampFalls cX8_lampFalls 3 (some .int) ∈ gx_T := gx_in6 150 rfl rfl
theorem wlX8_409 : Cond.methodLink RX8 409 yX8_running ∈ gx_T := gx_in6 151 rfl rfl
theorem wi_yX8_running : Cond.instanceMethod yX8_running ∈ gx_T := gx_in6 153 rfl rfl
theorem wc_yX8_running : Cond.code yX8_running cX8_running 4 (some .int) ∈ gx_T := gx_in6 154 rfl rfl
theorem wlX8_397 : Cond.methodLink RX8 397 yX8_basinRuns ∈ gx_T := gx_in6 155 rfl rfl
theorem wi_yX8_basinRuns : Cond.instanceMethod yX8_basinRuns ∈ gx_T := gx_in6 157 rfl rfl
theorem wc_yX8_basinRuns : Cond.code yX8_basinRuns cX8_basinRuns 3 (some .int) ∈ gx_T := gx_in6 158 rfl rfl
theorem wlX8_394 : Cond.methodLink RX8 394 yX8_plainRuns ∈ gx_T := gx_in6 159 rfl rfl
theorem wi_yX8_plainRuns : Cond.instanceMethod yX8_plainRuns ∈ gx_T := gx_in6 161 rfl rfl
theorem wc_yX8_plainRuns : Cond.code yX8_plainRuns cX8_plainRuns 3 (some .int) ∈ gx_T := gx_in6 162 rfl rfl
theorem wlX8_400 : Cond.methodLink RX8 400 yX8_thinking ∈ gx_T := gx_in6 163 rfl rfl
theorem wi_yX8_thinking : Cond.instanceMethod yX8_thinking ∈ gx_T := gx_in6 165 rfl rfl
theorem wc_yX8_thinking : Cond.code yX8_thinking cX8_thinking 4 (some .int) ∈ gx_T := gx_in6 166 rfl rfl
theorem wlX8_406 : Cond.methodLink RX8 406 yX8_porterThinks ∈ gx_T := gx_in6 167 rfl rfl
theorem wi_yX8_porterThinks : Cond.instanceMethod yX8_porterThinks ∈ gx_T := gx_in6 169 rfl rfl
theorem wc_yX8_porterThinks : Cond.code yX8_porterThinks cX8_porterThinks 3 (some .int) ∈ gx_T := gx_in6 170 rfl rfl
theorem wlX8_403 : Cond.methodLink RX8 403 yX8_plainThinks ∈ gx_T := gx_in6 171 rfl rfl
theorem wi_yX8_plainThinks : Cond.instanceMethod yX8_plainThinks ∈ gx_T := gx_in6 173 rfl rfl
theorem wc_yX8_plainThinks : Cond.code yX8_plainThinks cX8_plainThinks 3 (some .int) ∈ gx_T := gx_in6 174 rfl rfl
theorem wlX8_418 : Cond.methodLink RX8 418 yX8_telling ∈ gx_T := gx_in6 175 rfl rfl
theorem wi_yX8_telling : Cond.instanceMethod yX8_telling ∈ gx_T := gx_in6 177 rfl rfl
theorem wc_yX8_telling : Cond.code yX8_telling cX8_telling 3 (some .int) ∈ gx_T := gx_in6 178 rfl rfl
theorem wlX8_412 : Cond.methodLink RX8 412 yX8_plainTells ∈ gx_T := gx_in6 179 rfl rfl
theorem wi_yX8_plainTells : Cond.instanceMethod yX8_plainTells ∈ gx_T := gx_in6 181 rfl rfl
theorem wc_yX8_plainTells : Cond.code yX8_plainTells cX8_plainTells 4 (some .int) ∈ gx_T := gx_in6 182 rfl rfl
theorem wlL_191 : Cond.methodLink RL 191 yX8_count ∈ gx_T := gx_in6 183 rfl rfl
theorem wi_yX8_count : Cond.instanceMethod yX8_count ∈ gx_T := gx_in6 184 rfl rfl
theorem ws_yX8_count : Cond.selects RX8 yX8_count yX8_count ∈ gx_T := gx_in6 185 rfl rfl
theorem wc_yX8_count : Cond.code yX8_count cX8_count 2 (some .int) ∈ gx_T := gx_in6 186 rfl rfl
theorem wlX8_421 : Cond.methodLink RX8 421 yX8_awnings ∈ gx_T := gx_in6 187 rfl rfl
theorem wi_yX8_awnings : Cond.instanceMethod yX8_awnings ∈ gx_T := gx_in6 189 rfl rfl
theorem wc_yX8_awnings : Cond.code yX8_awnings cX8_awnings 3 (some .int) ∈ gx_T := gx_in6 190 rfl rfl
theorem wlL_162 : Cond.methodLink RL 162 yX8_keep ∈ gx_T := gx_in6 191 rfl rfl
theorem wi_yX8_keep : Cond.instanceMethod yX8_keep ∈ gx_T := gx_in6 192 rfl rfl
theorem ws_yX8_keep : Cond.selects RX8 yX8_keep yX8_keep ∈ gx_T := gx_in6 193 rfl rfl
theorem wc_yX8_keep : Cond.code yX8_keep cX8_keep 3 (some .int) ∈ gx_T := gx_in6 194 rfl rfl
theorem wlL_166 : Cond.methodLink RL 166 yX8_row ∈ gx_T := gx_in6 195 rfl rfl
theorem wi_yX8_row : Cond.instanceMethod yX8_row ∈ gx_T := gx_in6 196 rfl rfl
theorem ws_yX8_row : Cond.selects RX8 yX8_row yX8_row ∈ gx_T := gx_in6 197 rfl rfl
theorem wc_yX8_row : Cond.code yX8_row cX8_row 5 (some .int) ∈ gx_T := gx_in6 198 rfl rfl
theorem wlL_173 : Cond.methodLink RL 173 yX8_put ∈ gx_T := gx_in6 199 rfl rfl
theorem wi_yX8_put : Cond.instanceMethod yX8_put ∈ gx_T := gx_in6 200 rfl rfl
theorem ws_yX8_put : Cond.selects RX8 yX8_put yX8_put ∈ gx_T := gx_in6 201 rfl rfl
theorem wc_yX8_put : Cond.code yX8_put cX8_put 7 (some .int) ∈ gx_T := gx_in6 202 rfl rfl
theorem wlX8_424 : Cond.methodLink RX8 424 yX8_whyNoPlace ∈ gx_T := gx_in6 203 rfl rfl
theorem wi_yX8_whyNoPlace : Cond.instanceMethod yX8_whyNoPlace ∈ gx_T := gx_in6 205 rfl rfl
theorem wc_yX8_whyNoPlace : Cond.code yX8_whyNoPlace cX8_whyNoPlace 3 (some .int) ∈ gx_T := gx_in6 206 rfl rfl
theorem wlL_178 : Cond.methodLink RL 178 yX8_element ∈ gx_T := gx_in6 207 rfl rfl
theorem wi_yX8_element : Cond.instanceMethod yX8_element ∈ gx_T := gx_in6 208 rfl rfl
theorem ws_yX8_element : Cond.selects RX8 yX8_element yX8_element ∈ gx_T := gx_in6 209 rfl rfl
theorem wc_yX8_element : Cond.code yX8_element cX8_element 3 (some .long) ∈ gx_T := gx_in6 210 rfl rfl
theorem wlL_183 : Cond.methodLink RL 183 yX8_shift ∈ gx_T := gx_in6 211 rfl rfl
theorem wi_yX8_shift : Cond.instanceMethod yX8_shift ∈ gx_T := gx_in6 212 rfl rfl
theorem ws_yX8_shift : Cond.selects RX8 yX8_shift yX8_shift ∈ gx_T := gx_in6 213 rfl rfl
theorem wc_yX8_shift : Cond.code yX8_shift cX8_shift 7 (some .int) ∈ gx_T := gx_in6 214 rfl rfl
theorem wlL_187 : Cond.methodLink RL 187 yX8_taken ∈ gx_T := gx_in6 215 rfl rfl
theorem wi_yX8_taken : Cond.instanceMethod yX8_taken ∈ gx_T := gx_in6 216 rfl rfl
theorem ws_yX8_taken : Cond.selects RX8 yX8_taken yX8_taken ∈ gx_T := gx_in6 217 rfl rfl
theorem wc_yX8_taken : Cond.code yX8_taken cX8_taken 3 (some .int) ∈ gx_T := gx_in6 218 rfl rfl
theorem wkL_167 : Cond.constantLong RL 167 (4294967295) ∈ gx_T := gx_in6 219 rfl rfl
theorem inX0 : ∀ w ∈ wsX00, w ∈ gx_T := by
  intro w h
  rw [show wsX00 = [u_lay RX0 TX0 0, u_lay RX0 TX0 1, u_lay RX0 TX0 2, u_lay RX0 TX0 3] from rfl] at h
  simp only [List.mem_cons, List.not_mem_nil, or_false] at h
  rcases h with rfl | rfl | rfl | rfl
  · exact gx_in1 193 rfl rfl
  · exact gx_in1 195 rfl rfl
  · exact gx_in1 197 rfl rfl
  · exact gx_in1 199 rfl rfl
theorem inX1 : ∀ w ∈ wsX10, w ∈ gx_T := by
  intro w h
  rw [show wsX10 = [u_lay RX1 TX1 0, u_lay RX1 TX1 1, u_lay RX1 TX1 2, u_lay RX1 TX1 3, u_lay RX1 TX1 4, u_lay RX1 TX1 5] from rfl] at h
  simp only [List.mem_cons, List.not_mem_nil, or_false] at h
  rcases h with rfl | rfl | rfl | rfl | rfl | rfl
  · exact gx_in1 166 rfl rfl
  · exact gx_in1 168 rfl rfl
  · exact gx_in1 170 rfl rfl
  · exact gx_in1 172 rfl rfl
  · exact gx_in1 174 rfl rfl
  · exact gx_in1 176 rfl rfl
theorem inX2 : ∀ w ∈ wsX20, w ∈ gx_T := by
  intro w h
  rw [show wsX20 = [u_lay RX2 TX2 0, u_lay RX2 TX2 1, u_lay RX2 TX2 2, u_lay RX2 TX2 3, u_lay RX2 TX2 4, u_lay RX2 TX2 5, u_lay RX2 TX2 6, u_lay RX2 TX2 7, u_lay RX2 TX2 8, u_lay RX2 TX2 9] from rfl] at h
  simp only [List.mem_cons, List.not_mem_nil, or_false] at h
  rcases h with rfl | rfl | rfl | rfl | rfl | rfl | rfl | rfl | rfl | rfl
  · exact gx_in1 101 rfl rfl
  · exact gx_in1 103 rfl rfl
  · exact gx_in1 105 rfl rfl
  · exact gx_in1 107 rfl rfl
  · exact gx_in1 109 rfl rfl
  · exact gx_in1 111 rfl rfl
  · exact gx_in1 113 rfl rfl
  · exact gx_in1 115 rfl rfl
  · exact gx_in1 117 rfl rfl
  · exact gx_in1 119 rfl rfl
theorem inX3 : ∀ w ∈ wsX30, w ∈ gx_T := by
  intro w h
  rw [show wsX30 = [u_lay RX3 TX3 0, u_lay RX3 TX3 1, u_lay RX3 TX3 2, u_lay RX3 TX3 3, u_lay RX3 TX3 4] from rfl] at h
  simp only [List.mem_cons, List.not_mem_nil, or_false] at h
  rcases h with rfl | rfl | rfl | rfl | rfl
  · exact gx_in1 32 rfl rfl
  · exact gx_in1 34 rfl rfl
  · exact gx_in1 36 rfl rfl
  · exact gx_in1 38 rfl rfl
  · exact gx_in1 40 rfl rfl
theorem inX4 : ∀ w ∈ wsX40, w ∈ gx_T := by
  intro w h
  rw [show wsX40 = [u_lay RX4 TX4 0, u_lay RX4 TX4 1, u_lay RX4 TX4 2, u_lay RX4 TX4 3, u_lay RX4 TX4 4, u_lay RX4 TX4 5] from rfl] at h
  simp only [List.mem_cons, List.not_mem_nil, or_false] at h
  rcases h with rfl | rfl | rfl | rfl | rfl | rfl
  · exact gx_in1 134 rfl rfl
  · exact gx_in1 136 rfl rfl
  · exact gx_in1 138 rfl rfl
  · exact gx_in1 140 rfl rfl
  · exact gx_in1 142 rfl rfl
  · exact gx_in1 144 rfl rfl
theorem inX5 : ∀ w ∈ wsX50, w ∈ gx_T := by
  intro w h
  rw [show wsX50 = [u_lay RX5 TX5 0, u_lay RX5 TX5 1, u_lay RX5 TX5 2, u_lay RX5 TX5 3] from rfl] at h
  simp only [List.mem_cons, List.not_mem_nil, or_false] at h
  rcases h with rfl | rfl | rfl | rfl
  · exact gx_in1 217 rfl rfl
  · exact gx_in1 219 rfl rfl
  · exact gx_in1 221 rfl rfl
  · exact gx_in1 223 rfl rfl
theorem inX6 : ∀ w ∈ wsX60, w ∈ gx_T := by
  intro w h
  rw [show wsX60 = [u_lay RX6 TX6 0, u_lay RX6 TX6 1, u_lay RX6 TX6 2, u_lay RX6 TX6 3, u_lay RX6 TX6 4, u_lay RX6 TX6 5] from rfl] at h
  simp only [List.mem_cons, List.not_mem_nil, or_false] at h
  rcases h with rfl | rfl | rfl | rfl | rfl | rfl
  · exact gx_in1 61 rfl rfl
  · exact gx_in1 63 rfl rfl
  · exact gx_in1 65 rfl rfl
  · exact gx_in1 67 rfl rfl
  · exact gx_in1 69 rfl rfl
  · exact gx_in1 71 rfl rfl
theorem inX7 : ∀ w ∈ wsX70, w ∈ gx_T := by
  intro w h
  rw [show wsX70 = [u_lay RX7 TX7 0, u_lay RX7 TX7 1, u_lay RX7 TX7 2, u_lay RX7 TX7 3, u_lay RX7 TX7 4, u_lay RX7 TX7 5, u_lay RX7 TX7 6, u_lay RX7 TX7 7, u_lay RX7 TX7 8] from rfl] at h
  simp only [List.mem_cons, List.not_mem_nil, or_false] at h
  rcases h with rfl | rfl | rfl | rfl | rfl | rfl | rfl | rfl | rfl
  · exact gx_in1 235 rfl rfl
  · exact gx_in1 237 rfl rfl
  · exact gx_in1 239 rfl rfl
  · exact gx_in2 1 rfl rfl
  · exact gx_in2 3 rfl rfl
  · exact gx_in2 5 rfl rfl
  · exact gx_in2 7 rfl rfl
  · exact gx_in2 9 rfl rfl
  · exact gx_in2 11 rfl rfl
theorem inX8 : ∀ w ∈ wsX80, w ∈ gx_T := by
  intro w h
  rw [show wsX80 = [u_lay RX8 TX8 0, u_lay RX8 TX8 1, u_lay RX8 TX8 2, u_lay RX8 TX8 3, u_lay RX8 TX8 4, u_lay RX8 TX8 5, u_lay RX8 TX8 6, u_lay RX8 TX8 7, u_lay RX8 TX8 8, u_lay RX8 TX8 9, u_lay RX8 TX8 10, u_lay RX8 TX8 11, u_lay RX8 TX8 12, u_lay RX8 TX8 13, u_lay RX8 TX8 14, u_lay RX8 TX8 15, u_lay RX8 TX8 16, u_lay RX8 TX8 17, u_lay RX8 TX8 18, u_lay RX8 TX8 19, u_lay RX8 TX8 20, u_lay RX8 TX8 21, u_lay RX8 TX8 22, u_lay RX8 TX8 23, u_lay RX8 TX8 24, u_lay RX8 TX8 25, u_lay RX8 TX8 26, u_lay RX8 TX8 27, u_lay RX8 TX8 28, u_lay RX8 TX8 29, u_lay RX8 TX8 30, u_lay RX8 TX8 31, u_lay RX8 TX8 32, u_lay RX8 TX8 33, u_lay RX8 TX8 34, u_lay RX8 TX8 35, u_lay RX8 TX8 36, u_lay RX8 TX8 37, u_lay RX8 TX8 38, u_lay RX8 TX8 39, u_lay RX8 TX8 40, u_lay RX8 TX8 41, u_lay RX8 TX8 42, u_lay RX8 TX8 43, u_lay RX8 TX8 44, u_lay RX8 TX8 45, u_lay RX8 TX8 46, u_lay RX8 TX8 47, u_lay RX8 TX8 48, u_lay RX8 TX8 49, u_lay RX8 TX8 50, u_lay RX8 TX8 51, u_lay RX8 TX8 52, u_lay RX8 TX8 53, u_lay RX8 TX8 54, u_lay RX8 TX8 55, u_lay RX8 TX8 56, u_lay RX8 TX8 57, u_lay RX8 TX8 58, u_lay RX8 TX8 59] from rfl] at h
  simp only [List.mem_cons, List.not_mem_nil, or_false] at h
  rcases h with rfl | rfl | rfl | rfl | rfl | rfl | rfl | rfl | rfl | rfl | rfl | rfl | rfl | rfl | rfl | rfl | rfl | rfl | rfl | rfl | rfl | rfl | rfl | rfl | rfl | rfl | rfl | rfl | rfl | rfl | rfl | rfl | rfl | rfl | rfl | rfl | rfl | rfl | rfl | rfl | rfl | rfl | rfl | rfl | rfl | rfl | rfl | rfl | rfl | rfl | rfl | rfl | rfl | rfl | rfl | rfl | rfl | rfl | rfl | rfl
  · exact gx_in4 139 rfl rfl
  · exact gx_in4 141 rfl rfl
  · exact gx_in4 143 rfl rfl
  · exact gx_in4 145 rfl rfl
  · exact gx_in4 147 rfl rfl
  · exact gx_in4 149 rfl rfl
  · exact gx_in4 151 rfl rfl
  · exact gx_in4 153 rfl rfl
  · exact gx_in4 155 rfl rfl
  · exact gx_in4 157 rfl rfl
  · exact gx_in4 159 rfl rfl
  · exact gx_in4 161 rfl rfl
  · exact gx_in4 163 rfl rfl
  · exact gx_in4 165 rfl rfl
  · exact gx_in4 167 rfl rfl
  · exact gx_in4 169 rfl rfl
  · exact gx_in4 171 rfl rfl
  · exact gx_in4 173 rfl rfl
  · exact gx_in4 175 rfl rfl
  · exact gx_in4 177 rfl rfl
  · exact gx_in4 179 rfl rfl
  · exact gx_in4 181 rfl rfl
  · exact gx_in4 183 rfl rfl
  · exact gx_in4 185 rfl rfl
  · exact gx_in4 187 rfl rfl
  · exact gx_in4 189 rfl rfl
  · exact gx_in4 191 rfl rfl
  · exact gx_in4 193 rfl rfl
  · exact gx_in4 195 rfl rfl
  · exact gx_in4 197 rfl rfl
  · exact gx_in4 199 rfl rfl
  · exact gx_in4 201 rfl rfl
  · exact gx_in4 203 rfl rfl
  · exact gx_in4 205 rfl rfl
  · exact gx_in4 207 rfl rfl
  · exact gx_in4 209 rfl rfl
  · exact gx_in4 211 rfl rfl
  · exact gx_in4 213 rfl rfl
  · exact gx_in4 215 rfl rfl
  · exact gx_in4 217 rfl rfl
  · exact gx_in4 219 rfl rfl
  · exact gx_in4 221 rfl rfl
  · exact gx_in4 223 rfl rfl
  · exact gx_in4 225 rfl rfl
  · exact gx_in4 227 rfl rfl
  · exact gx_in4 229 rfl rfl
  · exact gx_in4 231 rfl rfl
  · exact gx_in4 233 rfl rfl
  · exact gx_in4 235 rfl rfl
  · exact gx_in4 237 rfl rfl
  · exact gx_in4 239 rfl rfl
  · exact gx_in5 1 rfl rfl
  · exact gx_in5 3 rfl rfl
  · exact gx_in5 5 rfl rfl
  · exact gx_in5 7 rfl rfl
  · exact gx_in5 9 rfl rfl
  · exact gx_in5 11 rfl rfl
  · exact gx_in5 13 rfl rfl
  · exact gx_in5 15 rfl rfl
  · exact gx_in5 17 rfl rfl
