theorem wv_DR_3 : Cond.methodLink "CaptionTallies$Draft" 3 Lib.objectInit ∈ lw_gt := wq_1 (i := 29) (by decide +kernel) rfl
theorem wv_DR_9 : Cond.fieldLink "CaptionTallies$Draft" 9 "CaptionTallies$Draft" "codes" "[I" ∈ lw_gt := wq_1 (i := 30) (by decide +kernel) rfl
theorem wv_DR_15 : Cond.fieldLink "CaptionTallies$Draft" 15 "CaptionTallies$Draft" "length" "I" ∈ lw_gt := wq_1 (i := 31) (by decide +kernel) rfl
theorem wv_ST_3 : Cond.methodLink "CaptionTallies$State" 3 Lib.objectInit ∈ lw_gt := wq_1 (i := 43) (by decide +kernel) rfl
theorem wv_ST_9 : Cond.fieldLink "CaptionTallies$State" 9 "CaptionTallies$State" "made" "I" ∈ lw_gt := wq_1 (i := 47) (by decide +kernel) rfl
theorem wv_ST_15 : Cond.fieldLink "CaptionTallies$State" 15 "CaptionTallies$State" "present" "[Z" ∈ lw_gt := wq_1 (i := 48) (by decide +kernel) rfl
theorem wv_ST_19 : Cond.fieldLink "CaptionTallies$State" 19 "CaptionTallies$State" "authors" "[I" ∈ lw_gt := wq_1 (i := 49) (by decide +kernel) rfl
theorem wv_ST_23 : Cond.fieldLink "CaptionTallies$State" 23 "CaptionTallies$State" "texts" "[I" ∈ lw_gt := wq_1 (i := 50) (by decide +kernel) rfl
theorem wv_ST_26 : Cond.fieldLink "CaptionTallies$State" 26 "CaptionTallies$State" "lengths" "[I" ∈ lw_gt := wq_1 (i := 51) (by decide +kernel) rfl
theorem wv_ST_29 : Cond.fieldLink "CaptionTallies$State" 29 "CaptionTallies$State" "cores" "[I" ∈ lw_gt := wq_1 (i := 52) (by decide +kernel) rfl
theorem wv_ST_32 : Cond.fieldLink "CaptionTallies$State" 32 "CaptionTallies$State" "coreLengths" "[I" ∈ lw_gt := wq_1 (i := 53) (by decide +kernel) rfl
theorem wv_ST_35 : Cond.fieldLink "CaptionTallies$State" 35 "CaptionTallies$State" "firstAlike" "[I" ∈ lw_gt := wq_1 (i := 54) (by decide +kernel) rfl
theorem wv_ST_38 : Cond.fieldLink "CaptionTallies$State" 38 "CaptionTallies$State" "links" "[Z" ∈ lw_gt := wq_1 (i := 55) (by decide +kernel) rfl
theorem wv_ST_41 : Cond.fieldLink "CaptionTallies$State" 41 "CaptionTallies$State" "wishes" "[I" ∈ lw_gt := wq_1 (i := 56) (by decide +kernel) rfl
theorem wv_ST_44 : Cond.fieldLink "CaptionTallies$State" 44 "CaptionTallies$State" "points" "[I" ∈ lw_gt := wq_1 (i := 57) (by decide +kernel) rfl
theorem wv_ST_47 : Cond.fieldLink "CaptionTallies$State" 47 "CaptionTallies$State" "settings" "[I" ∈ lw_gt := wq_1 (i := 58) (by decide +kernel) rfl
theorem wv_ST_50 : Cond.fieldLink "CaptionTallies$State" 50 "CaptionTallies$State" "prizes" "[I" ∈ lw_gt := wq_1 (i := 59) (by decide +kernel) rfl
theorem wv_ST_53 : Cond.methodLink "CaptionTallies$State" 53 y_AR_fill ∈ lw_gt := wq_1 (i := 44) (by decide +kernel) rfl
theorem wv_GR_3 : Cond.methodLink "CaptionTallies$Groups" 3 Lib.objectInit ∈ lw_gt := wq_1 (i := 109) (by decide +kernel) rfl
theorem wv_GR_9 : Cond.fieldLink "CaptionTallies$Groups" 9 "CaptionTallies$Groups" "heads" "[I" ∈ lw_gt := wq_1 (i := 110) (by decide +kernel) rfl
theorem wv_GR_15 : Cond.fieldLink "CaptionTallies$Groups" 15 "CaptionTallies$Groups" "reached" "[I" ∈ lw_gt := wq_1 (i := 111) (by decide +kernel) rfl
theorem wv_GR_18 : Cond.fieldLink "CaptionTallies$Groups" 18 "CaptionTallies$Groups" "number" "I" ∈ lw_gt := wq_1 (i := 112) (by decide +kernel) rfl
theorem wv_CO_3 : Cond.methodLink "CaptionTallies$Counts" 3 Lib.objectInit ∈ lw_gt := wq_1 (i := 125) (by decide +kernel) rfl
theorem wv_CO_9 : Cond.fieldLink "CaptionTallies$Counts" 9 "CaptionTallies$Counts" "wishes" "[I" ∈ lw_gt := wq_1 (i := 126) (by decide +kernel) rfl
theorem wv_CO_15 : Cond.fieldLink "CaptionTallies$Counts" 15 "CaptionTallies$Counts" "points" "[I" ∈ lw_gt := wq_1 (i := 127) (by decide +kernel) rfl
theorem wv_CO_18 : Cond.fieldLink "CaptionTallies$Counts" 18 "CaptionTallies$Counts" "firsts" "[I" ∈ lw_gt := wq_1 (i := 128) (by decide +kernel) rfl
theorem wv_RA_3 : Cond.methodLink "CaptionTallies$Ranks" 3 Lib.objectInit ∈ lw_gt := wq_1 (i := 141) (by decide +kernel) rfl
theorem wv_RA_9 : Cond.fieldLink "CaptionTallies$Ranks" 9 "CaptionTallies$Ranks" "points" "[I" ∈ lw_gt := wq_1 (i := 142) (by decide +kernel) rfl
theorem wv_RA_15 : Cond.fieldLink "CaptionTallies$Ranks" 15 "CaptionTallies$Ranks" "ranks" "[I" ∈ lw_gt := wq_1 (i := 143) (by decide +kernel) rfl
theorem wv_RA_18 : Cond.fieldLink "CaptionTallies$Ranks" 18 "CaptionTallies$Ranks" "sums" "[I" ∈ lw_gt := wq_1 (i := 144) (by decide +kernel) rfl
theorem wv_RO_3 : Cond.methodLink "CaptionTallies$Rounds" 3 Lib.objectInit ∈ lw_gt := wq_1 (i := 157) (by decide +kernel) rfl
theorem wv_RO_9 : Cond.fieldLink "CaptionTallies$Rounds" 9 "CaptionTallies$Rounds" "left" "[Z" ∈ lw_gt := wq_1 (i := 158) (by decide +kernel) rfl
theorem wv_RO_15 : Cond.fieldLink "CaptionTallies$Rounds" 15 "CaptionTallies$Rounds" "choices" "[I" ∈ lw_gt := wq_1 (i := 159) (by decide +kernel) rfl
theorem wv_RO_19 : Cond.fieldLink "CaptionTallies$Rounds" 19 "CaptionTallies$Rounds" "roundOut" "[I" ∈ lw_gt := wq_1 (i := 160) (by decide +kernel) rfl
theorem wv_RO_22 : Cond.fieldLink "CaptionTallies$Rounds" 22 "CaptionTallies$Rounds" "headsOut" "[I" ∈ lw_gt := wq_1 (i := 161) (by decide +kernel) rfl
theorem wv_RO_25 : Cond.fieldLink "CaptionTallies$Rounds" 25 "CaptionTallies$Rounds" "ballotsOut" "[I" ∈ lw_gt := wq_1 (i := 162) (by decide +kernel) rfl
theorem wv_RO_28 : Cond.fieldLink "CaptionTallies$Rounds" 28 "CaptionTallies$Rounds" "ballotsForNone" "[I" ∈ lw_gt := wq_1 (i := 163) (by decide +kernel) rfl
theorem wv_RO_31 : Cond.fieldLink "CaptionTallies$Rounds" 31 "CaptionTallies$Rounds" "number" "I" ∈ lw_gt := wq_1 (i := 164) (by decide +kernel) rfl
theorem wv_OR_3 : Cond.methodLink "CaptionTallies$Order" 3 Lib.objectInit ∈ lw_gt := wq_1 (i := 185) (by decide +kernel) rfl
theorem wv_OR_9 : Cond.fieldLink "CaptionTallies$Order" 9 "CaptionTallies$Order" "ordered" "[Z" ∈ lw_gt := wq_1 (i := 186) (by decide +kernel) rfl
theorem wv_OR_15 : Cond.fieldLink "CaptionTallies$Order" 15 "CaptionTallies$Order" "keys" "[I" ∈ lw_gt := wq_1 (i := 187) (by decide +kernel) rfl
theorem wv_OR_19 : Cond.fieldLink "CaptionTallies$Order" 19 "CaptionTallies$Order" "places" "[I" ∈ lw_gt := wq_1 (i := 188) (by decide +kernel) rfl
theorem wv_OR_22 : Cond.fieldLink "CaptionTallies$Order" 22 "CaptionTallies$Order" "indexes" "[I" ∈ lw_gt := wq_1 (i := 189) (by decide +kernel) rfl
theorem wv_SH_3 : Cond.methodLink "CaptionTallies$Shares" 3 Lib.objectInit ∈ lw_gt := wq_1 (i := 204) (by decide +kernel) rfl
theorem wv_SH_9 : Cond.fieldLink "CaptionTallies$Shares" 9 "CaptionTallies$Shares" "ofGroups" "[I" ∈ lw_gt := wq_1 (i := 205) (by decide +kernel) rfl
theorem wv_SH_15 : Cond.fieldLink "CaptionTallies$Shares" 15 "CaptionTallies$Shares" "ofCaptions" "[I" ∈ lw_gt := wq_1 (i := 206) (by decide +kernel) rfl
theorem wv_DI_3 : Cond.methodLink "CaptionTallies$Distances" 3 Lib.objectInit ∈ lw_gt := wq_1 (i := 217) (by decide +kernel) rfl
theorem wv_DI_9 : Cond.fieldLink "CaptionTallies$Distances" 9 "CaptionTallies$Distances" "row" "[I" ∈ lw_gt := wq_1 (i := 218) (by decide +kernel) rfl
theorem wv_DI_15 : Cond.fieldLink "CaptionTallies$Distances" 15 "CaptionTallies$Distances" "near" "[I" ∈ lw_gt := wq_1 (i := 219) (by decide +kernel) rfl
theorem wv_HI_3 : Cond.methodLink "CaptionTallies$History" 3 Lib.objectInit ∈ lw_gt := wq_1 (i := 93) (by decide +kernel) rfl
theorem wv_HI_9 : Cond.classLink "CaptionTallies$History" 9 "CaptionTallies$State" ∈ lw_gt := wq_1 (i := 94) (by decide +kernel) rfl
theorem wv_HI_11 : Cond.fieldLink "CaptionTallies$History" 11 "CaptionTallies$History" "states" "[LCaptionTallies$State;" ∈ lw_gt := wq_1 (i := 97) (by decide +kernel) rfl
theorem wv_in_ST : Cond.instantiable "CaptionTallies$State" 13 ∈ lw_gt := wq_1 (i := 39) (by decide +kernel) rfl
theorem wv_HI_17 : Cond.methodLink "CaptionTallies$History" 17 y_ST_init ∈ lw_gt := wq_1 (i := 96) (by decide +kernel) rfl
theorem wv_im_ST : Cond.instanceMethod y_ST_init ∈ lw_gt := wq_1 (i := 41) (by decide +kernel) rfl
theorem wv_HI_18 : Cond.fieldLink "CaptionTallies$History" 18 "CaptionTallies$History" "size" "I" ∈ lw_gt := wq_1 (i := 98) (by decide +kernel) rfl
theorem wv_CT_1 : Cond.methodLink "CaptionTallies" 1 Lib.objectInit ∈ lw_gt := wq_1 (i := 21) (by decide +kernel) rfl
theorem wv_CT_7 : Cond.classLink "CaptionTallies" 7 "CaptionTallies$Draft" ∈ lw_gt := wq_1 (i := 24) (by decide +kernel) rfl
theorem wv_in_DR : Cond.instantiable "CaptionTallies$Draft" 2 ∈ lw_gt := wq_1 (i := 25) (by decide +kernel) rfl
theorem wv_CT_9 : Cond.methodLink "CaptionTallies" 9 y_DR_init ∈ lw_gt := wq_1 (i := 26) (by decide +kernel) rfl
theorem wv_im_DR : Cond.instanceMethod y_DR_init ∈ lw_gt := wq_1 (i := 27) (by decide +kernel) rfl
theorem wv_CT_10 : Cond.fieldLink "CaptionTallies" 10 "CaptionTallies" "draft" "LCaptionTallies$Draft;" ∈ lw_gt := wq_1 (i := 225) (by decide +kernel) rfl
theorem wv_CT_16 : Cond.classLink "CaptionTallies" 16 "CaptionTallies$State" ∈ lw_gt := wq_1 (i := 38) (by decide +kernel) rfl
theorem wv_CT_18 : Cond.methodLink "CaptionTallies" 18 y_ST_init ∈ lw_gt := wq_1 (i := 40) (by decide +kernel) rfl
theorem wv_CT_19 : Cond.fieldLink "CaptionTallies" 19 "CaptionTallies" "state" "LCaptionTallies$State;" ∈ lw_gt := wq_1 (i := 226) (by decide +kernel) rfl
theorem wv_CT_23 : Cond.classLink "CaptionTallies" 23 "CaptionTallies$History" ∈ lw_gt := wq_1 (i := 88) (by decide +kernel) rfl
theorem wv_in_HI : Cond.instantiable "CaptionTallies$History" 2 ∈ lw_gt := wq_1 (i := 89) (by decide +kernel) rfl
theorem wv_CT_25 : Cond.methodLink "CaptionTallies" 25 y_HI_init ∈ lw_gt := wq_1 (i := 90) (by decide +kernel) rfl
theorem wv_im_HI : Cond.instanceMethod y_HI_init ∈ lw_gt := wq_1 (i := 91) (by decide +kernel) rfl
theorem wv_CT_26 : Cond.fieldLink "CaptionTallies" 26 "CaptionTallies" "history" "LCaptionTallies$History;" ∈ lw_gt := wq_1 (i := 227) (by decide +kernel) rfl
theorem wv_CT_30 : Cond.fieldLink "CaptionTallies" 30 "CaptionTallies" "snapshot" "LCaptionTallies$State;" ∈ lw_gt := wq_1 (i := 228) (by decide +kernel) rfl
theorem wv_CT_33 : Cond.fieldLink "CaptionTallies" 33 "CaptionTallies" "hasSnapshot" "Z" ∈ lw_gt := wq_1 (i := 229) (by decide +kernel) rfl
theorem wv_CT_37 : Cond.classLink "CaptionTallies" 37 "CaptionTallies$Groups" ∈ lw_gt := wq_1 (i := 104) (by decide +kernel) rfl
theorem wv_in_GR : Cond.instantiable "CaptionTallies$Groups" 3 ∈ lw_gt := wq_1 (i := 105) (by decide +kernel) rfl
theorem wv_CT_39 : Cond.methodLink "CaptionTallies" 39 y_GR_init ∈ lw_gt := wq_1 (i := 106) (by decide +kernel) rfl
theorem wv_im_GR : Cond.instanceMethod y_GR_init ∈ lw_gt := wq_1 (i := 107) (by decide +kernel) rfl
theorem wv_CT_40 : Cond.fieldLink "CaptionTallies" 40 "CaptionTallies" "groups" "LCaptionTallies$Groups;" ∈ lw_gt := wq_1 (i := 230) (by decide +kernel) rfl
theorem wv_CT_44 : Cond.classLink "CaptionTallies" 44 "CaptionTallies$Counts" ∈ lw_gt := wq_1 (i := 120) (by decide +kernel) rfl
theorem wv_in_CO : Cond.instantiable "CaptionTallies$Counts" 3 ∈ lw_gt := wq_1 (i := 121) (by decide +kernel) rfl
theorem wv_CT_46 : Cond.methodLink "CaptionTallies" 46 y_CO_init ∈ lw_gt := wq_1 (i := 122) (by decide +kernel) rfl
theorem wv_im_CO : Cond.instanceMethod y_CO_init ∈ lw_gt := wq_1 (i := 123) (by decide +kernel) rfl
theorem wv_CT_47 : Cond.fieldLink "CaptionTallies" 47 "CaptionTallies" "counts" "LCaptionTallies$Counts;" ∈ lw_gt := wq_1 (i := 231) (by decide +kernel) rfl
theorem wv_CT_51 : Cond.classLink "CaptionTallies" 51 "CaptionTallies$Ranks" ∈ lw_gt := wq_1 (i := 136) (by decide +kernel) rfl
theorem wv_in_RA : Cond.instantiable "CaptionTallies$Ranks" 3 ∈ lw_gt := wq_1 (i := 137) (by decide +kernel) rfl
theorem wv_CT_53 : Cond.methodLink "CaptionTallies" 53 y_RA_init ∈ lw_gt := wq_1 (i := 138) (by decide +kernel) rfl
theorem wv_im_RA : Cond.instanceMethod y_RA_init ∈ lw_gt := wq_1 (i := 139) (by decide +kernel) rfl
theorem wv_CT_54 : Cond.fieldLink "CaptionTallies" 54 "CaptionTallies" "ranks" "LCaptionTallies$Ranks;" ∈ lw_gt := wq_1 (i := 232) (by decide +kernel) rfl
theorem wv_CT_58 : Cond.classLink "CaptionTallies" 58 "CaptionTallies$Rounds" ∈ lw_gt := wq_1 (i := 152) (by decide +kernel) rfl
theorem wv_in_RO : Cond.instantiable "CaptionTallies$Rounds" 7 ∈ lw_gt := wq_1 (i := 153) (by decide +kernel) rfl
theorem wv_CT_60 : Cond.methodLink "CaptionTallies" 60 y_RO_init ∈ lw_gt := wq_1 (i := 154) (by decide +kernel) rfl
theorem wv_im_RO : Cond.instanceMethod y_RO_init ∈ lw_gt := wq_1 (i := 155) (by decide +kernel) rfl
theorem wv_CT_61 : Cond.fieldLink "CaptionTallies" 61 "CaptionTallies" "rounds" "LCaptionTallies$Rounds;" ∈ lw_gt := wq_1 (i := 233) (by decide +kernel) rfl
theorem wv_CT_65 : Cond.classLink "CaptionTallies" 65 "CaptionTallies$Order" ∈ lw_gt := wq_1 (i := 180) (by decide +kernel) rfl
theorem wv_in_OR : Cond.instantiable "CaptionTallies$Order" 4 ∈ lw_gt := wq_1 (i := 181) (by decide +kernel) rfl
theorem wv_CT_67 : Cond.methodLink "CaptionTallies" 67 y_OR_init ∈ lw_gt := wq_1 (i := 182) (by decide +kernel) rfl
theorem wv_im_OR : Cond.instanceMethod y_OR_init ∈ lw_gt := wq_1 (i := 183) (by decide +kernel) rfl
theorem wv_CT_68 : Cond.fieldLink "CaptionTallies" 68 "CaptionTallies" "order" "LCaptionTallies$Order;" ∈ lw_gt := wq_1 (i := 234) (by decide +kernel) rfl
theorem wv_CT_72 : Cond.classLink "CaptionTallies" 72 "CaptionTallies$Shares" ∈ lw_gt := wq_1 (i := 199) (by decide +kernel) rfl
theorem wv_in_SH : Cond.instantiable "CaptionTallies$Shares" 2 ∈ lw_gt := wq_1 (i := 200) (by decide +kernel) rfl
theorem wv_CT_74 : Cond.methodLink "CaptionTallies" 74 y_SH_init ∈ lw_gt := wq_1 (i := 201) (by decide +kernel) rfl
theorem wv_im_SH : Cond.instanceMethod y_SH_init ∈ lw_gt := wq_1 (i := 202) (by decide +kernel) rfl
theorem wv_CT_75 : Cond.fieldLink "CaptionTallies" 75 "CaptionTallies" "shares" "LCaptionTallies$Shares;" ∈ lw_gt := wq_1 (i := 235) (by decide +kernel) rfl
theorem wv_CT_79 : Cond.classLink "CaptionTallies" 79 "CaptionTallies$Distances" ∈ lw_gt := wq_1 (i := 212) (by decide +kernel) rfl
theorem wv_in_DI : Cond.instantiable "CaptionTallies$Distances" 2 ∈ lw_gt := wq_1 (i := 213) (by decide +kernel) rfl
theorem wv_CT_81 : Cond.methodLink "CaptionTallies" 81 y_DI_init ∈ lw_gt := wq_1 (i := 214) (by decide +kernel) rfl
theorem wv_im_DI : Cond.instanceMethod y_DI_init ∈ lw_gt := wq_1 (i := 215) (by decide +kernel) rfl
theorem wv_CT_82 : Cond.fieldLink "CaptionTallies" 82 "CaptionTallies" "distances" "LCaptionTallies$Distances;" ∈ lw_gt := wq_1 (i := 236) (by decide +kernel) rfl
theorem wv_MO_1 : Cond.methodLink "CaptionTalliesModel" 1 Lib.objectInit ∈ lw_gt := wq_4 (i := 196) (by decide +kernel) rfl
theorem wv_MO_7 : Cond.fieldLink "CaptionTalliesModel" 7 "CaptionTalliesModel" "now" "[I" ∈ lw_gt := wq_4 (i := 197) (by decide +kernel) rfl
theorem wv_MO_13 : Cond.fieldLink "CaptionTalliesModel" 13 "CaptionTalliesModel" "slot" "[I" ∈ lw_gt := wq_4 (i := 198) (by decide +kernel) rfl
theorem wv_MO_16 : Cond.fieldLink "CaptionTalliesModel" 16 "CaptionTalliesModel" "history" "[I" ∈ lw_gt := wq_4 (i := 199) (by decide +kernel) rfl
theorem wv_MO_19 : Cond.fieldLink "CaptionTalliesModel" 19 "CaptionTalliesModel" "text" "[I" ∈ lw_gt := wq_4 (i := 200) (by decide +kernel) rfl
theorem wv_MO_22 : Cond.fieldLink "CaptionTalliesModel" 22 "CaptionTalliesModel" "head" "[I" ∈ lw_gt := wq_4 (i := 204) (by decide +kernel) rfl
theorem wv_MO_25 : Cond.fieldLink "CaptionTalliesModel" 25 "CaptionTalliesModel" "points" "[I" ∈ lw_gt := wq_4 (i := 205) (by decide +kernel) rfl
theorem wv_MO_28 : Cond.fieldLink "CaptionTalliesModel" 28 "CaptionTalliesModel" "firsts" "[I" ∈ lw_gt := wq_4 (i := 206) (by decide +kernel) rfl
theorem wv_MO_31 : Cond.fieldLink "CaptionTalliesModel" 31 "CaptionTalliesModel" "ranks" "[I" ∈ lw_gt := wq_4 (i := 207) (by decide +kernel) rfl
theorem wv_MO_34 : Cond.fieldLink "CaptionTalliesModel" 34 "CaptionTalliesModel" "outs" "[I" ∈ lw_gt := wq_4 (i := 208) (by decide +kernel) rfl
theorem wv_MO_37 : Cond.fieldLink "CaptionTalliesModel" 37 "CaptionTalliesModel" "rounds" "[I" ∈ lw_gt := wq_4 (i := 209) (by decide +kernel) rfl
theorem wv_MO_40 : Cond.fieldLink "CaptionTalliesModel" 40 "CaptionTalliesModel" "votes" "[I" ∈ lw_gt := wq_4 (i := 210) (by decide +kernel) rfl
theorem wv_MO_43 : Cond.fieldLink "CaptionTalliesModel" 43 "CaptionTalliesModel" "loose" "[I" ∈ lw_gt := wq_4 (i := 211) (by decide +kernel) rfl
theorem wv_MO_46 : Cond.fieldLink "CaptionTalliesModel" 46 "CaptionTalliesModel" "places" "[I" ∈ lw_gt := wq_4 (i := 212) (by decide +kernel) rfl
theorem wv_MO_49 : Cond.fieldLink "CaptionTalliesModel" 49 "CaptionTalliesModel" "order" "[I" ∈ lw_gt := wq_4 (i := 213) (by decide +kernel) rfl
theorem wv_MO_52 : Cond.fieldLink "CaptionTalliesModel" 52 "CaptionTalliesModel" "gets" "[I" ∈ lw_gt := wq_4 (i := 214) (by decide +kernel) rfl
theorem wv_MO_55 : Cond.fieldLink "CaptionTalliesModel" 55 "CaptionTalliesModel" "counted" "[I" ∈ lw_gt := wq_4 (i := 215) (by decide +kernel) rfl
theorem wv_MO_58 : Cond.fieldLink "CaptionTalliesModel" 58 "CaptionTalliesModel" "cores" "[I" ∈ lw_gt := wq_4 (i := 216) (by decide +kernel) rfl
theorem wv_MO_61 : Cond.fieldLink "CaptionTalliesModel" 61 "CaptionTalliesModel" "letters" "[I" ∈ lw_gt := wq_4 (i := 217) (by decide +kernel) rfl
theorem wv_MO_64 : Cond.fieldLink "CaptionTalliesModel" 64 "CaptionTalliesModel" "above" "[I" ∈ lw_gt := wq_4 (i := 218) (by decide +kernel) rfl
theorem wv_MO_67 : Cond.fieldLink "CaptionTalliesModel" 67 "CaptionTalliesModel" "here" "[I" ∈ lw_gt := wq_4 (i := 219) (by decide +kernel) rfl
theorem wv_aI : Cond.arrayClass .int ∈ lw_gt := wq_1 (i := 37) (by decide +kernel) rfl
theorem wv_aZ : Cond.arrayClass .boolean ∈ lw_gt := wq_1 (i := 87) (by decide +kernel) rfl
theorem wv_oi : Cond.instanceMethod Lib.objectInit ∈ lw_gt := wq_1 (i := 22) (by decide +kernel) rfl
set_option maxRecDepth 20000 in
theorem wv_oc : Cond.code Lib.objectInit ⟨#[0xb1]⟩ 1 none ∈ lw_gt := wq_1 (i := 23) rfl rfl
theorem wv_LW_7 : Cond.classLink "CaptionTalliesLaw" 7 "CaptionTallies" ∈ lw_gt := wq_1 (i := 16) (by decide +kernel) rfl
theorem wv_LW_10 : Cond.classLink "CaptionTalliesLaw" 10 "CaptionTalliesModel" ∈ lw_gt := wq_4 (i := 191) (by decide +kernel) rfl
theorem wv_LW_9 : Cond.methodLink "CaptionTalliesLaw" 9 y_CT_init ∈ lw_gt := wq_1 (i := 18) (by decide +kernel) rfl
theorem wv_LW_12 : Cond.methodLink "CaptionTalliesLaw" 12 y_MO_init ∈ lw_gt := wq_4 (i := 193) (by decide +kernel) rfl
theorem wv_in_CT : Cond.instantiable "CaptionTallies" 12 ∈ lw_gt := wq_1 (i := 17) (by decide +kernel) rfl
theorem wv_im_CT : Cond.instanceMethod y_CT_init ∈ lw_gt := wq_1 (i := 19) (by decide +kernel) rfl
theorem wv_in_MO : Cond.instantiable "CaptionTalliesModel" 24 ∈ lw_gt := wq_4 (i := 192) (by decide +kernel) rfl
theorem wv_im_MO : Cond.instanceMethod y_MO_init ∈ lw_gt := wq_4 (i := 194) (by decide +kernel) rfl
theorem df_DR : ∀ j, j < 2 → defaultValue (tt_DR j) = vp_V [.null, .int 0] j := fun j hj => by rcases (show j = 0 ∨ j = 1 by omega) with rfl | rfl <;> rfl
theorem wk_DR : cOK y_DR_init c_DR_init 1 none 0 := ⟨k_DR_init, wi_DR, ⟨by decide +kernel, by decide +kernel⟩, by decide +kernel⟩
def bDR (T3 : C3) (w : Nat → Nat) : va_W := [(w 0, .inr (1, [.ref (w 1), .int 0])), (w 1, .inl (T3.1, 60, .inl (fun _ => 0)))]
theorem df_ST : ∀ j, j < 13 → defaultValue (tt_ST j) = vp_V [.int 0, .null, .null, .null, .null, .null, .null, .null, .null, .null, .null, .null, .null] j := fun j hj => by rcases (show j = 0 ∨ j = 1 ∨ j = 2 ∨ j = 3 ∨ j = 4 ∨ j = 5 ∨ j = 6 ∨ j = 7 ∨ j = 8 ∨ j = 9 ∨ j = 10 ∨ j = 11 ∨ j = 12 by omega) with rfl | rfl | rfl | rfl | rfl | rfl | rfl | rfl | rfl | rfl | rfl | rfl | rfl <;> rfl
theorem wk_ST : cOK y_ST_init c_ST_init 1 none 0 := ⟨k_ST_init, wi_ST, ⟨by decide +kernel, by decide +kernel⟩, by decide +kernel⟩
def bST (T3 : C3) (w : Nat → Nat) : va_W := [(w 0, .inr (2, [.int 0, .ref (w 1), .ref (w 2), .ref (w 3), .ref (w 4), .ref (w 5), .ref (w 6), .ref (w 7), .ref (w 8), .ref (w 9), .ref (w 10), .ref (w 11), .ref (w 12)])), (w 1, .inl (T3.2.1, 20, .inl (fun _ => 0))), (w 2, .inl (T3.1, 20, .inl (fun _ => 0))), (w 3, .inl (T3.1, 1200, .inl (fun _ => 0))), (w 4, .inl (T3.1, 20, .inl (fun _ => 0))), (w 5, .inl (T3.1, 1200, .inl (fun _ => 0))), (w 6, .inl (T3.1, 20, .inl (fun _ => 0))), (w 7, .inl (T3.1, 20, .inl (fun _ => 0))), (w 8, .inl (T3.2.1, 400, .inl (fun _ => 0))), (w 11, .inl (T3.1, 3, .inl (upd (upd (upd (fun _ => 0) 0 0) 1 3) 2 0))), (w 12, .inl (T3.1, 5, .inl (upd (upd (upd (upd (upd (fun _ => 0) 0 100) 1 50) 2 20) 3 10) 4 5))), (w 9, .inl (T3.1, 36, .inl (fun _ => (-5)))), (w 10, .inl (T3.1, 60, .inl (fun _ => (-5))))]
theorem df_GR : ∀ j, j < 3 → defaultValue (tt_GR j) = vp_V [.null, .null, .int 0] j := fun j hj => by rcases (show j = 0 ∨ j = 1 ∨ j = 2 by omega) with rfl | rfl | rfl <;> rfl
theorem wk_GR : cOK y_GR_init c_GR_init 1 none 0 := ⟨k_GR_init, wi_GR, ⟨by decide +kernel, by decide +kernel⟩, by decide +kernel⟩
def bGR (T3 : C3) (w : Nat → Nat) : va_W := [(w 0, .inr (4, [.ref (w 1), .ref (w 2), .int 0])), (w 1, .inl (T3.1, 20, .inl (fun _ => 0))), (w 2, .inl (T3.1, 20, .inl (fun _ => 0)))]
theorem df_CO : ∀ j, j < 3 → defaultValue (tt_CO j) = vp_V [.null, .null, .null] j := fun j hj => by rcases (show j = 0 ∨ j = 1 ∨ j = 2 by omega) with rfl | rfl | rfl <;> rfl
theorem wk_CO : cOK y_CO_init c_CO_init 1 none 0 := ⟨k_CO_init, wi_CO, ⟨by decide +kernel, by decide +kernel⟩, by decide +kernel⟩
def bCO (T3 : C3) (w : Nat → Nat) : va_W := [(w 0, .inr (5, [.ref (w 1), .ref (w 2), .ref (w 3)])), (w 1, .inl (T3.1, 36, .inl (fun _ => 0))), (w 2, .inl (T3.1, 20, .inl (fun _ => 0))), (w 3, .inl (T3.1, 20, .inl (fun _ => 0)))]
theorem df_RA : ∀ j, j < 3 → defaultValue (tt_RA j) = vp_V [.null, .null, .null] j := fun j hj => by rcases (show j = 0 ∨ j = 1 ∨ j = 2 by omega) with rfl | rfl | rfl <;> rfl
theorem wk_RA : cOK y_RA_init c_RA_init 1 none 0 := ⟨k_RA_init, wi_RA, ⟨by decide +kernel, by decide +kernel⟩, by decide +kernel⟩
def bRA (T3 : C3) (w : Nat → Nat) : va_W := [(w 0, .inr (6, [.ref (w 1), .ref (w 2), .ref (w 3)])), (w 1, .inl (T3.1, 60, .inl (fun _ => 0))), (w 2, .inl (T3.1, 60, .inl (fun _ => 0))), (w 3, .inl (T3.1, 20, .inl (fun _ => 0)))]
theorem df_RO : ∀ j, j < 7 → defaultValue (tt_RO j) = vp_V [.null, .null, .null, .null, .null, .null, .int 0] j := fun j hj => by rcases (show j = 0 ∨ j = 1 ∨ j = 2 ∨ j = 3 ∨ j = 4 ∨ j = 5 ∨ j = 6 by omega) with rfl | rfl | rfl | rfl | rfl | rfl | rfl <;> rfl
theorem wk_RO : cOK y_RO_init c_RO_init 1 none 0 := ⟨k_RO_init, wi_RO, ⟨by decide +kernel, by decide +kernel⟩, by decide +kernel⟩
def bRO (T3 : C3) (w : Nat → Nat) : va_W := [(w 0, .inr (7, [.ref (w 1), .ref (w 2), .ref (w 3), .ref (w 4), .ref (w 5), .ref (w 6), .int 0])), (w 1, .inl (T3.2.1, 20, .inl (fun _ => 0))), (w 2, .inl (T3.1, 12, .inl (fun _ => 0))), (w 3, .inl (T3.1, 20, .inl (fun _ => 0))), (w 4, .inl (T3.1, 20, .inl (fun _ => 0))), (w 5, .inl (T3.1, 20, .inl (fun _ => 0))), (w 6, .inl (T3.1, 20, .inl (fun _ => 0)))]
theorem df_OR : ∀ j, j < 4 → defaultValue (tt_OR j) = vp_V [.null, .null, .null, .null] j := fun j hj => by rcases (show j = 0 ∨ j = 1 ∨ j = 2 ∨ j = 3 by omega) with rfl | rfl | rfl | rfl <;> rfl
theorem wk_OR : cOK y_OR_init c_OR_init 1 none 0 := ⟨k_OR_init, wi_OR, ⟨by decide +kernel, by decide +kernel⟩, by decide +kernel⟩
def bOR (T3 : C3) (w : Nat → Nat) : va_W := [(w 0, .inr (8, [.ref (w 1), .ref (w 2), .ref (w 3), .ref (w 4)])), (w 1, .inl (T3.2.1, 20, .inl (fun _ => 0))), (w 2, .inl (T3.1, 20, .inl (fun _ => 0))), (w 3, .inl (T3.1, 20, .inl (fun _ => 0))), (w 4, .inl (T3.1, 20, .inl (fun _ => 0)))]
theorem df_SH : ∀ j, j < 2 → defaultValue (tt_SH j) = vp_V [.null, .null] j := fun j hj => by rcases (show j = 0 ∨ j = 1 by omega) with rfl | rfl <;> rfl
theorem wk_SH : cOK y_SH_init c_SH_init 1 none 0 := ⟨k_SH_init, wi_SH, ⟨by decide +kernel, by decide +kernel⟩, by decide +kernel⟩
def bSH (T3 : C3) (w : Nat → Nat) : va_W := [(w 0, .inr (9, [.ref (w 1), .ref (w 2)])), (w 1, .inl (T3.1, 20, .inl (fun _ => 0))), (w 2, .inl (T3.1, 20, .inl (fun _ => 0)))]
theorem df_DI : ∀ j, j < 2 → defaultValue (tt_DI j) = vp_V [.null, .null] j := fun j hj => by rcases (show j = 0 ∨ j = 1 by omega) with rfl | rfl <;> rfl
theorem wk_DI : cOK y_DI_init c_DI_init 1 none 0 := ⟨k_DI_init, wi_DI, ⟨by decide +kernel, by decide +kernel⟩, by decide +kernel⟩
def bDI (T3 : C3) (w : Nat → Nat) : va_W := [(w 0, .inr (10, [.ref (w 1), .ref (w 2)])), (w 1, .inl (T3.1, 61, .inl (fun _ => 0))), (w 2, .inl (T3.1, 400, .inl (fun _ => 0)))]
theorem df_HI : ∀ j, j < 2 → defaultValue (tt_HI j) = vp_V [.null, .int 0] j := fun j hj => by rcases (show j = 0 ∨ j = 1 by omega) with rfl | rfl <;> rfl
theorem wk_HI : cOK y_HI_init c_HI_init 2 none 0 := ⟨k_HI_init, wi_HI, ⟨by decide +kernel, by decide +kernel⟩, by decide +kernel⟩
def bHI (T3 : C3) (w : Nat → Nat) : va_W := (w 0, .inr (3, [.ref (w 1), .int 0])) :: (w 1, .inl (T3.2.2, 4, .inr (.inr (.inr (.inr (va_up (va_up (va_up (va_up (fun _ => none) 0 (some (w 2))) 1 (some (w 15))) 2 (some (w 28))) 3 (some (w 41)))))))) :: (((bST T3 (fun k => w (2 + k)) ++ bST T3 (fun k => w (15 + k))) ++ bST T3 (fun k => w (28 + k))) ++ bST T3 (fun k => w (41 + k)))
theorem df_CT : ∀ j, j < 12 → defaultValue (tt_CT j) = vp_V [.null, .null, .null, .null, .int 0, .null, .null, .null, .null, .null, .null, .null] j := fun j hj => by rcases (show j = 0 ∨ j = 1 ∨ j = 2 ∨ j = 3 ∨ j = 4 ∨ j = 5 ∨ j = 6 ∨ j = 7 ∨ j = 8 ∨ j = 9 ∨ j = 10 ∨ j = 11 by omega) with rfl | rfl | rfl | rfl | rfl | rfl | rfl | rfl | rfl | rfl | rfl | rfl <;> rfl
theorem wk_CT : cOK y_CT_init c_CT_init 1 none 0 := ⟨k_CT_init, wi_CT, ⟨by decide +kernel, by decide +kernel⟩, by decide +kernel⟩
def bCT (T3 : C3) (w : Nat → Nat) : va_W := (w 0, .inr (0, [.ref (w 79), .ref (w 1), .ref (w 81), .ref (w 14), .int 0, .ref (w 83), .ref (w 86), .ref (w 90), .ref (w 94), .ref (w 101), .ref (w 106), .ref (w 109)])) :: ((((((((((bDR T3 (fun k => w (79 + k)) ++ bST T3 (fun k => w (1 + k))) ++ bHI T3 (fun k => if k < 2 then w (81 + k) else w (25 + k))) ++ bST T3 (fun k => w (14 + k))) ++ bGR T3 (fun k => w (83 + k))) ++ bCO T3 (fun k => w (86 + k))) ++ bRA T3 (fun k => w (90 + k))) ++ bRO T3 (fun k => w (94 + k))) ++ bOR T3 (fun k => w (101 + k))) ++ bSH T3 (fun k => w (106 + k))) ++ bDI T3 (fun k => w (109 + k)))
theorem df_MO : ∀ j, j < 24 → defaultValue (tt_MO j) = vp_V [.null, .null, .null, .null, .int 0, .int 0, .int 0, .null, .null, .null, .null, .null, .null, .null, .null, .null, .null, .null, .null, .null, .null, .null, .null, .int 0] j := fun j hj => by rcases (show j = 0 ∨ j = 1 ∨ j = 2 ∨ j = 3 ∨ j = 4 ∨ j = 5 ∨ j = 6 ∨ j = 7 ∨ j = 8 ∨ j = 9 ∨ j = 10 ∨ j = 11 ∨ j = 12 ∨ j = 13 ∨ j = 14 ∨ j = 15 ∨ j = 16 ∨ j = 17 ∨ j = 18 ∨ j = 19 ∨ j = 20 ∨ j = 21 ∨ j = 22 ∨ j = 23 by omega) with rfl | rfl | rfl | rfl | rfl | rfl | rfl | rfl | rfl | rfl | rfl | rfl | rfl | rfl | rfl | rfl | rfl | rfl | rfl | rfl | rfl | rfl | rfl | rfl <;> rfl
theorem wk_MO : cOK y_MO_init c_MO_init 1 none 0 := ⟨k_MO_init, wi_MO, ⟨by decide +kernel, by decide +kernel⟩, by decide +kernel⟩
def bMO (T3 : C3) (w : Nat → Nat) : va_W := [(w 0, .inr (11, [.ref (w 1), .ref (w 2), .ref (w 3), .ref (w 4), .int 0, .int 0, .int 0, .ref (w 5), .ref (w 6), .ref (w 7), .ref (w 8), .ref (w 9), .ref (w 10), .ref (w 11), .ref (w 12), .ref (w 13), .ref (w 14), .ref (w 15), .ref (w 16), .ref (w 17), .ref (w 18), .ref (w 19), .ref (w 20), .int 0])), (w 1, .inl (T3.1, 1385, .inl (upd (upd (upd (upd (upd (upd (fun _ => 0) 2 3) 4 100) 5 50) 6 20) 7 10) 8 5))), (w 2, .inl (T3.1, 1385, .inl (fun _ => 0))), (w 3, .inl (T3.1, 5540, .inl (fun _ => 0))), (w 4, .inl (T3.1, 60, .inl (fun _ => 0))), (w 5, .inl (T3.1, 20, .inl (fun _ => 0))), (w 6, .inl (T3.1, 20, .inl (fun _ => 0))), (w 7, .inl (T3.1, 20, .inl (fun _ => 0))), (w 8, .inl (T3.1, 20, .inl (fun _ => 0))), (w 9, .inl (T3.1, 20, .inl (fun _ => 0))), (w 10, .inl (T3.1, 20, .inl (fun _ => 0))), (w 11, .inl (T3.1, 20, .inl (fun _ => 0))), (w 12, .inl (T3.1, 20, .inl (fun _ => 0))), (w 13, .inl (T3.1, 20, .inl (fun _ => 0))), (w 14, .inl (T3.1, 20, .inl (fun _ => 0))), (w 15, .inl (T3.1, 20, .inl (fun _ => 0))), (w 16, .inl (T3.1, 36, .inl (fun _ => 0))), (w 17, .inl (T3.1, 1200, .inl (fun _ => 0))), (w 18, .inl (T3.1, 20, .inl (fun _ => 0))), (w 19, .inl (T3.1, 61, .inl (fun _ => 0))), (w 20, .inl (T3.1, 61, .inl (fun _ => 0)))]
