theorem wi_CT : Cond.initialized "CaptionTallies" ∈ lw_gt := wq_1 (i := 1) (by decide +kernel) rfl
theorem wi_DR : Cond.initialized "CaptionTallies$Draft" ∈ lw_gt := wq_1 (i := 2) (by decide +kernel) rfl
theorem wi_ST : Cond.initialized "CaptionTallies$State" ∈ lw_gt := wq_1 (i := 3) (by decide +kernel) rfl
theorem wi_HI : Cond.initialized "CaptionTallies$History" ∈ lw_gt := wq_1 (i := 5) (by decide +kernel) rfl
theorem wi_GR : Cond.initialized "CaptionTallies$Groups" ∈ lw_gt := wq_1 (i := 6) (by decide +kernel) rfl
theorem wi_CO : Cond.initialized "CaptionTallies$Counts" ∈ lw_gt := wq_1 (i := 7) (by decide +kernel) rfl
theorem wi_RA : Cond.initialized "CaptionTallies$Ranks" ∈ lw_gt := wq_1 (i := 8) (by decide +kernel) rfl
theorem wi_RO : Cond.initialized "CaptionTallies$Rounds" ∈ lw_gt := wq_1 (i := 9) (by decide +kernel) rfl
theorem wi_OR : Cond.initialized "CaptionTallies$Order" ∈ lw_gt := wq_1 (i := 10) (by decide +kernel) rfl
theorem wi_SH : Cond.initialized "CaptionTallies$Shares" ∈ lw_gt := wq_1 (i := 11) (by decide +kernel) rfl
theorem wi_DI : Cond.initialized "CaptionTallies$Distances" ∈ lw_gt := wq_1 (i := 12) (by decide +kernel) rfl
theorem wi_MO : Cond.initialized "CaptionTalliesModel" ∈ lw_gt := wq_1 (i := 13) (by decide +kernel) rfl
theorem wi_LW : Cond.initialized "CaptionTalliesLaw" ∈ lw_gt := wq_1 (i := 0) (by decide +kernel) rfl
theorem wi_AR : Cond.initialized "java/util/Arrays" ∈ lw_gt := wq_1 (i := 4) (by decide +kernel) rfl
theorem wi_MA : Cond.initialized "java/lang/Math" ∈ lw_gt := wq_1 (i := 14) (by decide +kernel) rfl
theorem wi_SY : Cond.initialized "java/lang/System" ∈ lw_gt := wq_1 (i := 15) (by decide +kernel) rfl
theorem wn_CT_isIndex : Cond.static y_CT_isIndex ∈ lw_gt := wq_2 (i := 27) (by decide +kernel) rfl
theorem wn_CT_isGreat : Cond.static y_CT_isGreat ∈ lw_gt := wq_2 (i := 47) (by decide +kernel) rfl
theorem wn_CT_isSmall : Cond.static y_CT_isSmall ∈ lw_gt := wq_2 (i := 44) (by decide +kernel) rfl
theorem wn_CT_isLetter : Cond.static y_CT_isLetter ∈ lw_gt := wq_2 (i := 41) (by decide +kernel) rfl
theorem wn_CT_isSign : Cond.static y_CT_isSign ∈ lw_gt := wq_2 (i := 50) (by decide +kernel) rfl
theorem wn_CT_at : Cond.static y_CT_at ∈ lw_gt := wq_2 (i := 38) (by decide +kernel) rfl
theorem wn_DR_codeAt : Cond.instanceMethod y_DR_codeAt ∈ lw_gt := wq_2 (i := 34) (by decide +kernel) rfl
theorem wse_DR_codeAt : Cond.selects y_DR_codeAt.cls y_DR_codeAt y_DR_codeAt ∈ lw_gt := wq_2 (i := 35) (by decide +kernel) rfl
theorem wn_DR_firstFault : Cond.instanceMethod y_DR_firstFault ∈ lw_gt := wq_2 (i := 30) (by decide +kernel) rfl
theorem wse_DR_firstFault : Cond.selects y_DR_firstFault.cls y_DR_firstFault y_DR_firstFault ∈ lw_gt := wq_2 (i := 31) (by decide +kernel) rfl
theorem wn_HI_dropOldest : Cond.instanceMethod y_HI_dropOldest ∈ lw_gt := wq_2 (i := 62) (by decide +kernel) rfl
theorem wse_HI_dropOldest : Cond.selects y_HI_dropOldest.cls y_HI_dropOldest y_HI_dropOldest ∈ lw_gt := wq_s (by decide +kernel) rfl
theorem wn_CT_copyFlags : Cond.static y_CT_copyFlags ∈ lw_gt := wq_2 (i := 70) (by decide +kernel) rfl
theorem wn_CT_copyRow : Cond.static y_CT_copyRow ∈ lw_gt := wq_2 (i := 79) (by decide +kernel) rfl
theorem wn_ST_copyFrom : Cond.instanceMethod y_ST_copyFrom ∈ lw_gt := wq_2 (i := 66) (by decide +kernel) rfl
theorem wse_ST_copyFrom : Cond.selects y_ST_copyFrom.cls y_ST_copyFrom y_ST_copyFrom ∈ lw_gt := wq_2 (i := 67) (by decide +kernel) rfl
theorem wn_HI_record : Cond.instanceMethod y_HI_record ∈ lw_gt := wq_2 (i := 57) (by decide +kernel) rfl
theorem wse_HI_record : Cond.selects y_HI_record.cls y_HI_record y_HI_record ∈ lw_gt := wq_2 (i := 58) (by decide +kernel) rfl
theorem wn_DR_length : Cond.instanceMethod y_DR_length ∈ lw_gt := wq_2 (i := 87) (by decide +kernel) rfl
theorem wse_DR_length : Cond.selects y_DR_length.cls y_DR_length y_DR_length ∈ lw_gt := wq_2 (i := 88) (by decide +kernel) rfl
theorem wn_CT_put : Cond.static y_CT_put ∈ lw_gt := wq_2 (i := 97) (by decide +kernel) rfl
theorem wn_CT_smallOf : Cond.static y_CT_smallOf ∈ lw_gt := wq_2 (i := 106) (by decide +kernel) rfl
theorem wn_ST_coreLengthOf : Cond.instanceMethod y_ST_coreLengthOf ∈ lw_gt := wq_2 (i := 101) (by decide +kernel) rfl
theorem wse_ST_coreLengthOf : Cond.selects y_ST_coreLengthOf.cls y_ST_coreLengthOf y_ST_coreLengthOf ∈ lw_gt := wq_2 (i := 102) (by decide +kernel) rfl
theorem wn_ST_addLetter : Cond.instanceMethod y_ST_addLetter ∈ lw_gt := wq_2 (i := 94) (by decide +kernel) rfl
theorem wse_ST_addLetter : Cond.selects y_ST_addLetter.cls y_ST_addLetter y_ST_addLetter ∈ lw_gt := wq_s (by decide +kernel) rfl
theorem wn_ST_coreLetter : Cond.instanceMethod y_ST_coreLetter ∈ lw_gt := wq_2 (i := 117) (by decide +kernel) rfl
theorem wse_ST_coreLetter : Cond.selects y_ST_coreLetter.cls y_ST_coreLetter y_ST_coreLetter ∈ lw_gt := wq_2 (i := 118) (by decide +kernel) rfl
theorem wn_ST_haveSameCore : Cond.instanceMethod y_ST_haveSameCore ∈ lw_gt := wq_2 (i := 114) (by decide +kernel) rfl
theorem wse_ST_haveSameCore : Cond.selects y_ST_haveSameCore.cls y_ST_haveSameCore y_ST_haveSameCore ∈ lw_gt := wq_s (by decide +kernel) rfl
theorem wn_ST_firstWithCoreOf : Cond.instanceMethod y_ST_firstWithCoreOf ∈ lw_gt := wq_2 (i := 110) (by decide +kernel) rfl
theorem wse_ST_firstWithCoreOf : Cond.selects y_ST_firstWithCoreOf.cls y_ST_firstWithCoreOf y_ST_firstWithCoreOf ∈ lw_gt := wq_s (by decide +kernel) rfl
theorem wn_ST_add : Cond.instanceMethod y_ST_add ∈ lw_gt := wq_2 (i := 82) (by decide +kernel) rfl
theorem wse_ST_add : Cond.selects y_ST_add.cls y_ST_add y_ST_add ∈ lw_gt := wq_2 (i := 83) (by decide +kernel) rfl
theorem wn_ST_captionsSoFar : Cond.instanceMethod y_ST_captionsSoFar ∈ lw_gt := wq_2 (i := 53) (by decide +kernel) rfl
theorem wse_ST_captionsSoFar : Cond.selects y_ST_captionsSoFar.cls y_ST_captionsSoFar y_ST_captionsSoFar ∈ lw_gt := wq_2 (i := 54) (by decide +kernel) rfl
theorem wn_CT_submit : Cond.instanceMethod y_CT_submit ∈ lw_gt := wq_2 (i := 23) (by decide +kernel) rfl
theorem wse_CT_submit : Cond.selects y_CT_submit.cls y_CT_submit y_CT_submit ∈ lw_gt := wq_2 (i := 24) (by decide +kernel) rfl
theorem wn_ST_isIn : Cond.instanceMethod y_ST_isIn ∈ lw_gt := wq_2 (i := 125) (by decide +kernel) rfl
theorem wse_ST_isIn : Cond.selects y_ST_isIn.cls y_ST_isIn y_ST_isIn ∈ lw_gt := wq_2 (i := 126) (by decide +kernel) rfl
theorem wn_ST_captionsIn : Cond.instanceMethod y_ST_captionsIn ∈ lw_gt := wq_2 (i := 133) (by decide +kernel) rfl
theorem wse_ST_captionsIn : Cond.selects y_ST_captionsIn.cls y_ST_captionsIn y_ST_captionsIn ∈ lw_gt := wq_2 (i := 134) (by decide +kernel) rfl
theorem wn_ST_takeOut : Cond.instanceMethod y_ST_takeOut ∈ lw_gt := wq_2 (i := 129) (by decide +kernel) rfl
theorem wse_ST_takeOut : Cond.selects y_ST_takeOut.cls y_ST_takeOut y_ST_takeOut ∈ lw_gt := wq_2 (i := 130) (by decide +kernel) rfl
theorem wn_CT_withdraw : Cond.instanceMethod y_CT_withdraw ∈ lw_gt := wq_2 (i := 121) (by decide +kernel) rfl
theorem wse_CT_withdraw : Cond.selects y_CT_withdraw.cls y_CT_withdraw y_CT_withdraw ∈ lw_gt := wq_2 (i := 122) (by decide +kernel) rfl
theorem wn_AR_fill : Cond.static y_AR_fill ∈ lw_gt := wq_1 (i := 45) (by decide +kernel) rfl
theorem wn_ST_areAlike : Cond.instanceMethod y_ST_areAlike ∈ lw_gt := wq_2 (i := 160) (by decide +kernel) rfl
theorem wse_ST_areAlike : Cond.selects y_ST_areAlike.cls y_ST_areAlike y_ST_areAlike ∈ lw_gt := wq_2 (i := 161) (by decide +kernel) rfl
theorem wn_ST_areLinked : Cond.instanceMethod y_ST_areLinked ∈ lw_gt := wq_2 (i := 156) (by decide +kernel) rfl
theorem wse_ST_areLinked : Cond.selects y_ST_areLinked.cls y_ST_areLinked y_ST_areLinked ∈ lw_gt := wq_2 (i := 157) (by decide +kernel) rfl
theorem wn_GR_areTied : Cond.static y_GR_areTied ∈ lw_gt := wq_2 (i := 153) (by decide +kernel) rfl
theorem wn_GR_gather : Cond.instanceMethod y_GR_gather ∈ lw_gt := wq_2 (i := 149) (by decide +kernel) rfl
theorem wse_GR_gather : Cond.selects y_GR_gather.cls y_GR_gather y_GR_gather ∈ lw_gt := wq_s (by decide +kernel) rfl
theorem wn_GR_find : Cond.instanceMethod y_GR_find ∈ lw_gt := wq_2 (i := 142) (by decide +kernel) rfl
theorem wse_GR_find : Cond.selects y_GR_find.cls y_GR_find y_GR_find ∈ lw_gt := wq_2 (i := 143) (by decide +kernel) rfl
theorem wn_GR_headOf : Cond.instanceMethod y_GR_headOf ∈ lw_gt := wq_2 (i := 164) (by decide +kernel) rfl
theorem wse_GR_headOf : Cond.selects y_GR_headOf.cls y_GR_headOf y_GR_headOf ∈ lw_gt := wq_2 (i := 165) (by decide +kernel) rfl
theorem wn_ST_putLink : Cond.instanceMethod y_ST_putLink ∈ lw_gt := wq_2 (i := 174) (by decide +kernel) rfl
theorem wse_ST_putLink : Cond.selects y_ST_putLink.cls y_ST_putLink y_ST_putLink ∈ lw_gt := wq_s (by decide +kernel) rfl
theorem wn_ST_link : Cond.instanceMethod y_ST_link ∈ lw_gt := wq_2 (i := 169) (by decide +kernel) rfl
theorem wse_ST_link : Cond.selects y_ST_link.cls y_ST_link y_ST_link ∈ lw_gt := wq_2 (i := 170) (by decide +kernel) rfl
theorem wn_CT_join : Cond.instanceMethod y_CT_join ∈ lw_gt := wq_2 (i := 138) (by decide +kernel) rfl
theorem wse_CT_join : Cond.selects y_CT_join.cls y_CT_join y_CT_join ∈ lw_gt := wq_2 (i := 139) (by decide +kernel) rfl
theorem wn_ST_cutLinks : Cond.instanceMethod y_ST_cutLinks ∈ lw_gt := wq_2 (i := 186) (by decide +kernel) rfl
theorem wse_ST_cutLinks : Cond.selects y_ST_cutLinks.cls y_ST_cutLinks y_ST_cutLinks ∈ lw_gt := wq_2 (i := 187) (by decide +kernel) rfl
theorem wn_ST_hasLinks : Cond.instanceMethod y_ST_hasLinks ∈ lw_gt := wq_2 (i := 181) (by decide +kernel) rfl
theorem wse_ST_hasLinks : Cond.selects y_ST_hasLinks.cls y_ST_hasLinks y_ST_hasLinks ∈ lw_gt := wq_2 (i := 182) (by decide +kernel) rfl
theorem wn_CT_part : Cond.instanceMethod y_CT_part ∈ lw_gt := wq_2 (i := 177) (by decide +kernel) rfl
theorem wse_CT_part : Cond.selects y_CT_part.cls y_CT_part y_CT_part ∈ lw_gt := wq_2 (i := 178) (by decide +kernel) rfl
theorem wn_CT_hasGap : Cond.static y_CT_hasGap ∈ lw_gt := wq_2 (i := 198) (by decide +kernel) rfl
theorem wn_CT_isTwice : Cond.static y_CT_isTwice ∈ lw_gt := wq_2 (i := 201) (by decide +kernel) rfl
theorem wn_CT_isWish : Cond.instanceMethod y_CT_isWish ∈ lw_gt := wq_2 (i := 195) (by decide +kernel) rfl
theorem wse_CT_isWish : Cond.selects y_CT_isWish.cls y_CT_isWish y_CT_isWish ∈ lw_gt := wq_s (by decide +kernel) rfl
theorem wn_ST_fillIn : Cond.instanceMethod y_ST_fillIn ∈ lw_gt := wq_2 (i := 212) (by decide +kernel) rfl
theorem wse_ST_fillIn : Cond.selects y_ST_fillIn.cls y_ST_fillIn y_ST_fillIn ∈ lw_gt := wq_2 (i := 213) (by decide +kernel) rfl
theorem wn_ST_wish : Cond.instanceMethod y_ST_wish ∈ lw_gt := wq_2 (i := 208) (by decide +kernel) rfl
theorem wse_ST_wish : Cond.selects y_ST_wish.cls y_ST_wish y_ST_wish ∈ lw_gt := wq_2 (i := 209) (by decide +kernel) rfl
theorem wn_ST_isFilledIn : Cond.instanceMethod y_ST_isFilledIn ∈ lw_gt := wq_2 (i := 204) (by decide +kernel) rfl
theorem wse_ST_isFilledIn : Cond.selects y_ST_isFilledIn.cls y_ST_isFilledIn y_ST_isFilledIn ∈ lw_gt := wq_2 (i := 205) (by decide +kernel) rfl
theorem wn_ST_wishesOf : Cond.instanceMethod y_ST_wishesOf ∈ lw_gt := wq_2 (i := 216) (by decide +kernel) rfl
theorem wse_ST_wishesOf : Cond.selects y_ST_wishesOf.cls y_ST_wishesOf y_ST_wishesOf ∈ lw_gt := wq_2 (i := 217) (by decide +kernel) rfl
theorem wn_CT_vote : Cond.instanceMethod y_CT_vote ∈ lw_gt := wq_2 (i := 190) (by decide +kernel) rfl
theorem wse_CT_vote : Cond.selects y_CT_vote.cls y_CT_vote y_CT_vote ∈ lw_gt := wq_2 (i := 191) (by decide +kernel) rfl
theorem wn_RA_pointsBy : Cond.instanceMethod y_RA_pointsBy ∈ lw_gt := wq_3 (i := 2) (by decide +kernel) rfl
theorem wse_RA_pointsBy : Cond.selects y_RA_pointsBy.cls y_RA_pointsBy y_RA_pointsBy ∈ lw_gt := wq_3 (i := 3) (by decide +kernel) rfl
theorem wn_ST_pointsBy : Cond.instanceMethod y_ST_pointsBy ∈ lw_gt := wq_2 (i := 224) (by decide +kernel) rfl
theorem wse_ST_pointsBy : Cond.selects y_ST_pointsBy.cls y_ST_pointsBy y_ST_pointsBy ∈ lw_gt := wq_2 (i := 225) (by decide +kernel) rfl
theorem wn_RA_fillPoints : Cond.instanceMethod y_RA_fillPoints ∈ lw_gt := wq_2 (i := 238) (by decide +kernel) rfl
theorem wse_RA_fillPoints : Cond.selects y_RA_fillPoints.cls y_RA_fillPoints y_RA_fillPoints ∈ lw_gt := wq_s (by decide +kernel) rfl
theorem wn_GR_isHead : Cond.instanceMethod y_GR_isHead ∈ lw_gt := wq_3 (i := 16) (by decide +kernel) rfl
theorem wse_GR_isHead : Cond.selects y_GR_isHead.cls y_GR_isHead y_GR_isHead ∈ lw_gt := wq_3 (i := 17) (by decide +kernel) rfl
theorem wn_RA_groupsWithMore : Cond.instanceMethod y_RA_groupsWithMore ∈ lw_gt := wq_3 (i := 22) (by decide +kernel) rfl
theorem wse_RA_groupsWithMore : Cond.selects y_RA_groupsWithMore.cls y_RA_groupsWithMore y_RA_groupsWithMore ∈ lw_gt := wq_s (by decide +kernel) rfl
theorem wn_RA_fillRanks : Cond.instanceMethod y_RA_fillRanks ∈ lw_gt := wq_3 (i := 13) (by decide +kernel) rfl
theorem wse_RA_fillRanks : Cond.selects y_RA_fillRanks.cls y_RA_fillRanks y_RA_fillRanks ∈ lw_gt := wq_s (by decide +kernel) rfl
theorem wn_RA_fill : Cond.instanceMethod y_RA_fill ∈ lw_gt := wq_2 (i := 232) (by decide +kernel) rfl
theorem wse_RA_fill : Cond.selects y_RA_fill.cls y_RA_fill y_RA_fill ∈ lw_gt := wq_2 (i := 233) (by decide +kernel) rfl
theorem wn_RA_rankBy : Cond.instanceMethod y_RA_rankBy ∈ lw_gt := wq_3 (i := 25) (by decide +kernel) rfl
theorem wse_RA_rankBy : Cond.selects y_RA_rankBy.cls y_RA_rankBy y_RA_rankBy ∈ lw_gt := wq_3 (i := 26) (by decide +kernel) rfl
theorem wn_ST_givePoints : Cond.instanceMethod y_ST_givePoints ∈ lw_gt := wq_2 (i := 228) (by decide +kernel) rfl
theorem wse_ST_givePoints : Cond.selects y_ST_givePoints.cls y_ST_givePoints y_ST_givePoints ∈ lw_gt := wq_2 (i := 229) (by decide +kernel) rfl
theorem wn_CT_score : Cond.instanceMethod y_CT_score ∈ lw_gt := wq_2 (i := 220) (by decide +kernel) rfl
theorem wse_CT_score : Cond.selects y_CT_score.cls y_CT_score y_CT_score ∈ lw_gt := wq_2 (i := 221) (by decide +kernel) rfl
theorem wn_CT_mostOf : Cond.static y_CT_mostOf ∈ lw_gt := wq_3 (i := 33) (by decide +kernel) rfl
theorem wn_ST_changeSetting : Cond.instanceMethod y_ST_changeSetting ∈ lw_gt := wq_3 (i := 40) (by decide +kernel) rfl
theorem wse_ST_changeSetting : Cond.selects y_ST_changeSetting.cls y_ST_changeSetting y_ST_changeSetting ∈ lw_gt := wq_3 (i := 41) (by decide +kernel) rfl
theorem wn_ST_setting : Cond.instanceMethod y_ST_setting ∈ lw_gt := wq_3 (i := 36) (by decide +kernel) rfl
theorem wse_ST_setting : Cond.selects y_ST_setting.cls y_ST_setting y_ST_setting ∈ lw_gt := wq_3 (i := 37) (by decide +kernel) rfl
theorem wn_CT_set : Cond.instanceMethod y_CT_set ∈ lw_gt := wq_3 (i := 29) (by decide +kernel) rfl
theorem wse_CT_set : Cond.selects y_CT_set.cls y_CT_set y_CT_set ∈ lw_gt := wq_3 (i := 30) (by decide +kernel) rfl
theorem wn_ST_changePrize : Cond.instanceMethod y_ST_changePrize ∈ lw_gt := wq_3 (i := 52) (by decide +kernel) rfl
theorem wse_ST_changePrize : Cond.selects y_ST_changePrize.cls y_ST_changePrize y_ST_changePrize ∈ lw_gt := wq_3 (i := 53) (by decide +kernel) rfl
theorem wn_ST_prizeOf : Cond.instanceMethod y_ST_prizeOf ∈ lw_gt := wq_3 (i := 48) (by decide +kernel) rfl
theorem wse_ST_prizeOf : Cond.selects y_ST_prizeOf.cls y_ST_prizeOf y_ST_prizeOf ∈ lw_gt := wq_3 (i := 49) (by decide +kernel) rfl
theorem wn_CT_prize : Cond.instanceMethod y_CT_prize ∈ lw_gt := wq_3 (i := 44) (by decide +kernel) rfl
theorem wse_CT_prize : Cond.selects y_CT_prize.cls y_CT_prize y_CT_prize ∈ lw_gt := wq_3 (i := 45) (by decide +kernel) rfl
theorem wn_DR_append : Cond.instanceMethod y_DR_append ∈ lw_gt := wq_3 (i := 61) (by decide +kernel) rfl
theorem wse_DR_append : Cond.selects y_DR_append.cls y_DR_append y_DR_append ∈ lw_gt := wq_3 (i := 62) (by decide +kernel) rfl
theorem wn_CT_type : Cond.instanceMethod y_CT_type ∈ lw_gt := wq_3 (i := 56) (by decide +kernel) rfl
theorem wse_CT_type : Cond.selects y_CT_type.cls y_CT_type y_CT_type ∈ lw_gt := wq_3 (i := 57) (by decide +kernel) rfl
theorem wn_DR_empty : Cond.instanceMethod y_DR_empty ∈ lw_gt := wq_3 (i := 70) (by decide +kernel) rfl
theorem wse_DR_empty : Cond.selects y_DR_empty.cls y_DR_empty y_DR_empty ∈ lw_gt := wq_3 (i := 71) (by decide +kernel) rfl
theorem wn_CT_clearText : Cond.instanceMethod y_CT_clearText ∈ lw_gt := wq_3 (i := 66) (by decide +kernel) rfl
theorem wse_CT_clearText : Cond.selects y_CT_clearText.cls y_CT_clearText y_CT_clearText ∈ lw_gt := wq_3 (i := 67) (by decide +kernel) rfl
theorem wn_HI_size : Cond.instanceMethod y_HI_size ∈ lw_gt := wq_3 (i := 78) (by decide +kernel) rfl
theorem wse_HI_size : Cond.selects y_HI_size.cls y_HI_size y_HI_size ∈ lw_gt := wq_3 (i := 79) (by decide +kernel) rfl
theorem wn_HI_takeBack : Cond.instanceMethod y_HI_takeBack ∈ lw_gt := wq_3 (i := 82) (by decide +kernel) rfl
theorem wse_HI_takeBack : Cond.selects y_HI_takeBack.cls y_HI_takeBack y_HI_takeBack ∈ lw_gt := wq_3 (i := 83) (by decide +kernel) rfl
theorem wn_CT_undo : Cond.instanceMethod y_CT_undo ∈ lw_gt := wq_3 (i := 74) (by decide +kernel) rfl
theorem wse_CT_undo : Cond.selects y_CT_undo.cls y_CT_undo y_CT_undo ∈ lw_gt := wq_3 (i := 75) (by decide +kernel) rfl
theorem wn_CT_keep : Cond.instanceMethod y_CT_keep ∈ lw_gt := wq_3 (i := 86) (by decide +kernel) rfl
theorem wse_CT_keep : Cond.selects y_CT_keep.cls y_CT_keep y_CT_keep ∈ lw_gt := wq_3 (i := 87) (by decide +kernel) rfl
theorem wn_CT_restore : Cond.instanceMethod y_CT_restore ∈ lw_gt := wq_3 (i := 91) (by decide +kernel) rfl
theorem wse_CT_restore : Cond.selects y_CT_restore.cls y_CT_restore y_CT_restore ∈ lw_gt := wq_3 (i := 92) (by decide +kernel) rfl
theorem wn_CO_firstsOf : Cond.instanceMethod y_CO_firstsOf ∈ lw_gt := wq_3 (i := 141) (by decide +kernel) rfl
theorem wse_CO_firstsOf : Cond.selects y_CO_firstsOf.cls y_CO_firstsOf y_CO_firstsOf ∈ lw_gt := wq_3 (i := 142) (by decide +kernel) rfl
theorem wn_CO_wish : Cond.instanceMethod y_CO_wish ∈ lw_gt := wq_3 (i := 131) (by decide +kernel) rfl
theorem wse_CO_wish : Cond.selects y_CO_wish.cls y_CO_wish y_CO_wish ∈ lw_gt := wq_3 (i := 132) (by decide +kernel) rfl
theorem wn_CO_hasGroup : Cond.instanceMethod y_CO_hasGroup ∈ lw_gt := wq_3 (i := 128) (by decide +kernel) rfl
theorem wse_CO_hasGroup : Cond.selects y_CO_hasGroup.cls y_CO_hasGroup y_CO_hasGroup ∈ lw_gt := wq_s (by decide +kernel) rfl
theorem wn_CO_pointsOf : Cond.instanceMethod y_CO_pointsOf ∈ lw_gt := wq_3 (i := 137) (by decide +kernel) rfl
theorem wse_CO_pointsOf : Cond.selects y_CO_pointsOf.cls y_CO_pointsOf y_CO_pointsOf ∈ lw_gt := wq_3 (i := 138) (by decide +kernel) rfl
theorem wn_CO_fillBallot : Cond.instanceMethod y_CO_fillBallot ∈ lw_gt := wq_3 (i := 122) (by decide +kernel) rfl
theorem wse_CO_fillBallot : Cond.selects y_CO_fillBallot.cls y_CO_fillBallot y_CO_fillBallot ∈ lw_gt := wq_s (by decide +kernel) rfl
theorem wn_CO_fill : Cond.instanceMethod y_CO_fill ∈ lw_gt := wq_3 (i := 116) (by decide +kernel) rfl
theorem wse_CO_fill : Cond.selects y_CO_fill.cls y_CO_fill y_CO_fill ∈ lw_gt := wq_3 (i := 117) (by decide +kernel) rfl
theorem wn_RA_sumOf : Cond.instanceMethod y_RA_sumOf ∈ lw_gt := wq_3 (i := 184) (by decide +kernel) rfl
theorem wse_RA_sumOf : Cond.selects y_RA_sumOf.cls y_RA_sumOf y_RA_sumOf ∈ lw_gt := wq_3 (i := 185) (by decide +kernel) rfl
theorem wn_CT_scoreOf : Cond.instanceMethod y_CT_scoreOf ∈ lw_gt := wq_3 (i := 212) (by decide +kernel) rfl
theorem wse_CT_scoreOf : Cond.selects y_CT_scoreOf.cls y_CT_scoreOf y_CT_scoreOf ∈ lw_gt := wq_s (by decide +kernel) rfl
theorem wn_RO_roundOf : Cond.instanceMethod y_RO_roundOf ∈ lw_gt := wq_3 (i := 206) (by decide +kernel) rfl
theorem wse_RO_roundOf : Cond.selects y_RO_roundOf.cls y_RO_roundOf y_RO_roundOf ∈ lw_gt := wq_3 (i := 207) (by decide +kernel) rfl
theorem wn_CT_keyOf : Cond.instanceMethod y_CT_keyOf ∈ lw_gt := wq_3 (i := 203) (by decide +kernel) rfl
theorem wse_CT_keyOf : Cond.selects y_CT_keyOf.cls y_CT_keyOf y_CT_keyOf ∈ lw_gt := wq_s (by decide +kernel) rfl
theorem wn_OR_clearKeys : Cond.instanceMethod y_OR_clearKeys ∈ lw_gt := wq_3 (i := 197) (by decide +kernel) rfl
theorem wse_OR_clearKeys : Cond.selects y_OR_clearKeys.cls y_OR_clearKeys y_OR_clearKeys ∈ lw_gt := wq_3 (i := 198) (by decide +kernel) rfl
theorem wn_OR_giveKey : Cond.instanceMethod y_OR_giveKey ∈ lw_gt := wq_3 (i := 218) (by decide +kernel) rfl
theorem wse_OR_giveKey : Cond.selects y_OR_giveKey.cls y_OR_giveKey y_OR_giveKey ∈ lw_gt := wq_3 (i := 219) (by decide +kernel) rfl
theorem wn_CT_fillKeys : Cond.instanceMethod y_CT_fillKeys ∈ lw_gt := wq_3 (i := 194) (by decide +kernel) rfl
theorem wse_CT_fillKeys : Cond.selects y_CT_fillKeys.cls y_CT_fillKeys y_CT_fillKeys ∈ lw_gt := wq_s (by decide +kernel) rfl
theorem wn_OR_groupsAhead : Cond.instanceMethod y_OR_groupsAhead ∈ lw_gt := wq_3 (i := 229) (by decide +kernel) rfl
theorem wse_OR_groupsAhead : Cond.selects y_OR_groupsAhead.cls y_OR_groupsAhead y_OR_groupsAhead ∈ lw_gt := wq_s (by decide +kernel) rfl
theorem wn_OR_tiedBelow : Cond.instanceMethod y_OR_tiedBelow ∈ lw_gt := wq_3 (i := 233) (by decide +kernel) rfl
theorem wse_OR_tiedBelow : Cond.selects y_OR_tiedBelow.cls y_OR_tiedBelow y_OR_tiedBelow ∈ lw_gt := wq_3 (i := 234) (by decide +kernel) rfl
theorem wn_OR_fill : Cond.instanceMethod y_OR_fill ∈ lw_gt := wq_3 (i := 223) (by decide +kernel) rfl
theorem wse_OR_fill : Cond.selects y_OR_fill.cls y_OR_fill y_OR_fill ∈ lw_gt := wq_3 (i := 224) (by decide +kernel) rfl
theorem wn_GR_number : Cond.instanceMethod y_GR_number ∈ lw_gt := wq_3 (i := 155) (by decide +kernel) rfl
theorem wse_GR_number : Cond.selects y_GR_number.cls y_GR_number y_GR_number ∈ lw_gt := wq_3 (i := 156) (by decide +kernel) rfl
theorem wn_RO_ballotsFor : Cond.instanceMethod y_RO_ballotsFor ∈ lw_gt := wq_3 (i := 181) (by decide +kernel) rfl
theorem wse_RO_ballotsFor : Cond.selects y_RO_ballotsFor.cls y_RO_ballotsFor y_RO_ballotsFor ∈ lw_gt := wq_s (by decide +kernel) rfl
theorem wn_RO_beginWith : Cond.instanceMethod y_RO_beginWith ∈ lw_gt := wq_3 (i := 150) (by decide +kernel) rfl
theorem wse_RO_beginWith : Cond.selects y_RO_beginWith.cls y_RO_beginWith y_RO_beginWith ∈ lw_gt := wq_s (by decide +kernel) rfl
theorem wn_RO_firstLeft : Cond.instanceMethod y_RO_firstLeft ∈ lw_gt := wq_3 (i := 166) (by decide +kernel) rfl
theorem wse_RO_firstLeft : Cond.selects y_RO_firstLeft.cls y_RO_firstLeft y_RO_firstLeft ∈ lw_gt := wq_s (by decide +kernel) rfl
theorem wn_RO_choose : Cond.instanceMethod y_RO_choose ∈ lw_gt := wq_3 (i := 162) (by decide +kernel) rfl
theorem wse_RO_choose : Cond.selects y_RO_choose.cls y_RO_choose y_RO_choose ∈ lw_gt := wq_s (by decide +kernel) rfl
theorem wn_RO_leaveOut : Cond.instanceMethod y_RO_leaveOut ∈ lw_gt := wq_3 (i := 190) (by decide +kernel) rfl
theorem wse_RO_leaveOut : Cond.selects y_RO_leaveOut.cls y_RO_leaveOut y_RO_leaveOut ∈ lw_gt := wq_s (by decide +kernel) rfl
theorem wn_RO_isWeaker : Cond.instanceMethod y_RO_isWeaker ∈ lw_gt := wq_3 (i := 177) (by decide +kernel) rfl
theorem wse_RO_isWeaker : Cond.selects y_RO_isWeaker.cls y_RO_isWeaker y_RO_isWeaker ∈ lw_gt := wq_s (by decide +kernel) rfl
theorem wn_RO_weakest : Cond.instanceMethod y_RO_weakest ∈ lw_gt := wq_3 (i := 173) (by decide +kernel) rfl
theorem wse_RO_weakest : Cond.selects y_RO_weakest.cls y_RO_weakest y_RO_weakest ∈ lw_gt := wq_s (by decide +kernel) rfl
theorem wn_RO_play : Cond.instanceMethod y_RO_play ∈ lw_gt := wq_3 (i := 145) (by decide +kernel) rfl
theorem wse_RO_play : Cond.selects y_RO_play.cls y_RO_play y_RO_play ∈ lw_gt := wq_3 (i := 146) (by decide +kernel) rfl
theorem wn_CT_portion : Cond.static y_CT_portion ∈ lw_gt := wq_4 (i := 21) (by decide +kernel) rfl
theorem wn_GR_membersBelow : Cond.instanceMethod y_GR_membersBelow ∈ lw_gt := wq_4 (i := 25) (by decide +kernel) rfl
theorem wse_GR_membersBelow : Cond.selects y_GR_membersBelow.cls y_GR_membersBelow y_GR_membersBelow ∈ lw_gt := wq_4 (i := 26) (by decide +kernel) rfl
theorem wn_GR_sizeOf : Cond.instanceMethod y_GR_sizeOf ∈ lw_gt := wq_4 (i := 34) (by decide +kernel) rfl
theorem wse_GR_sizeOf : Cond.selects y_GR_sizeOf.cls y_GR_sizeOf y_GR_sizeOf ∈ lw_gt := wq_4 (i := 35) (by decide +kernel) rfl
theorem wn_OR_placeOf : Cond.instanceMethod y_OR_placeOf ∈ lw_gt := wq_4 (i := 3) (by decide +kernel) rfl
theorem wse_OR_placeOf : Cond.selects y_OR_placeOf.cls y_OR_placeOf y_OR_placeOf ∈ lw_gt := wq_4 (i := 4) (by decide +kernel) rfl
theorem wn_OR_tiedWith : Cond.instanceMethod y_OR_tiedWith ∈ lw_gt := wq_4 (i := 7) (by decide +kernel) rfl
theorem wse_OR_tiedWith : Cond.selects y_OR_tiedWith.cls y_OR_tiedWith y_OR_tiedWith ∈ lw_gt := wq_4 (i := 8) (by decide +kernel) rfl
theorem wn_SH_ofGroup : Cond.instanceMethod y_SH_ofGroup ∈ lw_gt := wq_4 (i := 29) (by decide +kernel) rfl
theorem wse_SH_ofGroup : Cond.selects y_SH_ofGroup.cls y_SH_ofGroup y_SH_ofGroup ∈ lw_gt := wq_4 (i := 30) (by decide +kernel) rfl
theorem wn_ST_prizeGivenAt : Cond.instanceMethod y_ST_prizeGivenAt ∈ lw_gt := wq_4 (i := 14) (by decide +kernel) rfl
theorem wse_ST_prizeGivenAt : Cond.selects y_ST_prizeGivenAt.cls y_ST_prizeGivenAt y_ST_prizeGivenAt ∈ lw_gt := wq_4 (i := 15) (by decide +kernel) rfl
theorem wn_SH_prizesTogether : Cond.static y_SH_prizesTogether ∈ lw_gt := wq_4 (i := 11) (by decide +kernel) rfl
theorem wn_SH_fill : Cond.instanceMethod y_SH_fill ∈ lw_gt := wq_3 (i := 237) (by decide +kernel) rfl
theorem wse_SH_fill : Cond.selects y_SH_fill.cls y_SH_fill y_SH_fill ∈ lw_gt := wq_3 (i := 238) (by decide +kernel) rfl
theorem wn_CT_tally : Cond.instanceMethod y_CT_tally ∈ lw_gt := wq_3 (i := 113) (by decide +kernel) rfl
theorem wse_CT_tally : Cond.selects y_CT_tally.cls y_CT_tally y_CT_tally ∈ lw_gt := wq_s (by decide +kernel) rfl
theorem wn_SH_ofCaption : Cond.instanceMethod y_SH_ofCaption ∈ lw_gt := wq_4 (i := 39) (by decide +kernel) rfl
theorem wse_SH_ofCaption : Cond.selects y_SH_ofCaption.cls y_SH_ofCaption y_SH_ofCaption ∈ lw_gt := wq_4 (i := 40) (by decide +kernel) rfl
theorem wn_ST_authorOf : Cond.instanceMethod y_ST_authorOf ∈ lw_gt := wq_3 (i := 99) (by decide +kernel) rfl
theorem wse_ST_authorOf : Cond.selects y_ST_authorOf.cls y_ST_authorOf y_ST_authorOf ∈ lw_gt := wq_3 (i := 100) (by decide +kernel) rfl
theorem wn_ST_ballotsWith : Cond.instanceMethod y_ST_ballotsWith ∈ lw_gt := wq_4 (i := 43) (by decide +kernel) rfl
theorem wse_ST_ballotsWith : Cond.selects y_ST_ballotsWith.cls y_ST_ballotsWith y_ST_ballotsWith ∈ lw_gt := wq_4 (i := 44) (by decide +kernel) rfl
theorem wn_ST_lengthOf : Cond.instanceMethod y_ST_lengthOf ∈ lw_gt := wq_3 (i := 103) (by decide +kernel) rfl
theorem wse_ST_lengthOf : Cond.selects y_ST_lengthOf.cls y_ST_lengthOf y_ST_lengthOf ∈ lw_gt := wq_3 (i := 104) (by decide +kernel) rfl
theorem wn_ST_linksInContest : Cond.instanceMethod y_ST_linksInContest ∈ lw_gt := wq_3 (i := 108) (by decide +kernel) rfl
theorem wse_ST_linksInContest : Cond.selects y_ST_linksInContest.cls y_ST_linksInContest y_ST_linksInContest ∈ lw_gt := wq_3 (i := 109) (by decide +kernel) rfl
theorem wn_CT_caption : Cond.instanceMethod y_CT_caption ∈ lw_gt := wq_3 (i := 95) (by decide +kernel) rfl
theorem wse_CT_caption : Cond.selects y_CT_caption.cls y_CT_caption y_CT_caption ∈ lw_gt := wq_3 (i := 96) (by decide +kernel) rfl
theorem wn_ST_textLetter : Cond.instanceMethod y_ST_textLetter ∈ lw_gt := wq_4 (i := 51) (by decide +kernel) rfl
theorem wse_ST_textLetter : Cond.selects y_ST_textLetter.cls y_ST_textLetter y_ST_textLetter ∈ lw_gt := wq_4 (i := 52) (by decide +kernel) rfl
theorem wn_CT_letter : Cond.instanceMethod y_CT_letter ∈ lw_gt := wq_4 (i := 47) (by decide +kernel) rfl
theorem wse_CT_letter : Cond.selects y_CT_letter.cls y_CT_letter y_CT_letter ∈ lw_gt := wq_4 (i := 48) (by decide +kernel) rfl
theorem wn_CT_group : Cond.instanceMethod y_CT_group ∈ lw_gt := wq_4 (i := 56) (by decide +kernel) rfl
theorem wse_CT_group : Cond.selects y_CT_group.cls y_CT_group y_CT_group ∈ lw_gt := wq_4 (i := 57) (by decide +kernel) rfl
theorem wn_CT_judged : Cond.instanceMethod y_CT_judged ∈ lw_gt := wq_4 (i := 63) (by decide +kernel) rfl
theorem wse_CT_judged : Cond.selects y_CT_judged.cls y_CT_judged y_CT_judged ∈ lw_gt := wq_4 (i := 64) (by decide +kernel) rfl
theorem wn_CT_ballot : Cond.instanceMethod y_CT_ballot ∈ lw_gt := wq_4 (i := 68) (by decide +kernel) rfl
theorem wse_CT_ballot : Cond.selects y_CT_ballot.cls y_CT_ballot y_CT_ballot ∈ lw_gt := wq_4 (i := 69) (by decide +kernel) rfl
theorem wn_OR_headAt : Cond.instanceMethod y_OR_headAt ∈ lw_gt := wq_4 (i := 78) (by decide +kernel) rfl
theorem wse_OR_headAt : Cond.selects y_OR_headAt.cls y_OR_headAt y_OR_headAt ∈ lw_gt := wq_4 (i := 79) (by decide +kernel) rfl
theorem wn_CT_ranked : Cond.instanceMethod y_CT_ranked ∈ lw_gt := wq_4 (i := 74) (by decide +kernel) rfl
theorem wse_CT_ranked : Cond.selects y_CT_ranked.cls y_CT_ranked y_CT_ranked ∈ lw_gt := wq_4 (i := 75) (by decide +kernel) rfl
theorem wn_RO_ballotsForNone : Cond.instanceMethod y_RO_ballotsForNone ∈ lw_gt := wq_4 (i := 98) (by decide +kernel) rfl
theorem wse_RO_ballotsForNone : Cond.selects y_RO_ballotsForNone.cls y_RO_ballotsForNone y_RO_ballotsForNone ∈ lw_gt := wq_4 (i := 99) (by decide +kernel) rfl
theorem wn_RO_ballotsOfHeadOut : Cond.instanceMethod y_RO_ballotsOfHeadOut ∈ lw_gt := wq_4 (i := 94) (by decide +kernel) rfl
theorem wse_RO_ballotsOfHeadOut : Cond.selects y_RO_ballotsOfHeadOut.cls y_RO_ballotsOfHeadOut y_RO_ballotsOfHeadOut ∈ lw_gt := wq_4 (i := 95) (by decide +kernel) rfl
theorem wn_RO_headOut : Cond.instanceMethod y_RO_headOut ∈ lw_gt := wq_4 (i := 90) (by decide +kernel) rfl
theorem wse_RO_headOut : Cond.selects y_RO_headOut.cls y_RO_headOut y_RO_headOut ∈ lw_gt := wq_4 (i := 91) (by decide +kernel) rfl
theorem wn_RO_number : Cond.instanceMethod y_RO_number ∈ lw_gt := wq_4 (i := 86) (by decide +kernel) rfl
theorem wse_RO_number : Cond.selects y_RO_number.cls y_RO_number y_RO_number ∈ lw_gt := wq_4 (i := 87) (by decide +kernel) rfl
theorem wn_CT_round : Cond.instanceMethod y_CT_round ∈ lw_gt := wq_4 (i := 82) (by decide +kernel) rfl
theorem wse_CT_round : Cond.selects y_CT_round.cls y_CT_round y_CT_round ∈ lw_gt := wq_4 (i := 83) (by decide +kernel) rfl
theorem wn_DI_fillLine : Cond.instanceMethod y_DI_fillLine ∈ lw_gt := wq_4 (i := 113) (by decide +kernel) rfl
theorem wse_DI_fillLine : Cond.selects y_DI_fillLine.cls y_DI_fillLine y_DI_fillLine ∈ lw_gt := wq_s (by decide +kernel) rfl
theorem wn_DI_between : Cond.instanceMethod y_DI_between ∈ lw_gt := wq_4 (i := 106) (by decide +kernel) rfl
theorem wse_DI_between : Cond.selects y_DI_between.cls y_DI_between y_DI_between ∈ lw_gt := wq_4 (i := 107) (by decide +kernel) rfl
theorem wn_CT_distance : Cond.instanceMethod y_CT_distance ∈ lw_gt := wq_4 (i := 102) (by decide +kernel) rfl
theorem wse_CT_distance : Cond.selects y_CT_distance.cls y_CT_distance y_CT_distance ∈ lw_gt := wq_4 (i := 103) (by decide +kernel) rfl
theorem wn_DI_areApart : Cond.static y_DI_areApart ∈ lw_gt := wq_4 (i := 127) (by decide +kernel) rfl
theorem wn_DI_mayBeNear : Cond.static y_DI_mayBeNear ∈ lw_gt := wq_4 (i := 131) (by decide +kernel) rfl
theorem wn_DI_fill : Cond.instanceMethod y_DI_fill ∈ lw_gt := wq_4 (i := 122) (by decide +kernel) rfl
theorem wse_DI_fill : Cond.selects y_DI_fill.cls y_DI_fill y_DI_fill ∈ lw_gt := wq_4 (i := 123) (by decide +kernel) rfl
theorem wn_DI_ofPair : Cond.instanceMethod y_DI_ofPair ∈ lw_gt := wq_4 (i := 142) (by decide +kernel) rfl
theorem wse_DI_ofPair : Cond.selects y_DI_ofPair.cls y_DI_ofPair y_DI_ofPair ∈ lw_gt := wq_4 (i := 143) (by decide +kernel) rfl
theorem wn_DI_pairAt : Cond.instanceMethod y_DI_pairAt ∈ lw_gt := wq_4 (i := 138) (by decide +kernel) rfl
theorem wse_DI_pairAt : Cond.selects y_DI_pairAt.cls y_DI_pairAt y_DI_pairAt ∈ lw_gt := wq_4 (i := 139) (by decide +kernel) rfl
theorem wn_CT_near : Cond.instanceMethod y_CT_near ∈ lw_gt := wq_4 (i := 118) (by decide +kernel) rfl
theorem wse_CT_near : Cond.selects y_CT_near.cls y_CT_near y_CT_near ∈ lw_gt := wq_4 (i := 119) (by decide +kernel) rfl
theorem wn_CT_isBy : Cond.instanceMethod y_CT_isBy ∈ lw_gt := wq_4 (i := 155) (by decide +kernel) rfl
theorem wse_CT_isBy : Cond.selects y_CT_isBy.cls y_CT_isBy y_CT_isBy ∈ lw_gt := wq_s (by decide +kernel) rfl
theorem wn_CT_amountFor : Cond.instanceMethod y_CT_amountFor ∈ lw_gt := wq_4 (i := 159) (by decide +kernel) rfl
theorem wse_CT_amountFor : Cond.selects y_CT_amountFor.cls y_CT_amountFor y_CT_amountFor ∈ lw_gt := wq_s (by decide +kernel) rfl
theorem wn_CT_bestPlaceOf : Cond.instanceMethod y_CT_bestPlaceOf ∈ lw_gt := wq_4 (i := 163) (by decide +kernel) rfl
theorem wse_CT_bestPlaceOf : Cond.selects y_CT_bestPlaceOf.cls y_CT_bestPlaceOf y_CT_bestPlaceOf ∈ lw_gt := wq_s (by decide +kernel) rfl
theorem wn_CT_captionsBy : Cond.instanceMethod y_CT_captionsBy ∈ lw_gt := wq_4 (i := 151) (by decide +kernel) rfl
theorem wse_CT_captionsBy : Cond.selects y_CT_captionsBy.cls y_CT_captionsBy y_CT_captionsBy ∈ lw_gt := wq_s (by decide +kernel) rfl
theorem wn_CT_author : Cond.instanceMethod y_CT_author ∈ lw_gt := wq_4 (i := 146) (by decide +kernel) rfl
theorem wse_CT_author : Cond.selects y_CT_author.cls y_CT_author y_CT_author ∈ lw_gt := wq_4 (i := 147) (by decide +kernel) rfl
theorem wn_CO_ballotsThatCount : Cond.instanceMethod y_CO_ballotsThatCount ∈ lw_gt := wq_4 (i := 175) (by decide +kernel) rfl
theorem wse_CO_ballotsThatCount : Cond.selects y_CO_ballotsThatCount.cls y_CO_ballotsThatCount y_CO_ballotsThatCount ∈ lw_gt := wq_4 (i := 176) (by decide +kernel) rfl
theorem wn_CO_pointsInAll : Cond.instanceMethod y_CO_pointsInAll ∈ lw_gt := wq_4 (i := 179) (by decide +kernel) rfl
theorem wse_CO_pointsInAll : Cond.selects y_CO_pointsInAll.cls y_CO_pointsInAll y_CO_pointsInAll ∈ lw_gt := wq_4 (i := 180) (by decide +kernel) rfl
theorem wn_OR_tiedGroups : Cond.instanceMethod y_OR_tiedGroups ∈ lw_gt := wq_4 (i := 187) (by decide +kernel) rfl
theorem wse_OR_tiedGroups : Cond.selects y_OR_tiedGroups.cls y_OR_tiedGroups y_OR_tiedGroups ∈ lw_gt := wq_4 (i := 188) (by decide +kernel) rfl
theorem wn_SH_inAll : Cond.instanceMethod y_SH_inAll ∈ lw_gt := wq_4 (i := 183) (by decide +kernel) rfl
theorem wse_SH_inAll : Cond.selects y_SH_inAll.cls y_SH_inAll y_SH_inAll ∈ lw_gt := wq_4 (i := 184) (by decide +kernel) rfl
theorem wn_ST_linksInAll : Cond.instanceMethod y_ST_linksInAll ∈ lw_gt := wq_4 (i := 171) (by decide +kernel) rfl
theorem wse_ST_linksInAll : Cond.selects y_ST_linksInAll.cls y_ST_linksInAll y_ST_linksInAll ∈ lw_gt := wq_4 (i := 172) (by decide +kernel) rfl
theorem wn_CT_count : Cond.instanceMethod y_CT_count ∈ lw_gt := wq_4 (i := 166) (by decide +kernel) rfl
theorem wse_CT_count : Cond.selects y_CT_count.cls y_CT_count y_CT_count ∈ lw_gt := wq_4 (i := 167) (by decide +kernel) rfl
theorem wn_MO_in : Cond.static y_MO_in ∈ lw_gt := wq_5 (i := 35) (by decide +kernel) rfl
theorem wn_MO_record : Cond.instanceMethod y_MO_record ∈ lw_gt := wq_5 (i := 49) (by decide +kernel) rfl
theorem wse_MO_record : Cond.selects y_MO_record.cls y_MO_record y_MO_record ∈ lw_gt := wq_s (by decide +kernel) rfl
theorem wn_MO_is : Cond.instanceMethod y_MO_is ∈ lw_gt := wq_5 (i := 57) (by decide +kernel) rfl
theorem wse_MO_is : Cond.selects y_MO_is.cls y_MO_is y_MO_is ∈ lw_gt := wq_s (by decide +kernel) rfl
theorem wn_MO_there : Cond.instanceMethod y_MO_there ∈ lw_gt := wq_5 (i := 61) (by decide +kernel) rfl
theorem wse_MO_there : Cond.selects y_MO_there.cls y_MO_there y_MO_there ∈ lw_gt := wq_s (by decide +kernel) rfl
theorem wn_MO_isLetter : Cond.static y_MO_isLetter ∈ lw_gt := wq_5 (i := 45) (by decide +kernel) rfl
theorem wn_MO_small : Cond.static y_MO_small ∈ lw_gt := wq_5 (i := 80) (by decide +kernel) rfl
theorem wn_MO_isSign : Cond.static y_MO_isSign ∈ lw_gt := wq_5 (i := 42) (by decide +kernel) rfl
theorem wn_MO_sign : Cond.instanceMethod y_MO_sign ∈ lw_gt := wq_5 (i := 77) (by decide +kernel) rfl
theorem wse_MO_sign : Cond.selects y_MO_sign.cls y_MO_sign y_MO_sign ∈ lw_gt := wq_s (by decide +kernel) rfl
theorem wn_MO_takesCores : Cond.instanceMethod y_MO_takesCores ∈ lw_gt := wq_5 (i := 73) (by decide +kernel) rfl
theorem wse_MO_takesCores : Cond.selects y_MO_takesCores.cls y_MO_takesCores y_MO_takesCores ∈ lw_gt := wq_s (by decide +kernel) rfl
theorem wn_MO_isAlike : Cond.instanceMethod y_MO_isAlike ∈ lw_gt := wq_5 (i := 88) (by decide +kernel) rfl
theorem wse_MO_isAlike : Cond.selects y_MO_isAlike.cls y_MO_isAlike y_MO_isAlike ∈ lw_gt := wq_s (by decide +kernel) rfl
theorem wn_MO_isLinked : Cond.instanceMethod y_MO_isLinked ∈ lw_gt := wq_5 (i := 84) (by decide +kernel) rfl
theorem wse_MO_isLinked : Cond.selects y_MO_isLinked.cls y_MO_isLinked y_MO_isLinked ∈ lw_gt := wq_s (by decide +kernel) rfl
theorem wn_MO_far : Cond.instanceMethod y_MO_far ∈ lw_gt := wq_5 (i := 232) (by decide +kernel) rfl
theorem wse_MO_far : Cond.selects y_MO_far.cls y_MO_far y_MO_far ∈ lw_gt := wq_s (by decide +kernel) rfl
theorem wn_MO_heads : Cond.instanceMethod y_MO_heads ∈ lw_gt := wq_5 (i := 69) (by decide +kernel) rfl
theorem wse_MO_heads : Cond.selects y_MO_heads.cls y_MO_heads y_MO_heads ∈ lw_gt := wq_s (by decide +kernel) rfl
theorem wn_MO_isHead : Cond.instanceMethod y_MO_isHead ∈ lw_gt := wq_5 (i := 112) (by decide +kernel) rfl
theorem wse_MO_isHead : Cond.selects y_MO_isHead.cls y_MO_isHead y_MO_isHead ∈ lw_gt := wq_s (by decide +kernel) rfl
theorem wn_MO_counts : Cond.instanceMethod y_MO_counts ∈ lw_gt := wq_5 (i := 160) (by decide +kernel) rfl
theorem wse_MO_counts : Cond.selects y_MO_counts.cls y_MO_counts y_MO_counts ∈ lw_gt := wq_s (by decide +kernel) rfl
theorem wn_MO_most : Cond.instanceMethod y_MO_most ∈ lw_gt := wq_5 (i := 108) (by decide +kernel) rfl
theorem wse_MO_most : Cond.selects y_MO_most.cls y_MO_most y_MO_most ∈ lw_gt := wq_s (by decide +kernel) rfl
theorem wn_MO_rank : Cond.instanceMethod y_MO_rank ∈ lw_gt := wq_5 (i := 104) (by decide +kernel) rfl
theorem wse_MO_rank : Cond.selects y_MO_rank.cls y_MO_rank y_MO_rank ∈ lw_gt := wq_s (by decide +kernel) rfl
theorem wn_MO_tallies : Cond.instanceMethod y_MO_tallies ∈ lw_gt := wq_5 (i := 156) (by decide +kernel) rfl
theorem wse_MO_tallies : Cond.selects y_MO_tallies.cls y_MO_tallies y_MO_tallies ∈ lw_gt := wq_s (by decide +kernel) rfl
theorem wn_MO_standsFor : Cond.instanceMethod y_MO_standsFor ∈ lw_gt := wq_5 (i := 168) (by decide +kernel) rfl
theorem wse_MO_standsFor : Cond.selects y_MO_standsFor.cls y_MO_standsFor y_MO_standsFor ∈ lw_gt := wq_s (by decide +kernel) rfl
theorem wn_MO_goesRounds : Cond.instanceMethod y_MO_goesRounds ∈ lw_gt := wq_5 (i := 164) (by decide +kernel) rfl
theorem wse_MO_goesRounds : Cond.selects y_MO_goesRounds.cls y_MO_goesRounds y_MO_goesRounds ∈ lw_gt := wq_s (by decide +kernel) rfl
theorem wn_MO_tally : Cond.instanceMethod y_MO_tally ∈ lw_gt := wq_5 (i := 180) (by decide +kernel) rfl
theorem wse_MO_tally : Cond.selects y_MO_tally.cls y_MO_tally y_MO_tally ∈ lw_gt := wq_s (by decide +kernel) rfl
theorem wn_MO_isAhead : Cond.instanceMethod y_MO_isAhead ∈ lw_gt := wq_5 (i := 176) (by decide +kernel) rfl
theorem wse_MO_isAhead : Cond.selects y_MO_isAhead.cls y_MO_isAhead y_MO_isAhead ∈ lw_gt := wq_s (by decide +kernel) rfl
theorem wn_MO_orders : Cond.instanceMethod y_MO_orders ∈ lw_gt := wq_5 (i := 172) (by decide +kernel) rfl
theorem wse_MO_orders : Cond.selects y_MO_orders.cls y_MO_orders y_MO_orders ∈ lw_gt := wq_s (by decide +kernel) rfl
theorem wn_MO_prizeOf : Cond.instanceMethod y_MO_prizeOf ∈ lw_gt := wq_5 (i := 184) (by decide +kernel) rfl
theorem wse_MO_prizeOf : Cond.selects y_MO_prizeOf.cls y_MO_prizeOf y_MO_prizeOf ∈ lw_gt := wq_s (by decide +kernel) rfl
theorem wn_MO_shares : Cond.instanceMethod y_MO_shares ∈ lw_gt := wq_5 (i := 188) (by decide +kernel) rfl
theorem wse_MO_shares : Cond.selects y_MO_shares.cls y_MO_shares y_MO_shares ∈ lw_gt := wq_s (by decide +kernel) rfl
theorem wn_MO_works : Cond.instanceMethod y_MO_works ∈ lw_gt := wq_5 (i := 152) (by decide +kernel) rfl
theorem wse_MO_works : Cond.selects y_MO_works.cls y_MO_works y_MO_works ∈ lw_gt := wq_s (by decide +kernel) rfl
theorem wn_MO_getsGroup : Cond.instanceMethod y_MO_getsGroup ∈ lw_gt := wq_5 (i := 208) (by decide +kernel) rfl
theorem wse_MO_getsGroup : Cond.selects y_MO_getsGroup.cls y_MO_getsGroup y_MO_getsGroup ∈ lw_gt := wq_s (by decide +kernel) rfl
theorem wn_MO_fault : Cond.instanceMethod y_MO_fault ∈ lw_gt := wq_5 (i := 39) (by decide +kernel) rfl
theorem wse_MO_fault : Cond.selects y_MO_fault.cls y_MO_fault y_MO_fault ∈ lw_gt := wq_s (by decide +kernel) rfl
theorem wn_MO_submit : Cond.instanceMethod y_MO_submit ∈ lw_gt := wq_5 (i := 31) (by decide +kernel) rfl
theorem wse_MO_submit : Cond.selects y_MO_submit.cls y_MO_submit y_MO_submit ∈ lw_gt := wq_5 (i := 32) (by decide +kernel) rfl
theorem wn_MO_withdraw : Cond.instanceMethod y_MO_withdraw ∈ lw_gt := wq_5 (i := 52) (by decide +kernel) rfl
theorem wse_MO_withdraw : Cond.selects y_MO_withdraw.cls y_MO_withdraw y_MO_withdraw ∈ lw_gt := wq_5 (i := 53) (by decide +kernel) rfl
theorem wn_MO_join : Cond.instanceMethod y_MO_join ∈ lw_gt := wq_5 (i := 64) (by decide +kernel) rfl
theorem wse_MO_join : Cond.selects y_MO_join.cls y_MO_join y_MO_join ∈ lw_gt := wq_5 (i := 65) (by decide +kernel) rfl
theorem wn_MO_part : Cond.instanceMethod y_MO_part ∈ lw_gt := wq_5 (i := 91) (by decide +kernel) rfl
theorem wse_MO_part : Cond.selects y_MO_part.cls y_MO_part y_MO_part ∈ lw_gt := wq_5 (i := 92) (by decide +kernel) rfl
theorem wn_MO_vote : Cond.instanceMethod y_MO_vote ∈ lw_gt := wq_5 (i := 95) (by decide +kernel) rfl
theorem wse_MO_vote : Cond.selects y_MO_vote.cls y_MO_vote y_MO_vote ∈ lw_gt := wq_5 (i := 96) (by decide +kernel) rfl
theorem wn_MO_score : Cond.instanceMethod y_MO_score ∈ lw_gt := wq_5 (i := 99) (by decide +kernel) rfl
theorem wse_MO_score : Cond.selects y_MO_score.cls y_MO_score y_MO_score ∈ lw_gt := wq_5 (i := 100) (by decide +kernel) rfl
theorem wn_MO_set : Cond.instanceMethod y_MO_set ∈ lw_gt := wq_5 (i := 115) (by decide +kernel) rfl
theorem wse_MO_set : Cond.selects y_MO_set.cls y_MO_set y_MO_set ∈ lw_gt := wq_5 (i := 116) (by decide +kernel) rfl
theorem wn_MO_prize : Cond.instanceMethod y_MO_prize ∈ lw_gt := wq_5 (i := 119) (by decide +kernel) rfl
theorem wse_MO_prize : Cond.selects y_MO_prize.cls y_MO_prize y_MO_prize ∈ lw_gt := wq_5 (i := 120) (by decide +kernel) rfl
theorem wn_MO_type : Cond.instanceMethod y_MO_type ∈ lw_gt := wq_5 (i := 123) (by decide +kernel) rfl
theorem wse_MO_type : Cond.selects y_MO_type.cls y_MO_type y_MO_type ∈ lw_gt := wq_5 (i := 124) (by decide +kernel) rfl
theorem wn_MO_clearText : Cond.instanceMethod y_MO_clearText ∈ lw_gt := wq_5 (i := 127) (by decide +kernel) rfl
theorem wse_MO_clearText : Cond.selects y_MO_clearText.cls y_MO_clearText y_MO_clearText ∈ lw_gt := wq_5 (i := 128) (by decide +kernel) rfl
theorem wn_MO_undo : Cond.instanceMethod y_MO_undo ∈ lw_gt := wq_5 (i := 131) (by decide +kernel) rfl
theorem wse_MO_undo : Cond.selects y_MO_undo.cls y_MO_undo y_MO_undo ∈ lw_gt := wq_5 (i := 132) (by decide +kernel) rfl
theorem wn_MO_keep : Cond.instanceMethod y_MO_keep ∈ lw_gt := wq_5 (i := 135) (by decide +kernel) rfl
theorem wse_MO_keep : Cond.selects y_MO_keep.cls y_MO_keep y_MO_keep ∈ lw_gt := wq_5 (i := 136) (by decide +kernel) rfl
theorem wn_MO_restore : Cond.instanceMethod y_MO_restore ∈ lw_gt := wq_5 (i := 139) (by decide +kernel) rfl
theorem wse_MO_restore : Cond.selects y_MO_restore.cls y_MO_restore y_MO_restore ∈ lw_gt := wq_5 (i := 140) (by decide +kernel) rfl
theorem wn_MO_links : Cond.instanceMethod y_MO_links ∈ lw_gt := wq_5 (i := 148) (by decide +kernel) rfl
theorem wse_MO_links : Cond.selects y_MO_links.cls y_MO_links y_MO_links ∈ lw_gt := wq_s (by decide +kernel) rfl
theorem wn_MO_stands : Cond.instanceMethod y_MO_stands ∈ lw_gt := wq_5 (i := 192) (by decide +kernel) rfl
theorem wse_MO_stands : Cond.selects y_MO_stands.cls y_MO_stands y_MO_stands ∈ lw_gt := wq_s (by decide +kernel) rfl
theorem wn_MO_caption : Cond.instanceMethod y_MO_caption ∈ lw_gt := wq_5 (i := 143) (by decide +kernel) rfl
theorem wse_MO_caption : Cond.selects y_MO_caption.cls y_MO_caption y_MO_caption ∈ lw_gt := wq_5 (i := 144) (by decide +kernel) rfl
theorem wn_MO_letter : Cond.instanceMethod y_MO_letter ∈ lw_gt := wq_5 (i := 195) (by decide +kernel) rfl
theorem wse_MO_letter : Cond.selects y_MO_letter.cls y_MO_letter y_MO_letter ∈ lw_gt := wq_5 (i := 196) (by decide +kernel) rfl
theorem wn_MO_members : Cond.instanceMethod y_MO_members ∈ lw_gt := wq_5 (i := 204) (by decide +kernel) rfl
theorem wse_MO_members : Cond.selects y_MO_members.cls y_MO_members y_MO_members ∈ lw_gt := wq_s (by decide +kernel) rfl
theorem wn_MO_group : Cond.instanceMethod y_MO_group ∈ lw_gt := wq_5 (i := 199) (by decide +kernel) rfl
theorem wse_MO_group : Cond.selects y_MO_group.cls y_MO_group y_MO_group ∈ lw_gt := wq_5 (i := 200) (by decide +kernel) rfl
theorem wn_MO_judged : Cond.instanceMethod y_MO_judged ∈ lw_gt := wq_5 (i := 211) (by decide +kernel) rfl
theorem wse_MO_judged : Cond.selects y_MO_judged.cls y_MO_judged y_MO_judged ∈ lw_gt := wq_5 (i := 212) (by decide +kernel) rfl
theorem wn_MO_ballot : Cond.instanceMethod y_MO_ballot ∈ lw_gt := wq_5 (i := 215) (by decide +kernel) rfl
theorem wse_MO_ballot : Cond.selects y_MO_ballot.cls y_MO_ballot y_MO_ballot ∈ lw_gt := wq_5 (i := 216) (by decide +kernel) rfl
theorem wn_MO_ranked : Cond.instanceMethod y_MO_ranked ∈ lw_gt := wq_5 (i := 219) (by decide +kernel) rfl
theorem wse_MO_ranked : Cond.selects y_MO_ranked.cls y_MO_ranked y_MO_ranked ∈ lw_gt := wq_5 (i := 220) (by decide +kernel) rfl
theorem wn_MO_round : Cond.instanceMethod y_MO_round ∈ lw_gt := wq_5 (i := 223) (by decide +kernel) rfl
theorem wse_MO_round : Cond.selects y_MO_round.cls y_MO_round y_MO_round ∈ lw_gt := wq_5 (i := 224) (by decide +kernel) rfl
theorem wn_MO_distance : Cond.instanceMethod y_MO_distance ∈ lw_gt := wq_5 (i := 227) (by decide +kernel) rfl
theorem wse_MO_distance : Cond.selects y_MO_distance.cls y_MO_distance y_MO_distance ∈ lw_gt := wq_5 (i := 228) (by decide +kernel) rfl
theorem wn_MO_near : Cond.instanceMethod y_MO_near ∈ lw_gt := wq_5 (i := 235) (by decide +kernel) rfl
theorem wse_MO_near : Cond.selects y_MO_near.cls y_MO_near y_MO_near ∈ lw_gt := wq_5 (i := 236) (by decide +kernel) rfl
theorem wn_MO_author : Cond.instanceMethod y_MO_author ∈ lw_gt := wq_5 (i := 239) (by decide +kernel) rfl
theorem wse_MO_author : Cond.selects y_MO_author.cls y_MO_author y_MO_author ∈ lw_gt := wq_6 (i := 0) (by decide +kernel) rfl
theorem wn_MO_allLinks : Cond.instanceMethod y_MO_allLinks ∈ lw_gt := wq_6 (i := 8) (by decide +kernel) rfl
theorem wse_MO_allLinks : Cond.selects y_MO_allLinks.cls y_MO_allLinks y_MO_allLinks ∈ lw_gt := wq_s (by decide +kernel) rfl
theorem wn_MO_over : Cond.instanceMethod y_MO_over ∈ lw_gt := wq_6 (i := 12) (by decide +kernel) rfl
theorem wse_MO_over : Cond.selects y_MO_over.cls y_MO_over y_MO_over ∈ lw_gt := wq_s (by decide +kernel) rfl
theorem wn_MO_count : Cond.instanceMethod y_MO_count ∈ lw_gt := wq_6 (i := 3) (by decide +kernel) rfl
theorem wse_MO_count : Cond.selects y_MO_count.cls y_MO_count y_MO_count ∈ lw_gt := wq_6 (i := 4) (by decide +kernel) rfl
theorem wl_CO_15 : Cond.fieldLink "CaptionTallies$Counts" 15 "CaptionTallies$Counts" "points" "[I" ∈ lw_gt := wq_1 (i := 127) (by decide +kernel) rfl
theorem wl_CO_18 : Cond.fieldLink "CaptionTallies$Counts" 18 "CaptionTallies$Counts" "firsts" "[I" ∈ lw_gt := wq_1 (i := 128) (by decide +kernel) rfl
theorem wl_CO_21 : Cond.methodLink "CaptionTallies$Counts" 21 y_AR_fill ∈ lw_gt := wq_3 (i := 119) (by decide +kernel) rfl
theorem wl_CO_27 : Cond.methodLink "CaptionTallies$Counts" 27 y_CO_fillBallot ∈ lw_gt := wq_3 (i := 120) (by decide +kernel) rfl
theorem wl_CO_31 : Cond.methodLink "CaptionTallies$Counts" 31 y_ST_wish ∈ lw_gt := wq_3 (i := 124) (by decide +kernel) rfl
theorem wl_CO_37 : Cond.methodLink "CaptionTallies$Counts" 37 y_GR_headOf ∈ lw_gt := wq_3 (i := 125) (by decide +kernel) rfl
theorem wl_CO_43 : Cond.methodLink "CaptionTallies$Counts" 43 y_CO_hasGroup ∈ lw_gt := wq_3 (i := 126) (by decide +kernel) rfl
theorem wl_CO_47 : ("CaptionTallies$Counts", 47, y_CT_put) ∈ z_nests := List.mem_of_getElem? (i := 18) rfl
theorem wl_CO_51 : Cond.methodLink "CaptionTallies$Counts" 51 y_CO_pointsOf ∈ lw_gt := wq_3 (i := 136) (by decide +kernel) rfl
theorem wl_CO_54 : Cond.methodLink "CaptionTallies$Counts" 54 y_CO_firstsOf ∈ lw_gt := wq_3 (i := 140) (by decide +kernel) rfl
theorem wl_CO_57 : Cond.methodLink "CaptionTallies$Counts" 57 y_CO_wish ∈ lw_gt := wq_3 (i := 130) (by decide +kernel) rfl
theorem wl_CO_58 : ("CaptionTallies$Counts", 58, y_CT_at) ∈ z_nests := List.mem_of_getElem? (i := 17) rfl
theorem wl_CO_9 : Cond.fieldLink "CaptionTallies$Counts" 9 "CaptionTallies$Counts" "wishes" "[I" ∈ lw_gt := wq_1 (i := 126) (by decide +kernel) rfl
theorem wl_CT_10 : Cond.fieldLink "CaptionTallies" 10 "CaptionTallies" "draft" "LCaptionTallies$Draft;" ∈ lw_gt := wq_1 (i := 225) (by decide +kernel) rfl
theorem wl_CT_101 : Cond.methodLink "CaptionTallies" 101 y_ST_add ∈ lw_gt := wq_2 (i := 81) (by decide +kernel) rfl
theorem wl_CT_105 : Cond.methodLink "CaptionTallies" 105 y_ST_isIn ∈ lw_gt := wq_2 (i := 124) (by decide +kernel) rfl
theorem wl_CT_109 : Cond.methodLink "CaptionTallies" 109 y_ST_takeOut ∈ lw_gt := wq_2 (i := 128) (by decide +kernel) rfl
theorem wl_CT_113 : Cond.methodLink "CaptionTallies" 113 y_ST_captionsIn ∈ lw_gt := wq_2 (i := 132) (by decide +kernel) rfl
theorem wl_CT_116 : Cond.methodLink "CaptionTallies" 116 y_GR_find ∈ lw_gt := wq_2 (i := 141) (by decide +kernel) rfl
theorem wl_CT_119 : Cond.methodLink "CaptionTallies" 119 y_GR_headOf ∈ lw_gt := wq_2 (i := 163) (by decide +kernel) rfl
theorem wl_CT_123 : Cond.methodLink "CaptionTallies" 123 y_ST_link ∈ lw_gt := wq_2 (i := 168) (by decide +kernel) rfl
theorem wl_CT_127 : Cond.methodLink "CaptionTallies" 127 y_ST_hasLinks ∈ lw_gt := wq_2 (i := 180) (by decide +kernel) rfl
theorem wl_CT_130 : Cond.methodLink "CaptionTallies" 130 y_ST_cutLinks ∈ lw_gt := wq_2 (i := 185) (by decide +kernel) rfl
theorem wl_CT_133 : Cond.methodLink "CaptionTallies" 133 y_CT_isWish ∈ lw_gt := wq_2 (i := 193) (by decide +kernel) rfl
theorem wl_CT_136 : Cond.methodLink "CaptionTallies" 136 y_CT_hasGap ∈ lw_gt := wq_2 (i := 197) (by decide +kernel) rfl
theorem wl_CT_140 : Cond.methodLink "CaptionTallies" 140 y_CT_isTwice ∈ lw_gt := wq_2 (i := 200) (by decide +kernel) rfl
theorem wl_CT_143 : Cond.methodLink "CaptionTallies" 143 y_ST_isFilledIn ∈ lw_gt := wq_2 (i := 203) (by decide +kernel) rfl
theorem wl_CT_147 : Cond.methodLink "CaptionTallies" 147 y_ST_fillIn ∈ lw_gt := wq_2 (i := 211) (by decide +kernel) rfl
theorem wl_CT_151 : Cond.methodLink "CaptionTallies" 151 y_ST_wishesOf ∈ lw_gt := wq_2 (i := 215) (by decide +kernel) rfl
theorem wl_CT_154 : Cond.methodLink "CaptionTallies" 154 y_ST_pointsBy ∈ lw_gt := wq_2 (i := 223) (by decide +kernel) rfl
theorem wl_CT_158 : Cond.methodLink "CaptionTallies" 158 y_ST_givePoints ∈ lw_gt := wq_2 (i := 227) (by decide +kernel) rfl
theorem wl_CT_162 : Cond.methodLink "CaptionTallies" 162 y_RA_fill ∈ lw_gt := wq_2 (i := 231) (by decide +kernel) rfl
theorem wl_CT_166 : Cond.methodLink "CaptionTallies" 166 y_RA_rankBy ∈ lw_gt := wq_3 (i := 24) (by decide +kernel) rfl
theorem wl_CT_169 : Cond.methodLink "CaptionTallies" 169 y_CT_mostOf ∈ lw_gt := wq_3 (i := 32) (by decide +kernel) rfl
theorem wl_CT_172 : Cond.methodLink "CaptionTallies" 172 y_ST_setting ∈ lw_gt := wq_3 (i := 35) (by decide +kernel) rfl
theorem wl_CT_175 : Cond.methodLink "CaptionTallies" 175 y_ST_changeSetting ∈ lw_gt := wq_3 (i := 39) (by decide +kernel) rfl
theorem wl_CT_178 : Cond.methodLink "CaptionTallies" 178 y_ST_prizeOf ∈ lw_gt := wq_3 (i := 47) (by decide +kernel) rfl
theorem wl_CT_181 : Cond.methodLink "CaptionTallies" 181 y_ST_changePrize ∈ lw_gt := wq_3 (i := 51) (by decide +kernel) rfl
theorem wl_CT_184 : Cond.methodLink "CaptionTallies" 184 y_DR_length ∈ lw_gt := wq_3 (i := 59) (by decide +kernel) rfl
theorem wl_CT_187 : Cond.methodLink "CaptionTallies" 187 y_DR_append ∈ lw_gt := wq_3 (i := 60) (by decide +kernel) rfl
theorem wl_CT_19 : Cond.fieldLink "CaptionTallies" 19 "CaptionTallies" "state" "LCaptionTallies$State;" ∈ lw_gt := wq_1 (i := 226) (by decide +kernel) rfl
theorem wl_CT_191 : Cond.methodLink "CaptionTallies" 191 y_DR_empty ∈ lw_gt := wq_3 (i := 69) (by decide +kernel) rfl
theorem wl_CT_194 : Cond.methodLink "CaptionTallies" 194 y_HI_size ∈ lw_gt := wq_3 (i := 77) (by decide +kernel) rfl
theorem wl_CT_197 : Cond.methodLink "CaptionTallies" 197 y_HI_takeBack ∈ lw_gt := wq_3 (i := 81) (by decide +kernel) rfl
theorem wl_CT_200 : Cond.methodLink "CaptionTallies" 200 y_ST_copyFrom ∈ lw_gt := wq_3 (i := 89) (by decide +kernel) rfl
theorem wl_CT_203 : Cond.methodLink "CaptionTallies" 203 y_ST_authorOf ∈ lw_gt := wq_3 (i := 98) (by decide +kernel) rfl
theorem wl_CT_206 : Cond.methodLink "CaptionTallies" 206 y_ST_lengthOf ∈ lw_gt := wq_3 (i := 102) (by decide +kernel) rfl
theorem wl_CT_209 : Cond.methodLink "CaptionTallies" 209 y_ST_coreLengthOf ∈ lw_gt := wq_3 (i := 106) (by decide +kernel) rfl
theorem wl_CT_212 : Cond.methodLink "CaptionTallies" 212 y_ST_linksInContest ∈ lw_gt := wq_3 (i := 107) (by decide +kernel) rfl
theorem wl_CT_215 : Cond.methodLink "CaptionTallies" 215 y_CT_tally ∈ lw_gt := wq_3 (i := 111) (by decide +kernel) rfl
theorem wl_CT_218 : Cond.methodLink "CaptionTallies" 218 y_SH_ofCaption ∈ lw_gt := wq_4 (i := 38) (by decide +kernel) rfl
theorem wl_CT_221 : Cond.methodLink "CaptionTallies" 221 y_ST_ballotsWith ∈ lw_gt := wq_4 (i := 42) (by decide +kernel) rfl
theorem wl_CT_224 : Cond.methodLink "CaptionTallies" 224 y_ST_textLetter ∈ lw_gt := wq_4 (i := 50) (by decide +kernel) rfl
theorem wl_CT_227 : Cond.methodLink "CaptionTallies" 227 y_GR_sizeOf ∈ lw_gt := wq_4 (i := 59) (by decide +kernel) rfl
theorem wl_CT_230 : Cond.methodLink "CaptionTallies" 230 y_CO_pointsOf ∈ lw_gt := wq_3 (i := 214) (by decide +kernel) rfl
theorem wl_CT_233 : Cond.methodLink "CaptionTallies" 233 y_CO_firstsOf ∈ lw_gt := wq_3 (i := 216) (by decide +kernel) rfl
theorem wl_CT_236 : Cond.methodLink "CaptionTallies" 236 y_RA_sumOf ∈ lw_gt := wq_3 (i := 215) (by decide +kernel) rfl
theorem wl_CT_239 : Cond.methodLink "CaptionTallies" 239 y_CT_scoreOf ∈ lw_gt := wq_3 (i := 210) (by decide +kernel) rfl
theorem wl_CT_242 : Cond.methodLink "CaptionTallies" 242 y_OR_placeOf ∈ lw_gt := wq_4 (i := 60) (by decide +kernel) rfl
theorem wl_CT_245 : Cond.methodLink "CaptionTallies" 245 y_SH_ofGroup ∈ lw_gt := wq_4 (i := 61) (by decide +kernel) rfl
theorem wl_CT_248 : Cond.methodLink "CaptionTallies" 248 y_RO_roundOf ∈ lw_gt := wq_3 (i := 205) (by decide +kernel) rfl
theorem wl_CT_251 : Cond.methodLink "CaptionTallies" 251 y_RA_pointsBy ∈ lw_gt := wq_4 (i := 66) (by decide +kernel) rfl
theorem wl_CT_252 : Cond.methodLink "CaptionTallies" 252 y_ST_wish ∈ lw_gt := wq_4 (i := 71) (by decide +kernel) rfl
theorem wl_CT_255 : Cond.methodLink "CaptionTallies" 255 y_CO_fill ∈ lw_gt := wq_3 (i := 115) (by decide +kernel) rfl
theorem wl_CT_256 : Cond.methodLink "CaptionTallies" 256 y_CO_wish ∈ lw_gt := wq_4 (i := 72) (by decide +kernel) rfl
theorem wl_CT_257 : Cond.methodLink "CaptionTallies" 257 y_OR_headAt ∈ lw_gt := wq_4 (i := 77) (by decide +kernel) rfl
theorem wl_CT_26 : Cond.fieldLink "CaptionTallies" 26 "CaptionTallies" "history" "LCaptionTallies$History;" ∈ lw_gt := wq_1 (i := 227) (by decide +kernel) rfl
theorem wl_CT_260 : Cond.methodLink "CaptionTallies" 260 y_RO_number ∈ lw_gt := wq_4 (i := 85) (by decide +kernel) rfl
theorem wl_CT_263 : Cond.methodLink "CaptionTallies" 263 y_RO_headOut ∈ lw_gt := wq_4 (i := 89) (by decide +kernel) rfl
theorem wl_CT_266 : Cond.methodLink "CaptionTallies" 266 y_RO_ballotsOfHeadOut ∈ lw_gt := wq_4 (i := 93) (by decide +kernel) rfl
theorem wl_CT_269 : Cond.methodLink "CaptionTallies" 269 y_RO_ballotsForNone ∈ lw_gt := wq_4 (i := 97) (by decide +kernel) rfl
theorem wl_CT_272 : Cond.methodLink "CaptionTallies" 272 y_DI_between ∈ lw_gt := wq_4 (i := 105) (by decide +kernel) rfl
theorem wl_CT_276 : Cond.methodLink "CaptionTallies" 276 y_DI_fill ∈ lw_gt := wq_4 (i := 121) (by decide +kernel) rfl
theorem wl_CT_277 : Cond.methodLink "CaptionTallies" 277 y_DI_pairAt ∈ lw_gt := wq_4 (i := 137) (by decide +kernel) rfl
theorem wl_CT_280 : Cond.methodLink "CaptionTallies" 280 y_DI_ofPair ∈ lw_gt := wq_4 (i := 141) (by decide +kernel) rfl
theorem wl_CT_283 : Cond.methodLink "CaptionTallies" 283 y_CT_captionsBy ∈ lw_gt := wq_4 (i := 149) (by decide +kernel) rfl
theorem wl_CT_286 : Cond.methodLink "CaptionTallies" 286 y_CT_amountFor ∈ lw_gt := wq_4 (i := 157) (by decide +kernel) rfl
theorem wl_CT_289 : Cond.methodLink "CaptionTallies" 289 y_CT_bestPlaceOf ∈ lw_gt := wq_4 (i := 161) (by decide +kernel) rfl
theorem wl_CT_292 : Cond.methodLink "CaptionTallies" 292 y_GR_number ∈ lw_gt := wq_4 (i := 169) (by decide +kernel) rfl
theorem wl_CT_293 : Cond.methodLink "CaptionTallies" 293 y_ST_linksInAll ∈ lw_gt := wq_4 (i := 170) (by decide +kernel) rfl
theorem wl_CT_296 : Cond.methodLink "CaptionTallies" 296 y_CO_ballotsThatCount ∈ lw_gt := wq_4 (i := 174) (by decide +kernel) rfl
theorem wl_CT_299 : Cond.methodLink "CaptionTallies" 299 y_CO_pointsInAll ∈ lw_gt := wq_4 (i := 178) (by decide +kernel) rfl
theorem wl_CT_30 : Cond.fieldLink "CaptionTallies" 30 "CaptionTallies" "snapshot" "LCaptionTallies$State;" ∈ lw_gt := wq_1 (i := 228) (by decide +kernel) rfl
theorem wl_CT_302 : Cond.methodLink "CaptionTallies" 302 y_SH_inAll ∈ lw_gt := wq_4 (i := 182) (by decide +kernel) rfl
theorem wl_CT_305 : Cond.methodLink "CaptionTallies" 305 y_OR_tiedGroups ∈ lw_gt := wq_4 (i := 186) (by decide +kernel) rfl
theorem wl_CT_308 : Cond.methodLink "CaptionTallies" 308 y_RO_play ∈ lw_gt := wq_3 (i := 144) (by decide +kernel) rfl
theorem wl_CT_312 : Cond.methodLink "CaptionTallies" 312 y_CT_fillKeys ∈ lw_gt := wq_3 (i := 192) (by decide +kernel) rfl
theorem wl_CT_315 : Cond.methodLink "CaptionTallies" 315 y_OR_fill ∈ lw_gt := wq_3 (i := 222) (by decide +kernel) rfl
theorem wl_CT_317 : Cond.methodLink "CaptionTallies" 317 y_SH_fill ∈ lw_gt := wq_3 (i := 236) (by decide +kernel) rfl
theorem wl_CT_320 : Cond.methodLink "CaptionTallies" 320 y_OR_clearKeys ∈ lw_gt := wq_3 (i := 196) (by decide +kernel) rfl
theorem wl_CT_323 : Cond.methodLink "CaptionTallies" 323 y_GR_isHead ∈ lw_gt := wq_3 (i := 200) (by decide +kernel) rfl
theorem wl_CT_326 : Cond.methodLink "CaptionTallies" 326 y_CT_keyOf ∈ lw_gt := wq_3 (i := 201) (by decide +kernel) rfl
theorem wl_CT_329 : Cond.methodLink "CaptionTallies" 329 y_OR_giveKey ∈ lw_gt := wq_3 (i := 217) (by decide +kernel) rfl
theorem wl_CT_33 : Cond.fieldLink "CaptionTallies" 33 "CaptionTallies" "hasSnapshot" "Z" ∈ lw_gt := wq_1 (i := 229) (by decide +kernel) rfl
theorem wl_CT_332 : Cond.methodLink "CaptionTallies" 332 y_CT_isBy ∈ lw_gt := wq_4 (i := 153) (by decide +kernel) rfl
theorem wl_CT_335 : Cond.methodLink "CaptionTallies" 335 Lib.Math.min.name ∈ lw_gt := wq_2 (i := 72) (by decide +kernel) rfl
theorem wl_CT_340 : Cond.methodLink "CaptionTallies" 340 arraycopyName ∈ lw_gt := wq_2 (i := 75) (by decide +kernel) rfl
theorem wl_CT_346 : Cond.methodLink "CaptionTallies" 346 y_CT_isSmall ∈ lw_gt := wq_2 (i := 43) (by decide +kernel) rfl
theorem wl_CT_349 : Cond.methodLink "CaptionTallies" 349 y_CT_isGreat ∈ lw_gt := wq_2 (i := 46) (by decide +kernel) rfl
theorem wl_CT_40 : Cond.fieldLink "CaptionTallies" 40 "CaptionTallies" "groups" "LCaptionTallies$Groups;" ∈ lw_gt := wq_1 (i := 230) (by decide +kernel) rfl
theorem wl_CT_47 : Cond.fieldLink "CaptionTallies" 47 "CaptionTallies" "counts" "LCaptionTallies$Counts;" ∈ lw_gt := wq_1 (i := 231) (by decide +kernel) rfl
theorem wl_CT_54 : Cond.fieldLink "CaptionTallies" 54 "CaptionTallies" "ranks" "LCaptionTallies$Ranks;" ∈ lw_gt := wq_1 (i := 232) (by decide +kernel) rfl
theorem wl_CT_61 : Cond.fieldLink "CaptionTallies" 61 "CaptionTallies" "rounds" "LCaptionTallies$Rounds;" ∈ lw_gt := wq_1 (i := 233) (by decide +kernel) rfl
theorem wl_CT_68 : Cond.fieldLink "CaptionTallies" 68 "CaptionTallies" "order" "LCaptionTallies$Order;" ∈ lw_gt := wq_1 (i := 234) (by decide +kernel) rfl
theorem wl_CT_75 : Cond.fieldLink "CaptionTallies" 75 "CaptionTallies" "shares" "LCaptionTallies$Shares;" ∈ lw_gt := wq_1 (i := 235) (by decide +kernel) rfl
theorem wl_CT_82 : Cond.fieldLink "CaptionTallies" 82 "CaptionTallies" "distances" "LCaptionTallies$Distances;" ∈ lw_gt := wq_1 (i := 236) (by decide +kernel) rfl
theorem wl_CT_86 : Cond.methodLink "CaptionTallies" 86 y_CT_isIndex ∈ lw_gt := wq_2 (i := 26) (by decide +kernel) rfl
theorem wl_CT_90 : Cond.methodLink "CaptionTallies" 90 y_DR_firstFault ∈ lw_gt := wq_2 (i := 29) (by decide +kernel) rfl
theorem wl_CT_94 : Cond.methodLink "CaptionTallies" 94 y_ST_captionsSoFar ∈ lw_gt := wq_2 (i := 52) (by decide +kernel) rfl
theorem wl_CT_97 : Cond.methodLink "CaptionTallies" 97 y_HI_record ∈ lw_gt := wq_2 (i := 56) (by decide +kernel) rfl
theorem wl_DI_15 : Cond.fieldLink "CaptionTallies$Distances" 15 "CaptionTallies$Distances" "near" "[I" ∈ lw_gt := wq_1 (i := 219) (by decide +kernel) rfl
theorem wl_DI_18 : Cond.methodLink "CaptionTallies$Distances" 18 y_ST_coreLengthOf ∈ lw_gt := wq_4 (i := 109) (by decide +kernel) rfl
theorem wl_DI_24 : Cond.methodLink "CaptionTallies$Distances" 24 Lib.Math.min.name ∈ lw_gt := wq_4 (i := 110) (by decide +kernel) rfl
theorem wl_DI_30 : Cond.methodLink "CaptionTallies$Distances" 30 y_DI_fillLine ∈ lw_gt := wq_4 (i := 111) (by decide +kernel) rfl
theorem wl_DI_34 : ("CaptionTallies$Distances", 34, y_CT_at) ∈ z_nests := List.mem_of_getElem? (i := 26) rfl
theorem wl_DI_38 : Cond.methodLink "CaptionTallies$Distances" 38 y_ST_coreLetter ∈ lw_gt := wq_4 (i := 115) (by decide +kernel) rfl
theorem wl_DI_41 : Cond.methodLink "CaptionTallies$Distances" 41 y_AR_fill ∈ lw_gt := wq_4 (i := 125) (by decide +kernel) rfl
theorem wl_DI_47 : Cond.methodLink "CaptionTallies$Distances" 47 y_DI_areApart ∈ lw_gt := wq_4 (i := 126) (by decide +kernel) rfl
theorem wl_DI_51 : Cond.methodLink "CaptionTallies$Distances" 51 y_DI_mayBeNear ∈ lw_gt := wq_4 (i := 130) (by decide +kernel) rfl
theorem wl_DI_55 : Cond.methodLink "CaptionTallies$Distances" 55 y_DI_between ∈ lw_gt := wq_4 (i := 136) (by decide +kernel) rfl
theorem wl_DI_59 : Cond.methodLink "CaptionTallies$Distances" 59 y_GR_headOf ∈ lw_gt := wq_4 (i := 129) (by decide +kernel) rfl
theorem wl_DI_64 : Cond.methodLink "CaptionTallies$Distances" 64 Lib.Math.abs.name ∈ lw_gt := wq_4 (i := 133) (by decide +kernel) rfl
theorem wl_DI_9 : Cond.fieldLink "CaptionTallies$Distances" 9 "CaptionTallies$Distances" "row" "[I" ∈ lw_gt := wq_1 (i := 218) (by decide +kernel) rfl
theorem wl_DR_15 : Cond.fieldLink "CaptionTallies$Draft" 15 "CaptionTallies$Draft" "length" "I" ∈ lw_gt := wq_1 (i := 31) (by decide +kernel) rfl
theorem wl_DR_19 : ("CaptionTallies$Draft", 19, y_CT_at) ∈ z_nests := List.mem_of_getElem? (i := 0) rfl
theorem wl_DR_23 : ("CaptionTallies$Draft", 23, y_CT_put) ∈ z_nests := List.mem_of_getElem? (i := 16) rfl
theorem wl_DR_27 : Cond.methodLink "CaptionTallies$Draft" 27 y_DR_codeAt ∈ lw_gt := wq_2 (i := 33) (by decide +kernel) rfl
theorem wl_DR_31 : ("CaptionTallies$Draft", 31, y_CT_isLetter) ∈ z_nests := List.mem_of_getElem? (i := 1) rfl
theorem wl_DR_35 : ("CaptionTallies$Draft", 35, y_CT_isSign) ∈ z_nests := List.mem_of_getElem? (i := 2) rfl
theorem wl_DR_9 : Cond.fieldLink "CaptionTallies$Draft" 9 "CaptionTallies$Draft" "codes" "[I" ∈ lw_gt := wq_1 (i := 30) (by decide +kernel) rfl
theorem wl_GR_15 : Cond.fieldLink "CaptionTallies$Groups" 15 "CaptionTallies$Groups" "reached" "[I" ∈ lw_gt := wq_1 (i := 111) (by decide +kernel) rfl
theorem wl_GR_18 : Cond.fieldLink "CaptionTallies$Groups" 18 "CaptionTallies$Groups" "number" "I" ∈ lw_gt := wq_1 (i := 112) (by decide +kernel) rfl
theorem wl_GR_22 : Cond.methodLink "CaptionTallies$Groups" 22 y_AR_fill ∈ lw_gt := wq_2 (i := 145) (by decide +kernel) rfl
theorem wl_GR_28 : Cond.methodLink "CaptionTallies$Groups" 28 y_ST_isIn ∈ lw_gt := wq_2 (i := 146) (by decide +kernel) rfl
theorem wl_GR_34 : Cond.methodLink "CaptionTallies$Groups" 34 y_GR_gather ∈ lw_gt := wq_2 (i := 147) (by decide +kernel) rfl
theorem wl_GR_38 : ("CaptionTallies$Groups", 38, y_CT_put) ∈ z_nests := List.mem_of_getElem? (i := 11) rfl
theorem wl_GR_42 : Cond.methodLink "CaptionTallies$Groups" 42 y_GR_areTied ∈ lw_gt := wq_2 (i := 152) (by decide +kernel) rfl
theorem wl_GR_46 : Cond.methodLink "CaptionTallies$Groups" 46 y_ST_areLinked ∈ lw_gt := wq_2 (i := 155) (by decide +kernel) rfl
theorem wl_GR_50 : Cond.methodLink "CaptionTallies$Groups" 50 y_ST_areAlike ∈ lw_gt := wq_2 (i := 159) (by decide +kernel) rfl
theorem wl_GR_53 : ("CaptionTallies$Groups", 53, y_CT_at) ∈ z_nests := List.mem_of_getElem? (i := 12) rfl
theorem wl_GR_57 : ("CaptionTallies$Groups", 57, y_CT_isIndex) ∈ z_nests := List.mem_of_getElem? (i := 15) rfl
theorem wl_GR_60 : Cond.methodLink "CaptionTallies$Groups" 60 y_GR_membersBelow ∈ lw_gt := wq_4 (i := 37) (by decide +kernel) rfl
theorem wl_GR_9 : Cond.fieldLink "CaptionTallies$Groups" 9 "CaptionTallies$Groups" "heads" "[I" ∈ lw_gt := wq_1 (i := 110) (by decide +kernel) rfl
theorem wl_HI_11 : Cond.fieldLink "CaptionTallies$History" 11 "CaptionTallies$History" "states" "[LCaptionTallies$State;" ∈ lw_gt := wq_1 (i := 97) (by decide +kernel) rfl
theorem wl_HI_18 : Cond.fieldLink "CaptionTallies$History" 18 "CaptionTallies$History" "size" "I" ∈ lw_gt := wq_1 (i := 98) (by decide +kernel) rfl
theorem wl_HI_22 : Cond.methodLink "CaptionTallies$History" 22 y_HI_dropOldest ∈ lw_gt := wq_2 (i := 60) (by decide +kernel) rfl
theorem wl_HI_25 : ("CaptionTallies$History", 25, y_CT_isIndex) ∈ z_nests := List.mem_of_getElem? (i := 3) rfl
theorem wl_HI_29 : Cond.methodLink "CaptionTallies$History" 29 y_ST_copyFrom ∈ lw_gt := wq_2 (i := 65) (by decide +kernel) rfl
theorem wl_MO_103 : Cond.methodLink "CaptionTalliesModel" 103 y_MO_isAlike ∈ lw_gt := wq_5 (i := 86) (by decide +kernel) rfl
theorem wl_MO_106 : Cond.methodLink "CaptionTalliesModel" 106 y_MO_most ∈ lw_gt := wq_5 (i := 106) (by decide +kernel) rfl
theorem wl_MO_109 : Cond.methodLink "CaptionTalliesModel" 109 y_MO_isHead ∈ lw_gt := wq_5 (i := 110) (by decide +kernel) rfl
theorem wl_MO_112 : Cond.methodLink "CaptionTalliesModel" 112 y_MO_heads ∈ lw_gt := wq_5 (i := 67) (by decide +kernel) rfl
theorem wl_MO_115 : Cond.methodLink "CaptionTalliesModel" 115 y_MO_counts ∈ lw_gt := wq_5 (i := 158) (by decide +kernel) rfl
theorem wl_MO_118 : Cond.methodLink "CaptionTalliesModel" 118 y_MO_rank ∈ lw_gt := wq_5 (i := 102) (by decide +kernel) rfl
theorem wl_MO_121 : Cond.methodLink "CaptionTalliesModel" 121 y_MO_standsFor ∈ lw_gt := wq_5 (i := 166) (by decide +kernel) rfl
theorem wl_MO_124 : Cond.methodLink "CaptionTalliesModel" 124 y_MO_tally ∈ lw_gt := wq_5 (i := 178) (by decide +kernel) rfl
theorem wl_MO_127 : Cond.methodLink "CaptionTalliesModel" 127 y_MO_isAhead ∈ lw_gt := wq_5 (i := 174) (by decide +kernel) rfl
theorem wl_MO_13 : Cond.fieldLink "CaptionTalliesModel" 13 "CaptionTalliesModel" "slot" "[I" ∈ lw_gt := wq_4 (i := 198) (by decide +kernel) rfl
theorem wl_MO_130 : Cond.methodLink "CaptionTalliesModel" 130 y_MO_tallies ∈ lw_gt := wq_5 (i := 154) (by decide +kernel) rfl
theorem wl_MO_133 : Cond.methodLink "CaptionTalliesModel" 133 y_MO_goesRounds ∈ lw_gt := wq_5 (i := 162) (by decide +kernel) rfl
theorem wl_MO_136 : Cond.methodLink "CaptionTalliesModel" 136 y_MO_orders ∈ lw_gt := wq_5 (i := 170) (by decide +kernel) rfl
theorem wl_MO_139 : Cond.methodLink "CaptionTalliesModel" 139 y_MO_prizeOf ∈ lw_gt := wq_5 (i := 182) (by decide +kernel) rfl
theorem wl_MO_142 : Cond.methodLink "CaptionTalliesModel" 142 y_MO_shares ∈ lw_gt := wq_5 (i := 186) (by decide +kernel) rfl
theorem wl_MO_146 : Cond.fieldLink "CaptionTalliesModel" 146 "CaptionTalliesModel" "length" "I" ∈ lw_gt := wq_4 (i := 202) (by decide +kernel) rfl
theorem wl_MO_149 : Cond.methodLink "CaptionTalliesModel" 149 y_MO_isSign ∈ lw_gt := wq_5 (i := 41) (by decide +kernel) rfl
theorem wl_MO_152 : Cond.methodLink "CaptionTalliesModel" 152 y_MO_fault ∈ lw_gt := wq_5 (i := 37) (by decide +kernel) rfl
theorem wl_MO_156 : Cond.methodLink "CaptionTalliesModel" 156 y_MO_record ∈ lw_gt := wq_5 (i := 47) (by decide +kernel) rfl
theorem wl_MO_159 : Cond.methodLink "CaptionTalliesModel" 159 y_MO_there ∈ lw_gt := wq_5 (i := 59) (by decide +kernel) rfl
theorem wl_MO_16 : Cond.fieldLink "CaptionTalliesModel" 16 "CaptionTalliesModel" "history" "[I" ∈ lw_gt := wq_4 (i := 199) (by decide +kernel) rfl
theorem wl_MO_162 : Cond.fieldLink "CaptionTalliesModel" 162 "CaptionTalliesModel" "isFilled" "Z" ∈ lw_gt := wq_4 (i := 203) (by decide +kernel) rfl
theorem wl_MO_166 : Cond.methodLink "CaptionTalliesModel" 166 y_MO_links ∈ lw_gt := wq_5 (i := 146) (by decide +kernel) rfl
theorem wl_MO_169 : Cond.methodLink "CaptionTalliesModel" 169 y_MO_works ∈ lw_gt := wq_5 (i := 150) (by decide +kernel) rfl
theorem wl_MO_172 : Cond.methodLink "CaptionTalliesModel" 172 y_MO_stands ∈ lw_gt := wq_5 (i := 190) (by decide +kernel) rfl
theorem wl_MO_175 : Cond.methodLink "CaptionTalliesModel" 175 y_MO_members ∈ lw_gt := wq_5 (i := 202) (by decide +kernel) rfl
theorem wl_MO_178 : Cond.methodLink "CaptionTalliesModel" 178 y_MO_getsGroup ∈ lw_gt := wq_5 (i := 206) (by decide +kernel) rfl
theorem wl_MO_181 : Cond.methodLink "CaptionTalliesModel" 181 y_MO_far ∈ lw_gt := wq_5 (i := 230) (by decide +kernel) rfl
theorem wl_MO_184 : Cond.methodLink "CaptionTalliesModel" 184 y_MO_allLinks ∈ lw_gt := wq_6 (i := 6) (by decide +kernel) rfl
theorem wl_MO_187 : Cond.methodLink "CaptionTalliesModel" 187 y_MO_over ∈ lw_gt := wq_6 (i := 10) (by decide +kernel) rfl
theorem wl_MO_19 : Cond.fieldLink "CaptionTalliesModel" 19 "CaptionTalliesModel" "text" "[I" ∈ lw_gt := wq_4 (i := 200) (by decide +kernel) rfl
theorem wl_MO_22 : Cond.fieldLink "CaptionTalliesModel" 22 "CaptionTalliesModel" "head" "[I" ∈ lw_gt := wq_4 (i := 204) (by decide +kernel) rfl
theorem wl_MO_25 : Cond.fieldLink "CaptionTalliesModel" 25 "CaptionTalliesModel" "points" "[I" ∈ lw_gt := wq_4 (i := 205) (by decide +kernel) rfl
theorem wl_MO_28 : Cond.fieldLink "CaptionTalliesModel" 28 "CaptionTalliesModel" "firsts" "[I" ∈ lw_gt := wq_4 (i := 206) (by decide +kernel) rfl
theorem wl_MO_31 : Cond.fieldLink "CaptionTalliesModel" 31 "CaptionTalliesModel" "ranks" "[I" ∈ lw_gt := wq_4 (i := 207) (by decide +kernel) rfl
theorem wl_MO_34 : Cond.fieldLink "CaptionTalliesModel" 34 "CaptionTalliesModel" "outs" "[I" ∈ lw_gt := wq_4 (i := 208) (by decide +kernel) rfl
theorem wl_MO_37 : Cond.fieldLink "CaptionTalliesModel" 37 "CaptionTalliesModel" "rounds" "[I" ∈ lw_gt := wq_4 (i := 209) (by decide +kernel) rfl
theorem wl_MO_40 : Cond.fieldLink "CaptionTalliesModel" 40 "CaptionTalliesModel" "votes" "[I" ∈ lw_gt := wq_4 (i := 210) (by decide +kernel) rfl
theorem wl_MO_43 : Cond.fieldLink "CaptionTalliesModel" 43 "CaptionTalliesModel" "loose" "[I" ∈ lw_gt := wq_4 (i := 211) (by decide +kernel) rfl
theorem wl_MO_46 : Cond.fieldLink "CaptionTalliesModel" 46 "CaptionTalliesModel" "places" "[I" ∈ lw_gt := wq_4 (i := 212) (by decide +kernel) rfl
theorem wl_MO_49 : Cond.fieldLink "CaptionTalliesModel" 49 "CaptionTalliesModel" "order" "[I" ∈ lw_gt := wq_4 (i := 213) (by decide +kernel) rfl
theorem wl_MO_52 : Cond.fieldLink "CaptionTalliesModel" 52 "CaptionTalliesModel" "gets" "[I" ∈ lw_gt := wq_4 (i := 214) (by decide +kernel) rfl
theorem wl_MO_55 : Cond.fieldLink "CaptionTalliesModel" 55 "CaptionTalliesModel" "counted" "[I" ∈ lw_gt := wq_4 (i := 215) (by decide +kernel) rfl
theorem wl_MO_58 : Cond.fieldLink "CaptionTalliesModel" 58 "CaptionTalliesModel" "cores" "[I" ∈ lw_gt := wq_4 (i := 216) (by decide +kernel) rfl
theorem wl_MO_61 : Cond.fieldLink "CaptionTalliesModel" 61 "CaptionTalliesModel" "letters" "[I" ∈ lw_gt := wq_4 (i := 217) (by decide +kernel) rfl
theorem wl_MO_64 : Cond.fieldLink "CaptionTalliesModel" 64 "CaptionTalliesModel" "above" "[I" ∈ lw_gt := wq_4 (i := 218) (by decide +kernel) rfl
theorem wl_MO_67 : Cond.fieldLink "CaptionTalliesModel" 67 "CaptionTalliesModel" "here" "[I" ∈ lw_gt := wq_4 (i := 219) (by decide +kernel) rfl
theorem wl_MO_7 : Cond.fieldLink "CaptionTalliesModel" 7 "CaptionTalliesModel" "now" "[I" ∈ lw_gt := wq_4 (i := 197) (by decide +kernel) rfl
theorem wl_MO_70 : Cond.fieldLink "CaptionTalliesModel" 70 "CaptionTalliesModel" "kept" "I" ∈ lw_gt := wq_4 (i := 201) (by decide +kernel) rfl
theorem wl_MO_74 : Cond.methodLink "CaptionTalliesModel" 74 y_MO_in ∈ lw_gt := wq_5 (i := 34) (by decide +kernel) rfl
theorem wl_MO_78 : Cond.methodLink "CaptionTalliesModel" 78 y_MO_isLetter ∈ lw_gt := wq_5 (i := 44) (by decide +kernel) rfl
theorem wl_MO_82 : Cond.methodLink "CaptionTalliesModel" 82 y_MO_sign ∈ lw_gt := wq_5 (i := 75) (by decide +kernel) rfl
theorem wl_MO_86 : Cond.methodLink "CaptionTalliesModel" 86 y_MO_small ∈ lw_gt := wq_5 (i := 79) (by decide +kernel) rfl
theorem wl_MO_90 : Cond.methodLink "CaptionTalliesModel" 90 y_MO_takesCores ∈ lw_gt := wq_5 (i := 71) (by decide +kernel) rfl
theorem wl_MO_93 : Cond.fieldLink "CaptionTalliesModel" 93 "CaptionTalliesModel" "groups" "I" ∈ lw_gt := wq_4 (i := 220) (by decide +kernel) rfl
theorem wl_MO_96 : Cond.methodLink "CaptionTalliesModel" 96 y_MO_is ∈ lw_gt := wq_5 (i := 55) (by decide +kernel) rfl
theorem wl_MO_99 : Cond.methodLink "CaptionTalliesModel" 99 y_MO_isLinked ∈ lw_gt := wq_5 (i := 82) (by decide +kernel) rfl
theorem wl_OR_15 : Cond.fieldLink "CaptionTallies$Order" 15 "CaptionTallies$Order" "keys" "[I" ∈ lw_gt := wq_1 (i := 187) (by decide +kernel) rfl
theorem wl_OR_19 : Cond.fieldLink "CaptionTallies$Order" 19 "CaptionTallies$Order" "places" "[I" ∈ lw_gt := wq_1 (i := 188) (by decide +kernel) rfl
theorem wl_OR_22 : Cond.fieldLink "CaptionTallies$Order" 22 "CaptionTallies$Order" "indexes" "[I" ∈ lw_gt := wq_1 (i := 189) (by decide +kernel) rfl
theorem wl_OR_25 : ("CaptionTallies$Order", 25, y_CT_isIndex) ∈ z_nests := List.mem_of_getElem? (i := 22) rfl
theorem wl_OR_29 : Cond.methodLink "CaptionTallies$Order" 29 y_AR_fill ∈ lw_gt := wq_3 (i := 226) (by decide +kernel) rfl
theorem wl_OR_35 : Cond.methodLink "CaptionTallies$Order" 35 y_OR_groupsAhead ∈ lw_gt := wq_3 (i := 227) (by decide +kernel) rfl
theorem wl_OR_39 : Cond.methodLink "CaptionTallies$Order" 39 y_OR_tiedBelow ∈ lw_gt := wq_3 (i := 232) (by decide +kernel) rfl
theorem wl_OR_43 : ("CaptionTallies$Order", 43, y_CT_at) ∈ z_nests := List.mem_of_getElem? (i := 23) rfl
theorem wl_OR_47 : Cond.methodLink "CaptionTallies$Order" 47 y_OR_tiedWith ∈ lw_gt := wq_4 (i := 190) (by decide +kernel) rfl
theorem wl_OR_9 : Cond.fieldLink "CaptionTallies$Order" 9 "CaptionTallies$Order" "ordered" "[Z" ∈ lw_gt := wq_1 (i := 186) (by decide +kernel) rfl
theorem wl_RA_15 : Cond.fieldLink "CaptionTallies$Ranks" 15 "CaptionTallies$Ranks" "ranks" "[I" ∈ lw_gt := wq_1 (i := 143) (by decide +kernel) rfl
theorem wl_RA_18 : Cond.fieldLink "CaptionTallies$Ranks" 18 "CaptionTallies$Ranks" "sums" "[I" ∈ lw_gt := wq_1 (i := 144) (by decide +kernel) rfl
theorem wl_RA_21 : Cond.methodLink "CaptionTallies$Ranks" 21 y_AR_fill ∈ lw_gt := wq_2 (i := 235) (by decide +kernel) rfl
theorem wl_RA_27 : Cond.methodLink "CaptionTallies$Ranks" 27 y_RA_fillPoints ∈ lw_gt := wq_2 (i := 236) (by decide +kernel) rfl
theorem wl_RA_31 : Cond.methodLink "CaptionTallies$Ranks" 31 y_RA_fillRanks ∈ lw_gt := wq_3 (i := 11) (by decide +kernel) rfl
theorem wl_RA_35 : Cond.methodLink "CaptionTallies$Ranks" 35 y_GR_headOf ∈ lw_gt := wq_3 (i := 0) (by decide +kernel) rfl
theorem wl_RA_41 : Cond.methodLink "CaptionTallies$Ranks" 41 y_RA_pointsBy ∈ lw_gt := wq_3 (i := 1) (by decide +kernel) rfl
theorem wl_RA_45 : Cond.methodLink "CaptionTallies$Ranks" 45 y_ST_pointsBy ∈ lw_gt := wq_3 (i := 6) (by decide +kernel) rfl
theorem wl_RA_48 : Cond.methodLink "CaptionTallies$Ranks" 48 Lib.Math.max.name ∈ lw_gt := wq_3 (i := 7) (by decide +kernel) rfl
theorem wl_RA_53 : ("CaptionTallies$Ranks", 53, y_CT_put) ∈ z_nests := List.mem_of_getElem? (i := 14) rfl
theorem wl_RA_57 : Cond.methodLink "CaptionTallies$Ranks" 57 y_GR_isHead ∈ lw_gt := wq_3 (i := 15) (by decide +kernel) rfl
theorem wl_RA_61 : Cond.methodLink "CaptionTallies$Ranks" 61 y_RA_groupsWithMore ∈ lw_gt := wq_3 (i := 20) (by decide +kernel) rfl
theorem wl_RA_65 : ("CaptionTallies$Ranks", 65, y_CT_at) ∈ z_nests := List.mem_of_getElem? (i := 13) rfl
theorem wl_RA_9 : Cond.fieldLink "CaptionTallies$Ranks" 9 "CaptionTallies$Ranks" "points" "[I" ∈ lw_gt := wq_1 (i := 142) (by decide +kernel) rfl
theorem wl_RO_103 : Cond.methodLink "CaptionTallies$Rounds" 103 y_RA_sumOf ∈ lw_gt := wq_3 (i := 183) (by decide +kernel) rfl
theorem wl_RO_108 : ("CaptionTallies$Rounds", 108, y_CT_at) ∈ z_nests := List.mem_of_getElem? (i := 21) rfl
theorem wl_RO_15 : Cond.fieldLink "CaptionTallies$Rounds" 15 "CaptionTallies$Rounds" "choices" "[I" ∈ lw_gt := wq_1 (i := 159) (by decide +kernel) rfl
theorem wl_RO_19 : Cond.fieldLink "CaptionTallies$Rounds" 19 "CaptionTallies$Rounds" "roundOut" "[I" ∈ lw_gt := wq_1 (i := 160) (by decide +kernel) rfl
theorem wl_RO_22 : Cond.fieldLink "CaptionTallies$Rounds" 22 "CaptionTallies$Rounds" "headsOut" "[I" ∈ lw_gt := wq_1 (i := 161) (by decide +kernel) rfl
theorem wl_RO_25 : Cond.fieldLink "CaptionTallies$Rounds" 25 "CaptionTallies$Rounds" "ballotsOut" "[I" ∈ lw_gt := wq_1 (i := 162) (by decide +kernel) rfl
theorem wl_RO_28 : Cond.fieldLink "CaptionTallies$Rounds" 28 "CaptionTallies$Rounds" "ballotsForNone" "[I" ∈ lw_gt := wq_1 (i := 163) (by decide +kernel) rfl
theorem wl_RO_31 : Cond.fieldLink "CaptionTallies$Rounds" 31 "CaptionTallies$Rounds" "number" "I" ∈ lw_gt := wq_1 (i := 164) (by decide +kernel) rfl
theorem wl_RO_35 : Cond.methodLink "CaptionTallies$Rounds" 35 y_RO_beginWith ∈ lw_gt := wq_3 (i := 148) (by decide +kernel) rfl
theorem wl_RO_39 : Cond.methodLink "CaptionTallies$Rounds" 39 y_GR_number ∈ lw_gt := wq_3 (i := 154) (by decide +kernel) rfl
theorem wl_RO_44 : Cond.methodLink "CaptionTallies$Rounds" 44 Lib.Math.max.name ∈ lw_gt := wq_3 (i := 158) (by decide +kernel) rfl
theorem wl_RO_50 : Cond.methodLink "CaptionTallies$Rounds" 50 Lib.Math.min.name ∈ lw_gt := wq_3 (i := 159) (by decide +kernel) rfl
theorem wl_RO_53 : Cond.methodLink "CaptionTallies$Rounds" 53 y_RO_choose ∈ lw_gt := wq_3 (i := 160) (by decide +kernel) rfl
theorem wl_RO_57 : Cond.methodLink "CaptionTallies$Rounds" 57 y_RO_weakest ∈ lw_gt := wq_3 (i := 171) (by decide +kernel) rfl
theorem wl_RO_61 : ("CaptionTallies$Rounds", 61, y_CT_put) ∈ z_nests := List.mem_of_getElem? (i := 20) rfl
theorem wl_RO_65 : Cond.methodLink "CaptionTallies$Rounds" 65 y_RO_ballotsFor ∈ lw_gt := wq_3 (i := 179) (by decide +kernel) rfl
theorem wl_RO_69 : Cond.methodLink "CaptionTallies$Rounds" 69 y_RO_leaveOut ∈ lw_gt := wq_3 (i := 188) (by decide +kernel) rfl
theorem wl_RO_73 : Cond.methodLink "CaptionTallies$Rounds" 73 y_AR_fill ∈ lw_gt := wq_3 (i := 152) (by decide +kernel) rfl
theorem wl_RO_79 : Cond.methodLink "CaptionTallies$Rounds" 79 y_GR_isHead ∈ lw_gt := wq_3 (i := 153) (by decide +kernel) rfl
theorem wl_RO_83 : ("CaptionTallies$Rounds", 83, y_CT_isIndex) ∈ z_nests := List.mem_of_getElem? (i := 19) rfl
theorem wl_RO_87 : Cond.methodLink "CaptionTallies$Rounds" 87 y_RO_firstLeft ∈ lw_gt := wq_3 (i := 164) (by decide +kernel) rfl
theorem wl_RO_9 : Cond.fieldLink "CaptionTallies$Rounds" 9 "CaptionTallies$Rounds" "left" "[Z" ∈ lw_gt := wq_1 (i := 158) (by decide +kernel) rfl
theorem wl_RO_91 : Cond.methodLink "CaptionTallies$Rounds" 91 y_ST_wish ∈ lw_gt := wq_3 (i := 168) (by decide +kernel) rfl
theorem wl_RO_96 : Cond.methodLink "CaptionTallies$Rounds" 96 y_GR_headOf ∈ lw_gt := wq_3 (i := 169) (by decide +kernel) rfl
theorem wl_RO_99 : Cond.methodLink "CaptionTallies$Rounds" 99 y_RO_isWeaker ∈ lw_gt := wq_3 (i := 175) (by decide +kernel) rfl
theorem wl_SH_15 : Cond.fieldLink "CaptionTallies$Shares" 15 "CaptionTallies$Shares" "ofCaptions" "[I" ∈ lw_gt := wq_1 (i := 206) (by decide +kernel) rfl
theorem wl_SH_18 : Cond.methodLink "CaptionTallies$Shares" 18 y_AR_fill ∈ lw_gt := wq_4 (i := 0) (by decide +kernel) rfl
theorem wl_SH_24 : Cond.methodLink "CaptionTallies$Shares" 24 y_GR_isHead ∈ lw_gt := wq_4 (i := 1) (by decide +kernel) rfl
theorem wl_SH_30 : Cond.methodLink "CaptionTallies$Shares" 30 y_OR_placeOf ∈ lw_gt := wq_4 (i := 2) (by decide +kernel) rfl
theorem wl_SH_36 : Cond.methodLink "CaptionTallies$Shares" 36 y_OR_tiedWith ∈ lw_gt := wq_4 (i := 6) (by decide +kernel) rfl
theorem wl_SH_39 : Cond.methodLink "CaptionTallies$Shares" 39 y_SH_prizesTogether ∈ lw_gt := wq_4 (i := 10) (by decide +kernel) rfl
theorem wl_SH_43 : Cond.methodLink "CaptionTallies$Shares" 43 y_OR_tiedBelow ∈ lw_gt := wq_4 (i := 19) (by decide +kernel) rfl
theorem wl_SH_47 : ("CaptionTallies$Shares", 47, y_CT_portion) ∈ z_nests := List.mem_of_getElem? (i := 24) rfl
theorem wl_SH_51 : Cond.methodLink "CaptionTallies$Shares" 51 y_GR_headOf ∈ lw_gt := wq_4 (i := 23) (by decide +kernel) rfl
theorem wl_SH_54 : Cond.methodLink "CaptionTallies$Shares" 54 y_GR_membersBelow ∈ lw_gt := wq_4 (i := 24) (by decide +kernel) rfl
theorem wl_SH_57 : Cond.methodLink "CaptionTallies$Shares" 57 y_SH_ofGroup ∈ lw_gt := wq_4 (i := 28) (by decide +kernel) rfl
theorem wl_SH_60 : Cond.methodLink "CaptionTallies$Shares" 60 y_GR_sizeOf ∈ lw_gt := wq_4 (i := 33) (by decide +kernel) rfl
theorem wl_SH_63 : Cond.methodLink "CaptionTallies$Shares" 63 y_ST_prizeGivenAt ∈ lw_gt := wq_4 (i := 13) (by decide +kernel) rfl
theorem wl_SH_68 : ("CaptionTallies$Shares", 68, y_CT_at) ∈ z_nests := List.mem_of_getElem? (i := 25) rfl
theorem wl_SH_9 : Cond.fieldLink "CaptionTallies$Shares" 9 "CaptionTallies$Shares" "ofGroups" "[I" ∈ lw_gt := wq_1 (i := 205) (by decide +kernel) rfl
theorem wl_ST_102 : ("CaptionTallies$State", 102, y_CT_isLetter) ∈ z_nests := List.mem_of_getElem? (i := 8) rfl
theorem wl_ST_105 : Cond.methodLink "CaptionTallies$State" 105 y_ST_coreLengthOf ∈ lw_gt := wq_2 (i := 100) (by decide +kernel) rfl
theorem wl_ST_108 : ("CaptionTallies$State", 108, y_CT_smallOf) ∈ z_nests := List.mem_of_getElem? (i := 10) rfl
theorem wl_ST_111 : Cond.methodLink "CaptionTallies$State" 111 y_ST_haveSameCore ∈ lw_gt := wq_2 (i := 112) (by decide +kernel) rfl
theorem wl_ST_114 : Cond.methodLink "CaptionTallies$State" 114 y_ST_coreLetter ∈ lw_gt := wq_2 (i := 116) (by decide +kernel) rfl
theorem wl_ST_117 : ("CaptionTallies$State", 117, y_CT_at) ∈ z_nests := List.mem_of_getElem? (i := 9) rfl
theorem wl_ST_121 : Cond.methodLink "CaptionTallies$State" 121 y_ST_lengthOf ∈ lw_gt := wq_4 (i := 54) (by decide +kernel) rfl
theorem wl_ST_124 : Cond.methodLink "CaptionTallies$State" 124 y_ST_putLink ∈ lw_gt := wq_2 (i := 172) (by decide +kernel) rfl
theorem wl_ST_128 : Cond.methodLink "CaptionTallies$State" 128 y_ST_areLinked ∈ lw_gt := wq_2 (i := 184) (by decide +kernel) rfl
theorem wl_ST_131 : Cond.methodLink "CaptionTallies$State" 131 y_ST_wish ∈ lw_gt := wq_2 (i := 207) (by decide +kernel) rfl
theorem wl_ST_134 : Cond.methodLink "CaptionTallies$State" 134 y_ST_setting ∈ lw_gt := wq_4 (i := 17) (by decide +kernel) rfl
theorem wl_ST_137 : Cond.methodLink "CaptionTallies$State" 137 y_ST_prizeOf ∈ lw_gt := wq_4 (i := 18) (by decide +kernel) rfl
theorem wl_ST_15 : Cond.fieldLink "CaptionTallies$State" 15 "CaptionTallies$State" "present" "[Z" ∈ lw_gt := wq_1 (i := 48) (by decide +kernel) rfl
theorem wl_ST_19 : Cond.fieldLink "CaptionTallies$State" 19 "CaptionTallies$State" "authors" "[I" ∈ lw_gt := wq_1 (i := 49) (by decide +kernel) rfl
theorem wl_ST_23 : Cond.fieldLink "CaptionTallies$State" 23 "CaptionTallies$State" "texts" "[I" ∈ lw_gt := wq_1 (i := 50) (by decide +kernel) rfl
theorem wl_ST_26 : Cond.fieldLink "CaptionTallies$State" 26 "CaptionTallies$State" "lengths" "[I" ∈ lw_gt := wq_1 (i := 51) (by decide +kernel) rfl
theorem wl_ST_29 : Cond.fieldLink "CaptionTallies$State" 29 "CaptionTallies$State" "cores" "[I" ∈ lw_gt := wq_1 (i := 52) (by decide +kernel) rfl
theorem wl_ST_32 : Cond.fieldLink "CaptionTallies$State" 32 "CaptionTallies$State" "coreLengths" "[I" ∈ lw_gt := wq_1 (i := 53) (by decide +kernel) rfl
theorem wl_ST_35 : Cond.fieldLink "CaptionTallies$State" 35 "CaptionTallies$State" "firstAlike" "[I" ∈ lw_gt := wq_1 (i := 54) (by decide +kernel) rfl
theorem wl_ST_38 : Cond.fieldLink "CaptionTallies$State" 38 "CaptionTallies$State" "links" "[Z" ∈ lw_gt := wq_1 (i := 55) (by decide +kernel) rfl
theorem wl_ST_41 : Cond.fieldLink "CaptionTallies$State" 41 "CaptionTallies$State" "wishes" "[I" ∈ lw_gt := wq_1 (i := 56) (by decide +kernel) rfl
theorem wl_ST_44 : Cond.fieldLink "CaptionTallies$State" 44 "CaptionTallies$State" "points" "[I" ∈ lw_gt := wq_1 (i := 57) (by decide +kernel) rfl
theorem wl_ST_47 : Cond.fieldLink "CaptionTallies$State" 47 "CaptionTallies$State" "settings" "[I" ∈ lw_gt := wq_1 (i := 58) (by decide +kernel) rfl
theorem wl_ST_50 : Cond.fieldLink "CaptionTallies$State" 50 "CaptionTallies$State" "prizes" "[I" ∈ lw_gt := wq_1 (i := 59) (by decide +kernel) rfl
theorem wl_ST_59 : ("CaptionTallies$State", 59, y_CT_copyFlags) ∈ z_nests := List.mem_of_getElem? (i := 4) rfl
theorem wl_ST_63 : ("CaptionTallies$State", 63, y_CT_copyRow) ∈ z_nests := List.mem_of_getElem? (i := 5) rfl
theorem wl_ST_67 : ("CaptionTallies$State", 67, y_CT_isIndex) ∈ z_nests := List.mem_of_getElem? (i := 6) rfl
theorem wl_ST_71 : Cond.methodLink "CaptionTallies$State" 71 y_ST_isIn ∈ lw_gt := wq_2 (i := 136) (by decide +kernel) rfl
theorem wl_ST_75 : Cond.methodLink "CaptionTallies$State" 75 y_DR_length ∈ lw_gt := wq_2 (i := 86) (by decide +kernel) rfl
theorem wl_ST_81 : Cond.methodLink "CaptionTallies$State" 81 Lib.Math.min.name ∈ lw_gt := wq_2 (i := 90) (by decide +kernel) rfl
theorem wl_ST_87 : Cond.methodLink "CaptionTallies$State" 87 y_DR_codeAt ∈ lw_gt := wq_2 (i := 91) (by decide +kernel) rfl
theorem wl_ST_9 : Cond.fieldLink "CaptionTallies$State" 9 "CaptionTallies$State" "made" "I" ∈ lw_gt := wq_1 (i := 47) (by decide +kernel) rfl
theorem wl_ST_91 : Cond.methodLink "CaptionTallies$State" 91 y_ST_addLetter ∈ lw_gt := wq_2 (i := 92) (by decide +kernel) rfl
theorem wl_ST_95 : Cond.methodLink "CaptionTallies$State" 95 y_ST_firstWithCoreOf ∈ lw_gt := wq_2 (i := 108) (by decide +kernel) rfl
theorem wl_ST_98 : ("CaptionTallies$State", 98, y_CT_put) ∈ z_nests := List.mem_of_getElem? (i := 7) rfl
theorem wm_max_s : Cond.static Lib.Math.max.name ∈ lw_gt := wq_3 (i := 8) (by decide +kernel) rfl
set_option maxRecDepth 20000 in
theorem wm_max_c : Cond.code Lib.Math.max.name Lib.Math.max.code 2 (some .int) ∈ lw_gt := wq_3 (i := 9) (by decide +kernel) rfl
theorem wm_min_s : Cond.static Lib.Math.min.name ∈ lw_gt := wq_2 (i := 73) (by decide +kernel) rfl
set_option maxRecDepth 20000 in
theorem wm_min_c : Cond.code Lib.Math.min.name Lib.Math.min.code 2 (some .int) ∈ lw_gt := wq_2 (i := 74) (by decide +kernel) rfl
theorem wm_abs_s : Cond.static Lib.Math.abs.name ∈ lw_gt := wq_4 (i := 134) (by decide +kernel) rfl
set_option maxRecDepth 20000 in
theorem wm_abs_c : Cond.code Lib.Math.abs.name Lib.Math.abs.code 1 (some .int) ∈ lw_gt := wq_4 (i := 135) (by decide +kernel) rfl
theorem wm_cp_n : Cond.native arraycopyName ∈ lw_gt := wq_2 (i := 77) (by decide +kernel) rfl
theorem wm_cp_s : Cond.static arraycopyName ∈ lw_gt := wq_2 (i := 76) (by decide +kernel) rfl
theorem co_CT_isIndex : cOK y_CT_isIndex c_CT_isIndex 2 (some .boolean) 2 := ⟨k_CT_isIndex, wi_CT, ⟨by decide +kernel, by decide +kernel⟩, by decide +kernel⟩
theorem co_CT_isGreat : cOK y_CT_isGreat c_CT_isGreat 1 (some .boolean) 1 := ⟨k_CT_isGreat, wi_CT, ⟨by decide +kernel, by decide +kernel⟩, by decide +kernel⟩
theorem co_CT_isSmall : cOK y_CT_isSmall c_CT_isSmall 1 (some .boolean) 1 := ⟨k_CT_isSmall, wi_CT, ⟨by decide +kernel, by decide +kernel⟩, by decide +kernel⟩
theorem co_CT_isLetter : cOK y_CT_isLetter c_CT_isLetter 1 (some .boolean) 1 := ⟨k_CT_isLetter, wi_CT, ⟨by decide +kernel, by decide +kernel⟩, by decide +kernel⟩
theorem co_CT_isSign : cOK y_CT_isSign c_CT_isSign 1 (some .boolean) 1 := ⟨k_CT_isSign, wi_CT, ⟨by decide +kernel, by decide +kernel⟩, by decide +kernel⟩
theorem co_CT_at : cOK y_CT_at c_CT_at 2 (some .int) 2 := ⟨k_CT_at, wi_CT, ⟨by decide +kernel, by decide +kernel⟩, by decide +kernel⟩
theorem co_DR_codeAt : cOK y_DR_codeAt c_DR_codeAt 2 (some .int) 1 := ⟨k_DR_codeAt, wi_DR, ⟨by decide +kernel, by decide +kernel⟩, by decide +kernel⟩
theorem co_DR_firstFault : cOK y_DR_firstFault c_DR_firstFault 4 (some .int) 0 := ⟨k_DR_firstFault, wi_DR, ⟨by decide +kernel, by decide +kernel⟩, by decide +kernel⟩
theorem co_HI_dropOldest : cOK y_HI_dropOldest c_HI_dropOldest 3 none 0 := ⟨k_HI_dropOldest, wi_HI, ⟨by decide +kernel, by decide +kernel⟩, by decide +kernel⟩
theorem co_CT_copyFlags : cOK y_CT_copyFlags c_CT_copyFlags 2 none 2 := ⟨k_CT_copyFlags, wi_CT, ⟨by decide +kernel, by decide +kernel⟩, by decide +kernel⟩
theorem co_CT_copyRow : cOK y_CT_copyRow c_CT_copyRow 2 none 2 := ⟨k_CT_copyRow, wi_CT, ⟨by decide +kernel, by decide +kernel⟩, by decide +kernel⟩
theorem co_ST_copyFrom : cOK y_ST_copyFrom c_ST_copyFrom 2 none 1 := ⟨k_ST_copyFrom, wi_ST, ⟨by decide +kernel, by decide +kernel⟩, by decide +kernel⟩
theorem co_HI_record : cOK y_HI_record c_HI_record 2 none 1 := ⟨k_HI_record, wi_HI, ⟨by decide +kernel, by decide +kernel⟩, by decide +kernel⟩
theorem co_DR_length : cOK y_DR_length c_DR_length 1 (some .int) 0 := ⟨k_DR_length, wi_DR, ⟨by decide +kernel, by decide +kernel⟩, by decide +kernel⟩
theorem co_CT_put : cOK y_CT_put c_CT_put 3 none 3 := ⟨k_CT_put, wi_CT, ⟨by decide +kernel, by decide +kernel⟩, by decide +kernel⟩
theorem co_CT_smallOf : cOK y_CT_smallOf c_CT_smallOf 1 (some .int) 1 := ⟨k_CT_smallOf, wi_CT, ⟨by decide +kernel, by decide +kernel⟩, by decide +kernel⟩
theorem co_ST_coreLengthOf : cOK y_ST_coreLengthOf c_ST_coreLengthOf 2 (some .int) 1 := ⟨k_ST_coreLengthOf, wi_ST, ⟨by decide +kernel, by decide +kernel⟩, by decide +kernel⟩
theorem co_ST_addLetter : cOK y_ST_addLetter c_ST_addLetter 5 none 3 := ⟨k_ST_addLetter, wi_ST, ⟨by decide +kernel, by decide +kernel⟩, by decide +kernel⟩
theorem co_ST_coreLetter : cOK y_ST_coreLetter c_ST_coreLetter 3 (some .int) 2 := ⟨k_ST_coreLetter, wi_ST, ⟨by decide +kernel, by decide +kernel⟩, by decide +kernel⟩
theorem co_ST_haveSameCore : cOK y_ST_haveSameCore c_ST_haveSameCore 4 (some .boolean) 2 := ⟨k_ST_haveSameCore, wi_ST, ⟨by decide +kernel, by decide +kernel⟩, by decide +kernel⟩
theorem co_ST_firstWithCoreOf : cOK y_ST_firstWithCoreOf c_ST_firstWithCoreOf 3 (some .int) 1 := ⟨k_ST_firstWithCoreOf, wi_ST, ⟨by decide +kernel, by decide +kernel⟩, by decide +kernel⟩
theorem co_ST_add : cOK y_ST_add c_ST_add 6 (some .int) 2 := ⟨k_ST_add, wi_ST, ⟨by decide +kernel, by decide +kernel⟩, by decide +kernel⟩
theorem co_ST_captionsSoFar : cOK y_ST_captionsSoFar c_ST_captionsSoFar 1 (some .int) 0 := ⟨k_ST_captionsSoFar, wi_ST, ⟨by decide +kernel, by decide +kernel⟩, by decide +kernel⟩
theorem co_CT_submit : cOK y_CT_submit c_CT_submit 3 (some .int) 1 := ⟨k_CT_submit, wi_CT, ⟨by decide +kernel, by decide +kernel⟩, by decide +kernel⟩
theorem co_ST_isIn : cOK y_ST_isIn c_ST_isIn 2 (some .boolean) 1 := ⟨k_ST_isIn, wi_ST, ⟨by decide +kernel, by decide +kernel⟩, by decide +kernel⟩
theorem co_ST_captionsIn : cOK y_ST_captionsIn c_ST_captionsIn 3 (some .int) 0 := ⟨k_ST_captionsIn, wi_ST, ⟨by decide +kernel, by decide +kernel⟩, by decide +kernel⟩
theorem co_ST_takeOut : cOK y_ST_takeOut c_ST_takeOut 2 none 1 := ⟨k_ST_takeOut, wi_ST, ⟨by decide +kernel, by decide +kernel⟩, by decide +kernel⟩
theorem co_CT_withdraw : cOK y_CT_withdraw c_CT_withdraw 2 (some .int) 1 := ⟨k_CT_withdraw, wi_CT, ⟨by decide +kernel, by decide +kernel⟩, by decide +kernel⟩
theorem co_AR_fill : cOK y_AR_fill c_AR_fill 4 none 2 := ⟨k_AR_fill, wi_AR, ⟨by decide +kernel, by decide +kernel⟩, by decide +kernel⟩
theorem co_ST_areAlike : cOK y_ST_areAlike c_ST_areAlike 3 (some .boolean) 2 := ⟨k_ST_areAlike, wi_ST, ⟨by decide +kernel, by decide +kernel⟩, by decide +kernel⟩
theorem co_ST_areLinked : cOK y_ST_areLinked c_ST_areLinked 3 (some .boolean) 2 := ⟨k_ST_areLinked, wi_ST, ⟨by decide +kernel, by decide +kernel⟩, by decide +kernel⟩
theorem co_GR_areTied : cOK y_GR_areTied c_GR_areTied 3 (some .boolean) 3 := ⟨k_GR_areTied, wi_GR, ⟨by decide +kernel, by decide +kernel⟩, by decide +kernel⟩
theorem co_GR_gather : cOK y_GR_gather c_GR_gather 7 none 2 := ⟨k_GR_gather, wi_GR, ⟨by decide +kernel, by decide +kernel⟩, by decide +kernel⟩
theorem co_GR_find : cOK y_GR_find c_GR_find 3 none 1 := ⟨k_GR_find, wi_GR, ⟨by decide +kernel, by decide +kernel⟩, by decide +kernel⟩
theorem co_GR_headOf : cOK y_GR_headOf c_GR_headOf 2 (some .int) 1 := ⟨k_GR_headOf, wi_GR, ⟨by decide +kernel, by decide +kernel⟩, by decide +kernel⟩
theorem co_ST_putLink : cOK y_ST_putLink c_ST_putLink 4 none 3 := ⟨k_ST_putLink, wi_ST, ⟨by decide +kernel, by decide +kernel⟩, by decide +kernel⟩
theorem co_ST_link : cOK y_ST_link c_ST_link 3 none 2 := ⟨k_ST_link, wi_ST, ⟨by decide +kernel, by decide +kernel⟩, by decide +kernel⟩
theorem co_CT_join : cOK y_CT_join c_CT_join 3 (some .int) 2 := ⟨k_CT_join, wi_CT, ⟨by decide +kernel, by decide +kernel⟩, by decide +kernel⟩
theorem co_ST_cutLinks : cOK y_ST_cutLinks c_ST_cutLinks 3 none 1 := ⟨k_ST_cutLinks, wi_ST, ⟨by decide +kernel, by decide +kernel⟩, by decide +kernel⟩
theorem co_ST_hasLinks : cOK y_ST_hasLinks c_ST_hasLinks 3 (some .boolean) 1 := ⟨k_ST_hasLinks, wi_ST, ⟨by decide +kernel, by decide +kernel⟩, by decide +kernel⟩
theorem co_CT_part : cOK y_CT_part c_CT_part 2 (some .int) 1 := ⟨k_CT_part, wi_CT, ⟨by decide +kernel, by decide +kernel⟩, by decide +kernel⟩
theorem co_CT_hasGap : cOK y_CT_hasGap c_CT_hasGap 3 (some .boolean) 3 := ⟨k_CT_hasGap, wi_CT, ⟨by decide +kernel, by decide +kernel⟩, by decide +kernel⟩
theorem co_CT_isTwice : cOK y_CT_isTwice c_CT_isTwice 3 (some .boolean) 3 := ⟨k_CT_isTwice, wi_CT, ⟨by decide +kernel, by decide +kernel⟩, by decide +kernel⟩
theorem co_CT_isWish : cOK y_CT_isWish c_CT_isWish 2 (some .boolean) 1 := ⟨k_CT_isWish, wi_CT, ⟨by decide +kernel, by decide +kernel⟩, by decide +kernel⟩
theorem co_ST_fillIn : cOK y_ST_fillIn c_ST_fillIn 5 none 4 := ⟨k_ST_fillIn, wi_ST, ⟨by decide +kernel, by decide +kernel⟩, by decide +kernel⟩
theorem co_ST_wish : cOK y_ST_wish c_ST_wish 3 (some .int) 2 := ⟨k_ST_wish, wi_ST, ⟨by decide +kernel, by decide +kernel⟩, by decide +kernel⟩
theorem co_ST_isFilledIn : cOK y_ST_isFilledIn c_ST_isFilledIn 5 (some .boolean) 4 := ⟨k_ST_isFilledIn, wi_ST, ⟨by decide +kernel, by decide +kernel⟩, by decide +kernel⟩
theorem co_ST_wishesOf : cOK y_ST_wishesOf c_ST_wishesOf 4 (some .int) 1 := ⟨k_ST_wishesOf, wi_ST, ⟨by decide +kernel, by decide +kernel⟩, by decide +kernel⟩
theorem co_CT_vote : cOK y_CT_vote c_CT_vote 5 (some .int) 4 := ⟨k_CT_vote, wi_CT, ⟨by decide +kernel, by decide +kernel⟩, by decide +kernel⟩
theorem co_RA_pointsBy : cOK y_RA_pointsBy c_RA_pointsBy 3 (some .int) 2 := ⟨k_RA_pointsBy, wi_RA, ⟨by decide +kernel, by decide +kernel⟩, by decide +kernel⟩
theorem co_ST_pointsBy : cOK y_ST_pointsBy c_ST_pointsBy 3 (some .int) 2 := ⟨k_ST_pointsBy, wi_ST, ⟨by decide +kernel, by decide +kernel⟩, by decide +kernel⟩
theorem co_RA_fillPoints : cOK y_RA_fillPoints c_RA_fillPoints 7 none 3 := ⟨k_RA_fillPoints, wi_RA, ⟨by decide +kernel, by decide +kernel⟩, by decide +kernel⟩
theorem co_GR_isHead : cOK y_GR_isHead c_GR_isHead 2 (some .boolean) 1 := ⟨k_GR_isHead, wi_GR, ⟨by decide +kernel, by decide +kernel⟩, by decide +kernel⟩
theorem co_RA_groupsWithMore : cOK y_RA_groupsWithMore c_RA_groupsWithMore 6 (some .int) 3 := ⟨k_RA_groupsWithMore, wi_RA, ⟨by decide +kernel, by decide +kernel⟩, by decide +kernel⟩
theorem co_RA_fillRanks : cOK y_RA_fillRanks c_RA_fillRanks 5 none 2 := ⟨k_RA_fillRanks, wi_RA, ⟨by decide +kernel, by decide +kernel⟩, by decide +kernel⟩
theorem co_RA_fill : cOK y_RA_fill c_RA_fill 4 none 2 := ⟨k_RA_fill, wi_RA, ⟨by decide +kernel, by decide +kernel⟩, by decide +kernel⟩
theorem co_RA_rankBy : cOK y_RA_rankBy c_RA_rankBy 3 (some .int) 2 := ⟨k_RA_rankBy, wi_RA, ⟨by decide +kernel, by decide +kernel⟩, by decide +kernel⟩
theorem co_ST_givePoints : cOK y_ST_givePoints c_ST_givePoints 4 none 3 := ⟨k_ST_givePoints, wi_ST, ⟨by decide +kernel, by decide +kernel⟩, by decide +kernel⟩
theorem co_CT_score : cOK y_CT_score c_CT_score 4 (some .int) 3 := ⟨k_CT_score, wi_CT, ⟨by decide +kernel, by decide +kernel⟩, by decide +kernel⟩
theorem co_CT_mostOf : cOK y_CT_mostOf c_CT_mostOf 1 (some .int) 1 := ⟨k_CT_mostOf, wi_CT, ⟨by decide +kernel, by decide +kernel⟩, by decide +kernel⟩
theorem co_ST_changeSetting : cOK y_ST_changeSetting c_ST_changeSetting 3 none 2 := ⟨k_ST_changeSetting, wi_ST, ⟨by decide +kernel, by decide +kernel⟩, by decide +kernel⟩
theorem co_ST_setting : cOK y_ST_setting c_ST_setting 2 (some .int) 1 := ⟨k_ST_setting, wi_ST, ⟨by decide +kernel, by decide +kernel⟩, by decide +kernel⟩
theorem co_CT_set : cOK y_CT_set c_CT_set 4 (some .int) 2 := ⟨k_CT_set, wi_CT, ⟨by decide +kernel, by decide +kernel⟩, by decide +kernel⟩
theorem co_ST_changePrize : cOK y_ST_changePrize c_ST_changePrize 3 none 2 := ⟨k_ST_changePrize, wi_ST, ⟨by decide +kernel, by decide +kernel⟩, by decide +kernel⟩
theorem co_ST_prizeOf : cOK y_ST_prizeOf c_ST_prizeOf 2 (some .int) 1 := ⟨k_ST_prizeOf, wi_ST, ⟨by decide +kernel, by decide +kernel⟩, by decide +kernel⟩
theorem co_CT_prize : cOK y_CT_prize c_CT_prize 4 (some .int) 2 := ⟨k_CT_prize, wi_CT, ⟨by decide +kernel, by decide +kernel⟩, by decide +kernel⟩
theorem co_DR_append : cOK y_DR_append c_DR_append 2 none 1 := ⟨k_DR_append, wi_DR, ⟨by decide +kernel, by decide +kernel⟩, by decide +kernel⟩
theorem co_CT_type : cOK y_CT_type c_CT_type 2 (some .int) 1 := ⟨k_CT_type, wi_CT, ⟨by decide +kernel, by decide +kernel⟩, by decide +kernel⟩
theorem co_DR_empty : cOK y_DR_empty c_DR_empty 1 none 0 := ⟨k_DR_empty, wi_DR, ⟨by decide +kernel, by decide +kernel⟩, by decide +kernel⟩
theorem co_CT_clearText : cOK y_CT_clearText c_CT_clearText 2 (some .int) 0 := ⟨k_CT_clearText, wi_CT, ⟨by decide +kernel, by decide +kernel⟩, by decide +kernel⟩
theorem co_HI_size : cOK y_HI_size c_HI_size 1 (some .int) 0 := ⟨k_HI_size, wi_HI, ⟨by decide +kernel, by decide +kernel⟩, by decide +kernel⟩
theorem co_HI_takeBack : cOK y_HI_takeBack c_HI_takeBack 2 none 1 := ⟨k_HI_takeBack, wi_HI, ⟨by decide +kernel, by decide +kernel⟩, by decide +kernel⟩
theorem co_CT_undo : cOK y_CT_undo c_CT_undo 1 (some .int) 0 := ⟨k_CT_undo, wi_CT, ⟨by decide +kernel, by decide +kernel⟩, by decide +kernel⟩
theorem co_CT_keep : cOK y_CT_keep c_CT_keep 1 (some .int) 0 := ⟨k_CT_keep, wi_CT, ⟨by decide +kernel, by decide +kernel⟩, by decide +kernel⟩
theorem co_CT_restore : cOK y_CT_restore c_CT_restore 1 (some .int) 0 := ⟨k_CT_restore, wi_CT, ⟨by decide +kernel, by decide +kernel⟩, by decide +kernel⟩
theorem co_CO_firstsOf : cOK y_CO_firstsOf c_CO_firstsOf 2 (some .int) 1 := ⟨k_CO_firstsOf, wi_CO, ⟨by decide +kernel, by decide +kernel⟩, by decide +kernel⟩
theorem co_CO_wish : cOK y_CO_wish c_CO_wish 3 (some .int) 2 := ⟨k_CO_wish, wi_CO, ⟨by decide +kernel, by decide +kernel⟩, by decide +kernel⟩
theorem co_CO_hasGroup : cOK y_CO_hasGroup c_CO_hasGroup 5 (some .boolean) 3 := ⟨k_CO_hasGroup, wi_CO, ⟨by decide +kernel, by decide +kernel⟩, by decide +kernel⟩
theorem co_CO_pointsOf : cOK y_CO_pointsOf c_CO_pointsOf 2 (some .int) 1 := ⟨k_CO_pointsOf, wi_CO, ⟨by decide +kernel, by decide +kernel⟩, by decide +kernel⟩
theorem co_CO_fillBallot : cOK y_CO_fillBallot c_CO_fillBallot 8 none 3 := ⟨k_CO_fillBallot, wi_CO, ⟨by decide +kernel, by decide +kernel⟩, by decide +kernel⟩
theorem co_CO_fill : cOK y_CO_fill c_CO_fill 4 none 2 := ⟨k_CO_fill, wi_CO, ⟨by decide +kernel, by decide +kernel⟩, by decide +kernel⟩
theorem co_RA_sumOf : cOK y_RA_sumOf c_RA_sumOf 2 (some .int) 1 := ⟨k_RA_sumOf, wi_RA, ⟨by decide +kernel, by decide +kernel⟩, by decide +kernel⟩
theorem co_CT_scoreOf : cOK y_CT_scoreOf c_CT_scoreOf 2 (some .int) 1 := ⟨k_CT_scoreOf, wi_CT, ⟨by decide +kernel, by decide +kernel⟩, by decide +kernel⟩
theorem co_RO_roundOf : cOK y_RO_roundOf c_RO_roundOf 2 (some .int) 1 := ⟨k_RO_roundOf, wi_RO, ⟨by decide +kernel, by decide +kernel⟩, by decide +kernel⟩
theorem co_CT_keyOf : cOK y_CT_keyOf c_CT_keyOf 4 (some .int) 1 := ⟨k_CT_keyOf, wi_CT, ⟨by decide +kernel, by decide +kernel⟩, by decide +kernel⟩
theorem co_OR_clearKeys : cOK y_OR_clearKeys c_OR_clearKeys 2 none 0 := ⟨k_OR_clearKeys, wi_OR, ⟨by decide +kernel, by decide +kernel⟩, by decide +kernel⟩
theorem co_OR_giveKey : cOK y_OR_giveKey c_OR_giveKey 3 none 2 := ⟨k_OR_giveKey, wi_OR, ⟨by decide +kernel, by decide +kernel⟩, by decide +kernel⟩
theorem co_CT_fillKeys : cOK y_CT_fillKeys c_CT_fillKeys 2 none 0 := ⟨k_CT_fillKeys, wi_CT, ⟨by decide +kernel, by decide +kernel⟩, by decide +kernel⟩
theorem co_OR_groupsAhead : cOK y_OR_groupsAhead c_OR_groupsAhead 4 (some .int) 1 := ⟨k_OR_groupsAhead, wi_OR, ⟨by decide +kernel, by decide +kernel⟩, by decide +kernel⟩
theorem co_OR_tiedBelow : cOK y_OR_tiedBelow c_OR_tiedBelow 5 (some .int) 2 := ⟨k_OR_tiedBelow, wi_OR, ⟨by decide +kernel, by decide +kernel⟩, by decide +kernel⟩
theorem co_OR_fill : cOK y_OR_fill c_OR_fill 3 none 0 := ⟨k_OR_fill, wi_OR, ⟨by decide +kernel, by decide +kernel⟩, by decide +kernel⟩
theorem co_GR_number : cOK y_GR_number c_GR_number 1 (some .int) 0 := ⟨k_GR_number, wi_GR, ⟨by decide +kernel, by decide +kernel⟩, by decide +kernel⟩
theorem co_RO_ballotsFor : cOK y_RO_ballotsFor c_RO_ballotsFor 4 (some .int) 1 := ⟨k_RO_ballotsFor, wi_RO, ⟨by decide +kernel, by decide +kernel⟩, by decide +kernel⟩
theorem co_RO_beginWith : cOK y_RO_beginWith c_RO_beginWith 3 none 1 := ⟨k_RO_beginWith, wi_RO, ⟨by decide +kernel, by decide +kernel⟩, by decide +kernel⟩
theorem co_RO_firstLeft : cOK y_RO_firstLeft c_RO_firstLeft 6 (some .int) 3 := ⟨k_RO_firstLeft, wi_RO, ⟨by decide +kernel, by decide +kernel⟩, by decide +kernel⟩
theorem co_RO_choose : cOK y_RO_choose c_RO_choose 4 none 2 := ⟨k_RO_choose, wi_RO, ⟨by decide +kernel, by decide +kernel⟩, by decide +kernel⟩
theorem co_RO_leaveOut : cOK y_RO_leaveOut c_RO_leaveOut 3 none 2 := ⟨k_RO_leaveOut, wi_RO, ⟨by decide +kernel, by decide +kernel⟩, by decide +kernel⟩
theorem co_RO_isWeaker : cOK y_RO_isWeaker c_RO_isWeaker 4 (some .boolean) 3 := ⟨k_RO_isWeaker, wi_RO, ⟨by decide +kernel, by decide +kernel⟩, by decide +kernel⟩
theorem co_RO_weakest : cOK y_RO_weakest c_RO_weakest 4 (some .int) 1 := ⟨k_RO_weakest, wi_RO, ⟨by decide +kernel, by decide +kernel⟩, by decide +kernel⟩
theorem co_RO_play : cOK y_RO_play c_RO_play 6 none 3 := ⟨k_RO_play, wi_RO, ⟨by decide +kernel, by decide +kernel⟩, by decide +kernel⟩
theorem co_CT_portion : cOK y_CT_portion c_CT_portion 4 (some .int) 3 := ⟨k_CT_portion, wi_CT, ⟨by decide +kernel, by decide +kernel⟩, by decide +kernel⟩
theorem co_GR_membersBelow : cOK y_GR_membersBelow c_GR_membersBelow 5 (some .int) 2 := ⟨k_GR_membersBelow, wi_GR, ⟨by decide +kernel, by decide +kernel⟩, by decide +kernel⟩
theorem co_GR_sizeOf : cOK y_GR_sizeOf c_GR_sizeOf 2 (some .int) 1 := ⟨k_GR_sizeOf, wi_GR, ⟨by decide +kernel, by decide +kernel⟩, by decide +kernel⟩
theorem co_OR_placeOf : cOK y_OR_placeOf c_OR_placeOf 2 (some .int) 1 := ⟨k_OR_placeOf, wi_OR, ⟨by decide +kernel, by decide +kernel⟩, by decide +kernel⟩
theorem co_OR_tiedWith : cOK y_OR_tiedWith c_OR_tiedWith 2 (some .int) 1 := ⟨k_OR_tiedWith, wi_OR, ⟨by decide +kernel, by decide +kernel⟩, by decide +kernel⟩
theorem co_SH_ofGroup : cOK y_SH_ofGroup c_SH_ofGroup 2 (some .int) 1 := ⟨k_SH_ofGroup, wi_SH, ⟨by decide +kernel, by decide +kernel⟩, by decide +kernel⟩
theorem co_ST_prizeGivenAt : cOK y_ST_prizeGivenAt c_ST_prizeGivenAt 2 (some .int) 1 := ⟨k_ST_prizeGivenAt, wi_ST, ⟨by decide +kernel, by decide +kernel⟩, by decide +kernel⟩
theorem co_SH_prizesTogether : cOK y_SH_prizesTogether c_SH_prizesTogether 5 (some .int) 3 := ⟨k_SH_prizesTogether, wi_SH, ⟨by decide +kernel, by decide +kernel⟩, by decide +kernel⟩
theorem co_SH_fill : cOK y_SH_fill c_SH_fill 7 none 3 := ⟨k_SH_fill, wi_SH, ⟨by decide +kernel, by decide +kernel⟩, by decide +kernel⟩
theorem co_CT_tally : cOK y_CT_tally c_CT_tally 1 none 0 := ⟨k_CT_tally, wi_CT, ⟨by decide +kernel, by decide +kernel⟩, by decide +kernel⟩
theorem co_SH_ofCaption : cOK y_SH_ofCaption c_SH_ofCaption 2 (some .int) 1 := ⟨k_SH_ofCaption, wi_SH, ⟨by decide +kernel, by decide +kernel⟩, by decide +kernel⟩
theorem co_ST_authorOf : cOK y_ST_authorOf c_ST_authorOf 2 (some .int) 1 := ⟨k_ST_authorOf, wi_ST, ⟨by decide +kernel, by decide +kernel⟩, by decide +kernel⟩
theorem co_ST_ballotsWith : cOK y_ST_ballotsWith c_ST_ballotsWith 4 (some .int) 1 := ⟨k_ST_ballotsWith, wi_ST, ⟨by decide +kernel, by decide +kernel⟩, by decide +kernel⟩
theorem co_ST_lengthOf : cOK y_ST_lengthOf c_ST_lengthOf 2 (some .int) 1 := ⟨k_ST_lengthOf, wi_ST, ⟨by decide +kernel, by decide +kernel⟩, by decide +kernel⟩
theorem co_ST_linksInContest : cOK y_ST_linksInContest c_ST_linksInContest 4 (some .int) 1 := ⟨k_ST_linksInContest, wi_ST, ⟨by decide +kernel, by decide +kernel⟩, by decide +kernel⟩
theorem co_CT_caption : cOK y_CT_caption c_CT_caption 3 (some .int) 2 := ⟨k_CT_caption, wi_CT, ⟨by decide +kernel, by decide +kernel⟩, by decide +kernel⟩
theorem co_ST_textLetter : cOK y_ST_textLetter c_ST_textLetter 3 (some .int) 2 := ⟨k_ST_textLetter, wi_ST, ⟨by decide +kernel, by decide +kernel⟩, by decide +kernel⟩
theorem co_CT_letter : cOK y_CT_letter c_CT_letter 3 (some .int) 2 := ⟨k_CT_letter, wi_CT, ⟨by decide +kernel, by decide +kernel⟩, by decide +kernel⟩
theorem co_CT_group : cOK y_CT_group c_CT_group 4 (some .int) 2 := ⟨k_CT_group, wi_CT, ⟨by decide +kernel, by decide +kernel⟩, by decide +kernel⟩
theorem co_CT_judged : cOK y_CT_judged c_CT_judged 5 (some .int) 3 := ⟨k_CT_judged, wi_CT, ⟨by decide +kernel, by decide +kernel⟩, by decide +kernel⟩
theorem co_CT_ballot : cOK y_CT_ballot c_CT_ballot 4 (some .int) 3 := ⟨k_CT_ballot, wi_CT, ⟨by decide +kernel, by decide +kernel⟩, by decide +kernel⟩
theorem co_OR_headAt : cOK y_OR_headAt c_OR_headAt 3 (some .int) 1 := ⟨k_OR_headAt, wi_OR, ⟨by decide +kernel, by decide +kernel⟩, by decide +kernel⟩
theorem co_CT_ranked : cOK y_CT_ranked c_CT_ranked 2 (some .int) 1 := ⟨k_CT_ranked, wi_CT, ⟨by decide +kernel, by decide +kernel⟩, by decide +kernel⟩
theorem co_RO_ballotsForNone : cOK y_RO_ballotsForNone c_RO_ballotsForNone 2 (some .int) 1 := ⟨k_RO_ballotsForNone, wi_RO, ⟨by decide +kernel, by decide +kernel⟩, by decide +kernel⟩
theorem co_RO_ballotsOfHeadOut : cOK y_RO_ballotsOfHeadOut c_RO_ballotsOfHeadOut 2 (some .int) 1 := ⟨k_RO_ballotsOfHeadOut, wi_RO, ⟨by decide +kernel, by decide +kernel⟩, by decide +kernel⟩
theorem co_RO_headOut : cOK y_RO_headOut c_RO_headOut 2 (some .int) 1 := ⟨k_RO_headOut, wi_RO, ⟨by decide +kernel, by decide +kernel⟩, by decide +kernel⟩
theorem co_RO_number : cOK y_RO_number c_RO_number 1 (some .int) 0 := ⟨k_RO_number, wi_RO, ⟨by decide +kernel, by decide +kernel⟩, by decide +kernel⟩
theorem co_CT_round : cOK y_CT_round c_CT_round 3 (some .int) 2 := ⟨k_CT_round, wi_CT, ⟨by decide +kernel, by decide +kernel⟩, by decide +kernel⟩
theorem co_DI_fillLine : cOK y_DI_fillLine c_DI_fillLine 11 none 4 := ⟨k_DI_fillLine, wi_DI, ⟨by decide +kernel, by decide +kernel⟩, by decide +kernel⟩
theorem co_DI_between : cOK y_DI_between c_DI_between 7 (some .int) 3 := ⟨k_DI_between, wi_DI, ⟨by decide +kernel, by decide +kernel⟩, by decide +kernel⟩
theorem co_CT_distance : cOK y_CT_distance c_CT_distance 3 (some .int) 2 := ⟨k_CT_distance, wi_CT, ⟨by decide +kernel, by decide +kernel⟩, by decide +kernel⟩
theorem co_DI_areApart : cOK y_DI_areApart c_DI_areApart 5 (some .boolean) 3 := ⟨k_DI_areApart, wi_DI, ⟨by decide +kernel, by decide +kernel⟩, by decide +kernel⟩
theorem co_DI_mayBeNear : cOK y_DI_mayBeNear c_DI_mayBeNear 3 (some .boolean) 3 := ⟨k_DI_mayBeNear, wi_DI, ⟨by decide +kernel, by decide +kernel⟩, by decide +kernel⟩
theorem co_DI_fill : cOK y_DI_fill c_DI_fill 5 none 2 := ⟨k_DI_fill, wi_DI, ⟨by decide +kernel, by decide +kernel⟩, by decide +kernel⟩
theorem co_DI_ofPair : cOK y_DI_ofPair c_DI_ofPair 2 (some .int) 1 := ⟨k_DI_ofPair, wi_DI, ⟨by decide +kernel, by decide +kernel⟩, by decide +kernel⟩
theorem co_DI_pairAt : cOK y_DI_pairAt c_DI_pairAt 5 (some .int) 1 := ⟨k_DI_pairAt, wi_DI, ⟨by decide +kernel, by decide +kernel⟩, by decide +kernel⟩
theorem co_CT_near : cOK y_CT_near c_CT_near 4 (some .int) 2 := ⟨k_CT_near, wi_CT, ⟨by decide +kernel, by decide +kernel⟩, by decide +kernel⟩
theorem co_CT_isBy : cOK y_CT_isBy c_CT_isBy 3 (some .boolean) 2 := ⟨k_CT_isBy, wi_CT, ⟨by decide +kernel, by decide +kernel⟩, by decide +kernel⟩
theorem co_CT_amountFor : cOK y_CT_amountFor c_CT_amountFor 4 (some .int) 1 := ⟨k_CT_amountFor, wi_CT, ⟨by decide +kernel, by decide +kernel⟩, by decide +kernel⟩
theorem co_CT_bestPlaceOf : cOK y_CT_bestPlaceOf c_CT_bestPlaceOf 5 (some .int) 1 := ⟨k_CT_bestPlaceOf, wi_CT, ⟨by decide +kernel, by decide +kernel⟩, by decide +kernel⟩
theorem co_CT_captionsBy : cOK y_CT_captionsBy c_CT_captionsBy 4 (some .int) 1 := ⟨k_CT_captionsBy, wi_CT, ⟨by decide +kernel, by decide +kernel⟩, by decide +kernel⟩
theorem co_CT_author : cOK y_CT_author c_CT_author 3 (some .int) 2 := ⟨k_CT_author, wi_CT, ⟨by decide +kernel, by decide +kernel⟩, by decide +kernel⟩
theorem co_CO_ballotsThatCount : cOK y_CO_ballotsThatCount c_CO_ballotsThatCount 3 (some .int) 0 := ⟨k_CO_ballotsThatCount, wi_CO, ⟨by decide +kernel, by decide +kernel⟩, by decide +kernel⟩
theorem co_CO_pointsInAll : cOK y_CO_pointsInAll c_CO_pointsInAll 3 (some .int) 0 := ⟨k_CO_pointsInAll, wi_CO, ⟨by decide +kernel, by decide +kernel⟩, by decide +kernel⟩
theorem co_OR_tiedGroups : cOK y_OR_tiedGroups c_OR_tiedGroups 3 (some .int) 0 := ⟨k_OR_tiedGroups, wi_OR, ⟨by decide +kernel, by decide +kernel⟩, by decide +kernel⟩
theorem co_SH_inAll : cOK y_SH_inAll c_SH_inAll 3 (some .int) 0 := ⟨k_SH_inAll, wi_SH, ⟨by decide +kernel, by decide +kernel⟩, by decide +kernel⟩
theorem co_ST_linksInAll : cOK y_ST_linksInAll c_ST_linksInAll 4 (some .int) 0 := ⟨k_ST_linksInAll, wi_ST, ⟨by decide +kernel, by decide +kernel⟩, by decide +kernel⟩
theorem co_CT_count : cOK y_CT_count c_CT_count 2 (some .int) 1 := ⟨k_CT_count, wi_CT, ⟨by decide +kernel, by decide +kernel⟩, by decide +kernel⟩
theorem co_MO_in : cOK y_MO_in c_MO_in 3 (some .boolean) 3 := ⟨k_MO_in, wi_MO, ⟨by decide +kernel, by decide +kernel⟩, by decide +kernel⟩
theorem co_MO_record : cOK y_MO_record c_MO_record 2 none 0 := ⟨k_MO_record, wi_MO, ⟨by decide +kernel, by decide +kernel⟩, by decide +kernel⟩
theorem co_MO_is : cOK y_MO_is c_MO_is 2 (some .boolean) 1 := ⟨k_MO_is, wi_MO, ⟨by decide +kernel, by decide +kernel⟩, by decide +kernel⟩
theorem co_MO_there : cOK y_MO_there c_MO_there 3 (some .int) 0 := ⟨k_MO_there, wi_MO, ⟨by decide +kernel, by decide +kernel⟩, by decide +kernel⟩
theorem co_MO_isLetter : cOK y_MO_isLetter c_MO_isLetter 1 (some .boolean) 1 := ⟨k_MO_isLetter, wi_MO, ⟨by decide +kernel, by decide +kernel⟩, by decide +kernel⟩
theorem co_MO_small : cOK y_MO_small c_MO_small 1 (some .int) 1 := ⟨k_MO_small, wi_MO, ⟨by decide +kernel, by decide +kernel⟩, by decide +kernel⟩
theorem co_MO_isSign : cOK y_MO_isSign c_MO_isSign 1 (some .boolean) 1 := ⟨k_MO_isSign, wi_MO, ⟨by decide +kernel, by decide +kernel⟩, by decide +kernel⟩
theorem co_MO_sign : cOK y_MO_sign c_MO_sign 3 (some .int) 2 := ⟨k_MO_sign, wi_MO, ⟨by decide +kernel, by decide +kernel⟩, by decide +kernel⟩
theorem co_MO_takesCores : cOK y_MO_takesCores c_MO_takesCores 4 none 0 := ⟨k_MO_takesCores, wi_MO, ⟨by decide +kernel, by decide +kernel⟩, by decide +kernel⟩
theorem co_MO_isAlike : cOK y_MO_isAlike c_MO_isAlike 6 (some .boolean) 2 := ⟨k_MO_isAlike, wi_MO, ⟨by decide +kernel, by decide +kernel⟩, by decide +kernel⟩
theorem co_MO_isLinked : cOK y_MO_isLinked c_MO_isLinked 3 (some .boolean) 2 := ⟨k_MO_isLinked, wi_MO, ⟨by decide +kernel, by decide +kernel⟩, by decide +kernel⟩
theorem co_MO_far : cOK y_MO_far c_MO_far 9 (some .int) 2 := ⟨k_MO_far, wi_MO, ⟨by decide +kernel, by decide +kernel⟩, by decide +kernel⟩
theorem co_MO_heads : cOK y_MO_heads c_MO_heads 5 none 0 := ⟨k_MO_heads, wi_MO, ⟨by decide +kernel, by decide +kernel⟩, by decide +kernel⟩
theorem co_MO_isHead : cOK y_MO_isHead c_MO_isHead 2 (some .boolean) 1 := ⟨k_MO_isHead, wi_MO, ⟨by decide +kernel, by decide +kernel⟩, by decide +kernel⟩
theorem co_MO_counts : cOK y_MO_counts c_MO_counts 7 none 0 := ⟨k_MO_counts, wi_MO, ⟨by decide +kernel, by decide +kernel⟩, by decide +kernel⟩
theorem co_MO_most : cOK y_MO_most c_MO_most 6 (some .int) 2 := ⟨k_MO_most, wi_MO, ⟨by decide +kernel, by decide +kernel⟩, by decide +kernel⟩
theorem co_MO_rank : cOK y_MO_rank c_MO_rank 6 (some .int) 2 := ⟨k_MO_rank, wi_MO, ⟨by decide +kernel, by decide +kernel⟩, by decide +kernel⟩
theorem co_MO_tallies : cOK y_MO_tallies c_MO_tallies 3 none 0 := ⟨k_MO_tallies, wi_MO, ⟨by decide +kernel, by decide +kernel⟩, by decide +kernel⟩
theorem co_MO_standsFor : cOK y_MO_standsFor c_MO_standsFor 4 (some .int) 1 := ⟨k_MO_standsFor, wi_MO, ⟨by decide +kernel, by decide +kernel⟩, by decide +kernel⟩
theorem co_MO_goesRounds : cOK y_MO_goesRounds c_MO_goesRounds 5 none 0 := ⟨k_MO_goesRounds, wi_MO, ⟨by decide +kernel, by decide +kernel⟩, by decide +kernel⟩
theorem co_MO_tally : cOK y_MO_tally c_MO_tally 2 (some .int) 1 := ⟨k_MO_tally, wi_MO, ⟨by decide +kernel, by decide +kernel⟩, by decide +kernel⟩
theorem co_MO_isAhead : cOK y_MO_isAhead c_MO_isAhead 4 (some .boolean) 2 := ⟨k_MO_isAhead, wi_MO, ⟨by decide +kernel, by decide +kernel⟩, by decide +kernel⟩
theorem co_MO_orders : cOK y_MO_orders c_MO_orders 5 none 0 := ⟨k_MO_orders, wi_MO, ⟨by decide +kernel, by decide +kernel⟩, by decide +kernel⟩
theorem co_MO_prizeOf : cOK y_MO_prizeOf c_MO_prizeOf 2 (some .int) 1 := ⟨k_MO_prizeOf, wi_MO, ⟨by decide +kernel, by decide +kernel⟩, by decide +kernel⟩
theorem co_MO_shares : cOK y_MO_shares c_MO_shares 6 none 2 := ⟨k_MO_shares, wi_MO, ⟨by decide +kernel, by decide +kernel⟩, by decide +kernel⟩
theorem co_MO_works : cOK y_MO_works c_MO_works 5 none 0 := ⟨k_MO_works, wi_MO, ⟨by decide +kernel, by decide +kernel⟩, by decide +kernel⟩
theorem co_MO_getsGroup : cOK y_MO_getsGroup c_MO_getsGroup 4 (some .int) 1 := ⟨k_MO_getsGroup, wi_MO, ⟨by decide +kernel, by decide +kernel⟩, by decide +kernel⟩
theorem co_MO_fault : cOK y_MO_fault c_MO_fault 3 (some .int) 0 := ⟨k_MO_fault, wi_MO, ⟨by decide +kernel, by decide +kernel⟩, by decide +kernel⟩
theorem co_MO_submit : cOK y_MO_submit c_MO_submit 5 (some .int) 1 := ⟨k_MO_submit, wi_MO, ⟨by decide +kernel, by decide +kernel⟩, by decide +kernel⟩
theorem co_MO_withdraw : cOK y_MO_withdraw c_MO_withdraw 2 (some .int) 1 := ⟨k_MO_withdraw, wi_MO, ⟨by decide +kernel, by decide +kernel⟩, by decide +kernel⟩
theorem co_MO_join : cOK y_MO_join c_MO_join 3 (some .int) 2 := ⟨k_MO_join, wi_MO, ⟨by decide +kernel, by decide +kernel⟩, by decide +kernel⟩
theorem co_MO_part : cOK y_MO_part c_MO_part 3 (some .int) 1 := ⟨k_MO_part, wi_MO, ⟨by decide +kernel, by decide +kernel⟩, by decide +kernel⟩
theorem co_MO_vote : cOK y_MO_vote c_MO_vote 12 (some .int) 4 := ⟨k_MO_vote, wi_MO, ⟨by decide +kernel, by decide +kernel⟩, by decide +kernel⟩
theorem co_MO_score : cOK y_MO_score c_MO_score 5 (some .int) 3 := ⟨k_MO_score, wi_MO, ⟨by decide +kernel, by decide +kernel⟩, by decide +kernel⟩
theorem co_MO_set : cOK y_MO_set c_MO_set 4 (some .int) 2 := ⟨k_MO_set, wi_MO, ⟨by decide +kernel, by decide +kernel⟩, by decide +kernel⟩
theorem co_MO_prize : cOK y_MO_prize c_MO_prize 4 (some .int) 2 := ⟨k_MO_prize, wi_MO, ⟨by decide +kernel, by decide +kernel⟩, by decide +kernel⟩
theorem co_MO_type : cOK y_MO_type c_MO_type 2 (some .int) 1 := ⟨k_MO_type, wi_MO, ⟨by decide +kernel, by decide +kernel⟩, by decide +kernel⟩
theorem co_MO_clearText : cOK y_MO_clearText c_MO_clearText 2 (some .int) 0 := ⟨k_MO_clearText, wi_MO, ⟨by decide +kernel, by decide +kernel⟩, by decide +kernel⟩
theorem co_MO_undo : cOK y_MO_undo c_MO_undo 2 (some .int) 0 := ⟨k_MO_undo, wi_MO, ⟨by decide +kernel, by decide +kernel⟩, by decide +kernel⟩
theorem co_MO_keep : cOK y_MO_keep c_MO_keep 2 (some .int) 0 := ⟨k_MO_keep, wi_MO, ⟨by decide +kernel, by decide +kernel⟩, by decide +kernel⟩
theorem co_MO_restore : cOK y_MO_restore c_MO_restore 2 (some .int) 0 := ⟨k_MO_restore, wi_MO, ⟨by decide +kernel, by decide +kernel⟩, by decide +kernel⟩
theorem co_MO_links : cOK y_MO_links c_MO_links 4 (some .int) 1 := ⟨k_MO_links, wi_MO, ⟨by decide +kernel, by decide +kernel⟩, by decide +kernel⟩
theorem co_MO_stands : cOK y_MO_stands c_MO_stands 4 (some .int) 1 := ⟨k_MO_stands, wi_MO, ⟨by decide +kernel, by decide +kernel⟩, by decide +kernel⟩
theorem co_MO_caption : cOK y_MO_caption c_MO_caption 3 (some .int) 2 := ⟨k_MO_caption, wi_MO, ⟨by decide +kernel, by decide +kernel⟩, by decide +kernel⟩
theorem co_MO_letter : cOK y_MO_letter c_MO_letter 3 (some .int) 2 := ⟨k_MO_letter, wi_MO, ⟨by decide +kernel, by decide +kernel⟩, by decide +kernel⟩
theorem co_MO_members : cOK y_MO_members c_MO_members 4 (some .int) 1 := ⟨k_MO_members, wi_MO, ⟨by decide +kernel, by decide +kernel⟩, by decide +kernel⟩
theorem co_MO_group : cOK y_MO_group c_MO_group 4 (some .int) 2 := ⟨k_MO_group, wi_MO, ⟨by decide +kernel, by decide +kernel⟩, by decide +kernel⟩
theorem co_MO_judged : cOK y_MO_judged c_MO_judged 5 (some .int) 3 := ⟨k_MO_judged, wi_MO, ⟨by decide +kernel, by decide +kernel⟩, by decide +kernel⟩
theorem co_MO_ballot : cOK y_MO_ballot c_MO_ballot 5 (some .int) 3 := ⟨k_MO_ballot, wi_MO, ⟨by decide +kernel, by decide +kernel⟩, by decide +kernel⟩
theorem co_MO_ranked : cOK y_MO_ranked c_MO_ranked 2 (some .int) 1 := ⟨k_MO_ranked, wi_MO, ⟨by decide +kernel, by decide +kernel⟩, by decide +kernel⟩
theorem co_MO_round : cOK y_MO_round c_MO_round 3 (some .int) 2 := ⟨k_MO_round, wi_MO, ⟨by decide +kernel, by decide +kernel⟩, by decide +kernel⟩
theorem co_MO_distance : cOK y_MO_distance c_MO_distance 3 (some .int) 2 := ⟨k_MO_distance, wi_MO, ⟨by decide +kernel, by decide +kernel⟩, by decide +kernel⟩
theorem co_MO_near : cOK y_MO_near c_MO_near 8 (some .int) 2 := ⟨k_MO_near, wi_MO, ⟨by decide +kernel, by decide +kernel⟩, by decide +kernel⟩
theorem co_MO_author : cOK y_MO_author c_MO_author 8 (some .int) 2 := ⟨k_MO_author, wi_MO, ⟨by decide +kernel, by decide +kernel⟩, by decide +kernel⟩
theorem co_MO_allLinks : cOK y_MO_allLinks c_MO_allLinks 4 (some .int) 0 := ⟨k_MO_allLinks, wi_MO, ⟨by decide +kernel, by decide +kernel⟩, by decide +kernel⟩
theorem co_MO_over : cOK y_MO_over c_MO_over 5 (some .int) 1 := ⟨k_MO_over, wi_MO, ⟨by decide +kernel, by decide +kernel⟩, by decide +kernel⟩
theorem co_MO_count : cOK y_MO_count c_MO_count 2 (some .int) 1 := ⟨k_MO_count, wi_MO, ⟨by decide +kernel, by decide +kernel⟩, by decide +kernel⟩
