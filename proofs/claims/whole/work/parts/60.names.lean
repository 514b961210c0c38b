-- ===== PART A: goes FIRST, ahead of the names: the tables' words, and 'selects' of the private methods out of them =====
/-- a private method of a class that the tables say can be made, by its rows of tables_1 -/
def lw_okq (q : MethodName × Nat) : Prop := (q.1.cls ≠ "java/lang/invoke/MethodHandle" ∧ q.1.cls ≠ "java/lang/invoke/VarHandle") ∧ Cond.instantiable q.1.cls q.2 ∈ tables_1 ∧ Cond.privateMethod q.1 ∈ tables_1 ∧ Cond.instanceMethod q.1 ∈ tables_1
theorem lw_p0 : lw_okq (⟨"CaptionTallies$History", "dropOldest", "()V"⟩, 2) := ⟨⟨by decide +kernel, by decide +kernel⟩, List.mem_of_getElem? (i := 89) (by decide +kernel), List.mem_of_getElem? (i := 301) (by decide +kernel), List.mem_of_getElem? (i := 302) (by decide +kernel)⟩
theorem lw_p1 : lw_okq (⟨"CaptionTallies$State", "addLetter", "(III)V"⟩, 13) := ⟨⟨by decide +kernel, by decide +kernel⟩, List.mem_of_getElem? (i := 39) (by decide +kernel), List.mem_of_getElem? (i := 333) (by decide +kernel), List.mem_of_getElem? (i := 334) (by decide +kernel)⟩
theorem lw_p2 : lw_okq (⟨"CaptionTallies$State", "firstWithCoreOf", "(I)I"⟩, 13) := ⟨⟨by decide +kernel, by decide +kernel⟩, List.mem_of_getElem? (i := 39) (by decide +kernel), List.mem_of_getElem? (i := 349) (by decide +kernel), List.mem_of_getElem? (i := 350) (by decide +kernel)⟩
theorem lw_p3 : lw_okq (⟨"CaptionTallies$State", "haveSameCore", "(II)Z"⟩, 13) := ⟨⟨by decide +kernel, by decide +kernel⟩, List.mem_of_getElem? (i := 39) (by decide +kernel), List.mem_of_getElem? (i := 353) (by decide +kernel), List.mem_of_getElem? (i := 354) (by decide +kernel)⟩
theorem lw_p4 : lw_okq (⟨"CaptionTallies$Groups", "gather", "(LCaptionTallies$State;I)V"⟩, 3) := ⟨⟨by decide +kernel, by decide +kernel⟩, List.mem_of_getElem? (i := 105) (by decide +kernel), List.mem_of_getElem? (i := 388) (by decide +kernel), List.mem_of_getElem? (i := 389) (by decide +kernel)⟩
theorem lw_p5 : lw_okq (⟨"CaptionTallies$State", "putLink", "(IIZ)V"⟩, 13) := ⟨⟨by decide +kernel, by decide +kernel⟩, List.mem_of_getElem? (i := 39) (by decide +kernel), List.mem_of_getElem? (i := 413) (by decide +kernel), List.mem_of_getElem? (i := 414) (by decide +kernel)⟩
theorem lw_p6 : lw_okq (⟨"CaptionTallies", "isWish", "(I)Z"⟩, 12) := ⟨⟨by decide +kernel, by decide +kernel⟩, List.mem_of_getElem? (i := 17) (by decide +kernel), List.mem_of_getElem? (i := 434) (by decide +kernel), List.mem_of_getElem? (i := 435) (by decide +kernel)⟩
theorem lw_p7 : lw_okq (⟨"CaptionTallies$Ranks", "fillPoints", "(LCaptionTallies$State;LCaptionTallies$Groups;I)V"⟩, 3) := ⟨⟨by decide +kernel, by decide +kernel⟩, List.mem_of_getElem? (i := 137) (by decide +kernel), List.mem_of_getElem? (i := 477) (by decide +kernel), List.mem_of_getElem? (i := 478) (by decide +kernel)⟩
theorem lw_p8 : lw_okq (⟨"CaptionTallies$Ranks", "fillRanks", "(LCaptionTallies$Groups;I)V"⟩, 3) := ⟨⟨by decide +kernel, by decide +kernel⟩, List.mem_of_getElem? (i := 137) (by decide +kernel), List.mem_of_getElem? (i := 492) (by decide +kernel), List.mem_of_getElem? (i := 493) (by decide +kernel)⟩
theorem lw_p9 : lw_okq (⟨"CaptionTallies$Ranks", "groupsWithMore", "(LCaptionTallies$Groups;II)I"⟩, 3) := ⟨⟨by decide +kernel, by decide +kernel⟩, List.mem_of_getElem? (i := 137) (by decide +kernel), List.mem_of_getElem? (i := 501) (by decide +kernel), List.mem_of_getElem? (i := 502) (by decide +kernel)⟩
theorem lw_p10 : lw_okq (⟨"CaptionTallies", "tally", "()V"⟩, 12) := ⟨⟨by decide +kernel, by decide +kernel⟩, List.mem_of_getElem? (i := 17) (by decide +kernel), List.mem_of_getElem? (i := 592) (by decide +kernel), List.mem_of_getElem? (i := 593) (by decide +kernel)⟩
theorem lw_p11 : lw_okq (⟨"CaptionTallies$Counts", "fillBallot", "(LCaptionTallies$State;LCaptionTallies$Groups;I)V"⟩, 3) := ⟨⟨by decide +kernel, by decide +kernel⟩, List.mem_of_getElem? (i := 121) (by decide +kernel), List.mem_of_getElem? (i := 601) (by decide +kernel), List.mem_of_getElem? (i := 602) (by decide +kernel)⟩
theorem lw_p12 : lw_okq (⟨"CaptionTallies$Counts", "hasGroup", "(LCaptionTallies$Groups;II)Z"⟩, 3) := ⟨⟨by decide +kernel, by decide +kernel⟩, List.mem_of_getElem? (i := 121) (by decide +kernel), List.mem_of_getElem? (i := 607) (by decide +kernel), List.mem_of_getElem? (i := 608) (by decide +kernel)⟩
theorem lw_p13 : lw_okq (⟨"CaptionTallies$Rounds", "beginWith", "(LCaptionTallies$Groups;)V"⟩, 7) := ⟨⟨by decide +kernel, by decide +kernel⟩, List.mem_of_getElem? (i := 153) (by decide +kernel), List.mem_of_getElem? (i := 629) (by decide +kernel), List.mem_of_getElem? (i := 630) (by decide +kernel)⟩
theorem lw_p14 : lw_okq (⟨"CaptionTallies$Rounds", "choose", "(LCaptionTallies$State;LCaptionTallies$Groups;)V"⟩, 7) := ⟨⟨by decide +kernel, by decide +kernel⟩, List.mem_of_getElem? (i := 153) (by decide +kernel), List.mem_of_getElem? (i := 641) (by decide +kernel), List.mem_of_getElem? (i := 642) (by decide +kernel)⟩
theorem lw_p15 : lw_okq (⟨"CaptionTallies$Rounds", "firstLeft", "(LCaptionTallies$State;LCaptionTallies$Groups;I)I"⟩, 7) := ⟨⟨by decide +kernel, by decide +kernel⟩, List.mem_of_getElem? (i := 153) (by decide +kernel), List.mem_of_getElem? (i := 645) (by decide +kernel), List.mem_of_getElem? (i := 646) (by decide +kernel)⟩
def lw_privs_1 : List (MethodName × Nat) := [(⟨"CaptionTallies$History", "dropOldest", "()V"⟩, 2), (⟨"CaptionTallies$State", "addLetter", "(III)V"⟩, 13), (⟨"CaptionTallies$State", "firstWithCoreOf", "(I)I"⟩, 13), (⟨"CaptionTallies$State", "haveSameCore", "(II)Z"⟩, 13), (⟨"CaptionTallies$Groups", "gather", "(LCaptionTallies$State;I)V"⟩, 3), (⟨"CaptionTallies$State", "putLink", "(IIZ)V"⟩, 13), (⟨"CaptionTallies", "isWish", "(I)Z"⟩, 12), (⟨"CaptionTallies$Ranks", "fillPoints", "(LCaptionTallies$State;LCaptionTallies$Groups;I)V"⟩, 3), (⟨"CaptionTallies$Ranks", "fillRanks", "(LCaptionTallies$Groups;I)V"⟩, 3), (⟨"CaptionTallies$Ranks", "groupsWithMore", "(LCaptionTallies$Groups;II)I"⟩, 3), (⟨"CaptionTallies", "tally", "()V"⟩, 12), (⟨"CaptionTallies$Counts", "fillBallot", "(LCaptionTallies$State;LCaptionTallies$Groups;I)V"⟩, 3), (⟨"CaptionTallies$Counts", "hasGroup", "(LCaptionTallies$Groups;II)Z"⟩, 3), (⟨"CaptionTallies$Rounds", "beginWith", "(LCaptionTallies$Groups;)V"⟩, 7), (⟨"CaptionTallies$Rounds", "choose", "(LCaptionTallies$State;LCaptionTallies$Groups;)V"⟩, 7), (⟨"CaptionTallies$Rounds", "firstLeft", "(LCaptionTallies$State;LCaptionTallies$Groups;I)I"⟩, 7)]
theorem lw_r1 : ∀ q ∈ lw_privs_1, lw_okq q := List.forall_mem_cons.mpr ⟨lw_p0, List.forall_mem_cons.mpr ⟨lw_p1, List.forall_mem_cons.mpr ⟨lw_p2, List.forall_mem_cons.mpr ⟨lw_p3, List.forall_mem_cons.mpr ⟨lw_p4, List.forall_mem_cons.mpr ⟨lw_p5, List.forall_mem_cons.mpr ⟨lw_p6, List.forall_mem_cons.mpr ⟨lw_p7, List.forall_mem_cons.mpr ⟨lw_p8, List.forall_mem_cons.mpr ⟨lw_p9, List.forall_mem_cons.mpr ⟨lw_p10, List.forall_mem_cons.mpr ⟨lw_p11, List.forall_mem_cons.mpr ⟨lw_p12, List.forall_mem_cons.mpr ⟨lw_p13, List.forall_mem_cons.mpr ⟨lw_p14, List.forall_mem_cons.mpr ⟨lw_p15, fun _ h => absurd h List.not_mem_nil⟩⟩⟩⟩⟩⟩⟩⟩⟩⟩⟩⟩⟩⟩⟩⟩
theorem lw_p16 : lw_okq (⟨"CaptionTallies$Rounds", "weakest", "(LCaptionTallies$Ranks;)I"⟩, 7) := ⟨⟨by decide +kernel, by decide +kernel⟩, List.mem_of_getElem? (i := 153) (by decide +kernel), List.mem_of_getElem? (i := 652) (by decide +kernel), List.mem_of_getElem? (i := 653) (by decide +kernel)⟩
theorem lw_p17 : lw_okq (⟨"CaptionTallies$Rounds", "isWeaker", "(LCaptionTallies$Ranks;II)Z"⟩, 7) := ⟨⟨by decide +kernel, by decide +kernel⟩, List.mem_of_getElem? (i := 153) (by decide +kernel), List.mem_of_getElem? (i := 656) (by decide +kernel), List.mem_of_getElem? (i := 657) (by decide +kernel)⟩
theorem lw_p18 : lw_okq (⟨"CaptionTallies$Rounds", "ballotsFor", "(I)I"⟩, 7) := ⟨⟨by decide +kernel, by decide +kernel⟩, List.mem_of_getElem? (i := 153) (by decide +kernel), List.mem_of_getElem? (i := 660) (by decide +kernel), List.mem_of_getElem? (i := 661) (by decide +kernel)⟩
theorem lw_p19 : lw_okq (⟨"CaptionTallies$Rounds", "leaveOut", "(II)V"⟩, 7) := ⟨⟨by decide +kernel, by decide +kernel⟩, List.mem_of_getElem? (i := 153) (by decide +kernel), List.mem_of_getElem? (i := 669) (by decide +kernel), List.mem_of_getElem? (i := 670) (by decide +kernel)⟩
theorem lw_p20 : lw_okq (⟨"CaptionTallies", "fillKeys", "()V"⟩, 12) := ⟨⟨by decide +kernel, by decide +kernel⟩, List.mem_of_getElem? (i := 17) (by decide +kernel), List.mem_of_getElem? (i := 673) (by decide +kernel), List.mem_of_getElem? (i := 674) (by decide +kernel)⟩
theorem lw_p21 : lw_okq (⟨"CaptionTallies", "keyOf", "(I)I"⟩, 12) := ⟨⟨by decide +kernel, by decide +kernel⟩, List.mem_of_getElem? (i := 17) (by decide +kernel), List.mem_of_getElem? (i := 682) (by decide +kernel), List.mem_of_getElem? (i := 683) (by decide +kernel)⟩
theorem lw_p22 : lw_okq (⟨"CaptionTallies", "scoreOf", "(I)I"⟩, 12) := ⟨⟨by decide +kernel, by decide +kernel⟩, List.mem_of_getElem? (i := 17) (by decide +kernel), List.mem_of_getElem? (i := 691) (by decide +kernel), List.mem_of_getElem? (i := 692) (by decide +kernel)⟩
theorem lw_p23 : lw_okq (⟨"CaptionTallies$Order", "groupsAhead", "(I)I"⟩, 4) := ⟨⟨by decide +kernel, by decide +kernel⟩, List.mem_of_getElem? (i := 181) (by decide +kernel), List.mem_of_getElem? (i := 708) (by decide +kernel), List.mem_of_getElem? (i := 709) (by decide +kernel)⟩
theorem lw_p24 : lw_okq (⟨"CaptionTallies$Distances", "fillLine", "(LCaptionTallies$State;III)V"⟩, 2) := ⟨⟨by decide +kernel, by decide +kernel⟩, List.mem_of_getElem? (i := 213) (by decide +kernel), List.mem_of_getElem? (i := 832) (by decide +kernel), List.mem_of_getElem? (i := 833) (by decide +kernel)⟩
theorem lw_p25 : lw_okq (⟨"CaptionTallies", "captionsBy", "(I)I"⟩, 12) := ⟨⟨by decide +kernel, by decide +kernel⟩, List.mem_of_getElem? (i := 17) (by decide +kernel), List.mem_of_getElem? (i := 870) (by decide +kernel), List.mem_of_getElem? (i := 871) (by decide +kernel)⟩
theorem lw_p26 : lw_okq (⟨"CaptionTallies", "isBy", "(II)Z"⟩, 12) := ⟨⟨by decide +kernel, by decide +kernel⟩, List.mem_of_getElem? (i := 17) (by decide +kernel), List.mem_of_getElem? (i := 874) (by decide +kernel), List.mem_of_getElem? (i := 875) (by decide +kernel)⟩
theorem lw_p27 : lw_okq (⟨"CaptionTallies", "amountFor", "(I)I"⟩, 12) := ⟨⟨by decide +kernel, by decide +kernel⟩, List.mem_of_getElem? (i := 17) (by decide +kernel), List.mem_of_getElem? (i := 878) (by decide +kernel), List.mem_of_getElem? (i := 879) (by decide +kernel)⟩
theorem lw_p28 : lw_okq (⟨"CaptionTallies", "bestPlaceOf", "(I)I"⟩, 12) := ⟨⟨by decide +kernel, by decide +kernel⟩, List.mem_of_getElem? (i := 17) (by decide +kernel), List.mem_of_getElem? (i := 882) (by decide +kernel), List.mem_of_getElem? (i := 883) (by decide +kernel)⟩
theorem lw_p29 : lw_okq (⟨"CaptionTalliesModel", "fault", "()I"⟩, 24) := ⟨⟨by decide +kernel, by decide +kernel⟩, List.mem_of_getElem? (i := 912) (by decide +kernel), List.mem_of_getElem? (i := 998) (by decide +kernel), List.mem_of_getElem? (i := 999) (by decide +kernel)⟩
theorem lw_p30 : lw_okq (⟨"CaptionTalliesModel", "record", "()V"⟩, 24) := ⟨⟨by decide +kernel, by decide +kernel⟩, List.mem_of_getElem? (i := 912) (by decide +kernel), List.mem_of_getElem? (i := 1008) (by decide +kernel), List.mem_of_getElem? (i := 1009) (by decide +kernel)⟩
theorem lw_p31 : lw_okq (⟨"CaptionTalliesModel", "is", "(I)Z"⟩, 24) := ⟨⟨by decide +kernel, by decide +kernel⟩, List.mem_of_getElem? (i := 912) (by decide +kernel), List.mem_of_getElem? (i := 1016) (by decide +kernel), List.mem_of_getElem? (i := 1017) (by decide +kernel)⟩
def lw_privs_2 : List (MethodName × Nat) := [(⟨"CaptionTallies$Rounds", "weakest", "(LCaptionTallies$Ranks;)I"⟩, 7), (⟨"CaptionTallies$Rounds", "isWeaker", "(LCaptionTallies$Ranks;II)Z"⟩, 7), (⟨"CaptionTallies$Rounds", "ballotsFor", "(I)I"⟩, 7), (⟨"CaptionTallies$Rounds", "leaveOut", "(II)V"⟩, 7), (⟨"CaptionTallies", "fillKeys", "()V"⟩, 12), (⟨"CaptionTallies", "keyOf", "(I)I"⟩, 12), (⟨"CaptionTallies", "scoreOf", "(I)I"⟩, 12), (⟨"CaptionTallies$Order", "groupsAhead", "(I)I"⟩, 4), (⟨"CaptionTallies$Distances", "fillLine", "(LCaptionTallies$State;III)V"⟩, 2), (⟨"CaptionTallies", "captionsBy", "(I)I"⟩, 12), (⟨"CaptionTallies", "isBy", "(II)Z"⟩, 12), (⟨"CaptionTallies", "amountFor", "(I)I"⟩, 12), (⟨"CaptionTallies", "bestPlaceOf", "(I)I"⟩, 12), (⟨"CaptionTalliesModel", "fault", "()I"⟩, 24), (⟨"CaptionTalliesModel", "record", "()V"⟩, 24), (⟨"CaptionTalliesModel", "is", "(I)Z"⟩, 24)]
theorem lw_r2 : ∀ q ∈ lw_privs_2, lw_okq q := List.forall_mem_cons.mpr ⟨lw_p16, List.forall_mem_cons.mpr ⟨lw_p17, List.forall_mem_cons.mpr ⟨lw_p18, List.forall_mem_cons.mpr ⟨lw_p19, List.forall_mem_cons.mpr ⟨lw_p20, List.forall_mem_cons.mpr ⟨lw_p21, List.forall_mem_cons.mpr ⟨lw_p22, List.forall_mem_cons.mpr ⟨lw_p23, List.forall_mem_cons.mpr ⟨lw_p24, List.forall_mem_cons.mpr ⟨lw_p25, List.forall_mem_cons.mpr ⟨lw_p26, List.forall_mem_cons.mpr ⟨lw_p27, List.forall_mem_cons.mpr ⟨lw_p28, List.forall_mem_cons.mpr ⟨lw_p29, List.forall_mem_cons.mpr ⟨lw_p30, List.forall_mem_cons.mpr ⟨lw_p31, fun _ h => absurd h List.not_mem_nil⟩⟩⟩⟩⟩⟩⟩⟩⟩⟩⟩⟩⟩⟩⟩⟩
theorem lw_p32 : lw_okq (⟨"CaptionTalliesModel", "there", "()I"⟩, 24) := ⟨⟨by decide +kernel, by decide +kernel⟩, List.mem_of_getElem? (i := 912) (by decide +kernel), List.mem_of_getElem? (i := 1020) (by decide +kernel), List.mem_of_getElem? (i := 1021) (by decide +kernel)⟩
theorem lw_p33 : lw_okq (⟨"CaptionTalliesModel", "heads", "()V"⟩, 24) := ⟨⟨by decide +kernel, by decide +kernel⟩, List.mem_of_getElem? (i := 912) (by decide +kernel), List.mem_of_getElem? (i := 1028) (by decide +kernel), List.mem_of_getElem? (i := 1029) (by decide +kernel)⟩
theorem lw_p34 : lw_okq (⟨"CaptionTalliesModel", "takesCores", "()V"⟩, 24) := ⟨⟨by decide +kernel, by decide +kernel⟩, List.mem_of_getElem? (i := 912) (by decide +kernel), List.mem_of_getElem? (i := 1032) (by decide +kernel), List.mem_of_getElem? (i := 1033) (by decide +kernel)⟩
theorem lw_p35 : lw_okq (⟨"CaptionTalliesModel", "sign", "(II)I"⟩, 24) := ⟨⟨by decide +kernel, by decide +kernel⟩, List.mem_of_getElem? (i := 912) (by decide +kernel), List.mem_of_getElem? (i := 1036) (by decide +kernel), List.mem_of_getElem? (i := 1037) (by decide +kernel)⟩
theorem lw_p36 : lw_okq (⟨"CaptionTalliesModel", "isLinked", "(II)Z"⟩, 24) := ⟨⟨by decide +kernel, by decide +kernel⟩, List.mem_of_getElem? (i := 912) (by decide +kernel), List.mem_of_getElem? (i := 1043) (by decide +kernel), List.mem_of_getElem? (i := 1044) (by decide +kernel)⟩
theorem lw_p37 : lw_okq (⟨"CaptionTalliesModel", "isAlike", "(II)Z"⟩, 24) := ⟨⟨by decide +kernel, by decide +kernel⟩, List.mem_of_getElem? (i := 912) (by decide +kernel), List.mem_of_getElem? (i := 1047) (by decide +kernel), List.mem_of_getElem? (i := 1048) (by decide +kernel)⟩
theorem lw_p38 : lw_okq (⟨"CaptionTalliesModel", "rank", "(II)I"⟩, 24) := ⟨⟨by decide +kernel, by decide +kernel⟩, List.mem_of_getElem? (i := 912) (by decide +kernel), List.mem_of_getElem? (i := 1063) (by decide +kernel), List.mem_of_getElem? (i := 1064) (by decide +kernel)⟩
theorem lw_p39 : lw_okq (⟨"CaptionTalliesModel", "most", "(II)I"⟩, 24) := ⟨⟨by decide +kernel, by decide +kernel⟩, List.mem_of_getElem? (i := 912) (by decide +kernel), List.mem_of_getElem? (i := 1067) (by decide +kernel), List.mem_of_getElem? (i := 1068) (by decide +kernel)⟩
theorem lw_p40 : lw_okq (⟨"CaptionTalliesModel", "isHead", "(I)Z"⟩, 24) := ⟨⟨by decide +kernel, by decide +kernel⟩, List.mem_of_getElem? (i := 912) (by decide +kernel), List.mem_of_getElem? (i := 1071) (by decide +kernel), List.mem_of_getElem? (i := 1072) (by decide +kernel)⟩
theorem lw_p41 : lw_okq (⟨"CaptionTalliesModel", "links", "(I)I"⟩, 24) := ⟨⟨by decide +kernel, by decide +kernel⟩, List.mem_of_getElem? (i := 912) (by decide +kernel), List.mem_of_getElem? (i := 1107) (by decide +kernel), List.mem_of_getElem? (i := 1108) (by decide +kernel)⟩
theorem lw_p42 : lw_okq (⟨"CaptionTalliesModel", "works", "()V"⟩, 24) := ⟨⟨by decide +kernel, by decide +kernel⟩, List.mem_of_getElem? (i := 912) (by decide +kernel), List.mem_of_getElem? (i := 1111) (by decide +kernel), List.mem_of_getElem? (i := 1112) (by decide +kernel)⟩
theorem lw_p43 : lw_okq (⟨"CaptionTalliesModel", "tallies", "()V"⟩, 24) := ⟨⟨by decide +kernel, by decide +kernel⟩, List.mem_of_getElem? (i := 912) (by decide +kernel), List.mem_of_getElem? (i := 1115) (by decide +kernel), List.mem_of_getElem? (i := 1116) (by decide +kernel)⟩
theorem lw_p44 : lw_okq (⟨"CaptionTalliesModel", "counts", "()V"⟩, 24) := ⟨⟨by decide +kernel, by decide +kernel⟩, List.mem_of_getElem? (i := 912) (by decide +kernel), List.mem_of_getElem? (i := 1119) (by decide +kernel), List.mem_of_getElem? (i := 1120) (by decide +kernel)⟩
theorem lw_p45 : lw_okq (⟨"CaptionTalliesModel", "goesRounds", "()V"⟩, 24) := ⟨⟨by decide +kernel, by decide +kernel⟩, List.mem_of_getElem? (i := 912) (by decide +kernel), List.mem_of_getElem? (i := 1123) (by decide +kernel), List.mem_of_getElem? (i := 1124) (by decide +kernel)⟩
theorem lw_p46 : lw_okq (⟨"CaptionTalliesModel", "standsFor", "(I)I"⟩, 24) := ⟨⟨by decide +kernel, by decide +kernel⟩, List.mem_of_getElem? (i := 912) (by decide +kernel), List.mem_of_getElem? (i := 1127) (by decide +kernel), List.mem_of_getElem? (i := 1128) (by decide +kernel)⟩
theorem lw_p47 : lw_okq (⟨"CaptionTalliesModel", "orders", "()V"⟩, 24) := ⟨⟨by decide +kernel, by decide +kernel⟩, List.mem_of_getElem? (i := 912) (by decide +kernel), List.mem_of_getElem? (i := 1131) (by decide +kernel), List.mem_of_getElem? (i := 1132) (by decide +kernel)⟩
def lw_privs_3 : List (MethodName × Nat) := [(⟨"CaptionTalliesModel", "there", "()I"⟩, 24), (⟨"CaptionTalliesModel", "heads", "()V"⟩, 24), (⟨"CaptionTalliesModel", "takesCores", "()V"⟩, 24), (⟨"CaptionTalliesModel", "sign", "(II)I"⟩, 24), (⟨"CaptionTalliesModel", "isLinked", "(II)Z"⟩, 24), (⟨"CaptionTalliesModel", "isAlike", "(II)Z"⟩, 24), (⟨"CaptionTalliesModel", "rank", "(II)I"⟩, 24), (⟨"CaptionTalliesModel", "most", "(II)I"⟩, 24), (⟨"CaptionTalliesModel", "isHead", "(I)Z"⟩, 24), (⟨"CaptionTalliesModel", "links", "(I)I"⟩, 24), (⟨"CaptionTalliesModel", "works", "()V"⟩, 24), (⟨"CaptionTalliesModel", "tallies", "()V"⟩, 24), (⟨"CaptionTalliesModel", "counts", "()V"⟩, 24), (⟨"CaptionTalliesModel", "goesRounds", "()V"⟩, 24), (⟨"CaptionTalliesModel", "standsFor", "(I)I"⟩, 24), (⟨"CaptionTalliesModel", "orders", "()V"⟩, 24)]
theorem lw_r3 : ∀ q ∈ lw_privs_3, lw_okq q := List.forall_mem_cons.mpr ⟨lw_p32, List.forall_mem_cons.mpr ⟨lw_p33, List.forall_mem_cons.mpr ⟨lw_p34, List.forall_mem_cons.mpr ⟨lw_p35, List.forall_mem_cons.mpr ⟨lw_p36, List.forall_mem_cons.mpr ⟨lw_p37, List.forall_mem_cons.mpr ⟨lw_p38, List.forall_mem_cons.mpr ⟨lw_p39, List.forall_mem_cons.mpr ⟨lw_p40, List.forall_mem_cons.mpr ⟨lw_p41, List.forall_mem_cons.mpr ⟨lw_p42, List.forall_mem_cons.mpr ⟨lw_p43, List.forall_mem_cons.mpr ⟨lw_p44, List.forall_mem_cons.mpr ⟨lw_p45, List.forall_mem_cons.mpr ⟨lw_p46, List.forall_mem_cons.mpr ⟨lw_p47, fun _ h => absurd h List.not_mem_nil⟩⟩⟩⟩⟩⟩⟩⟩⟩⟩⟩⟩⟩⟩⟩⟩
theorem lw_p48 : lw_okq (⟨"CaptionTalliesModel", "isAhead", "(II)Z"⟩, 24) := ⟨⟨by decide +kernel, by decide +kernel⟩, List.mem_of_getElem? (i := 912) (by decide +kernel), List.mem_of_getElem? (i := 1135) (by decide +kernel), List.mem_of_getElem? (i := 1136) (by decide +kernel)⟩
theorem lw_p49 : lw_okq (⟨"CaptionTalliesModel", "tally", "(I)I"⟩, 24) := ⟨⟨by decide +kernel, by decide +kernel⟩, List.mem_of_getElem? (i := 912) (by decide +kernel), List.mem_of_getElem? (i := 1139) (by decide +kernel), List.mem_of_getElem? (i := 1140) (by decide +kernel)⟩
theorem lw_p50 : lw_okq (⟨"CaptionTalliesModel", "prizeOf", "(I)I"⟩, 24) := ⟨⟨by decide +kernel, by decide +kernel⟩, List.mem_of_getElem? (i := 912) (by decide +kernel), List.mem_of_getElem? (i := 1143) (by decide +kernel), List.mem_of_getElem? (i := 1144) (by decide +kernel)⟩
theorem lw_p51 : lw_okq (⟨"CaptionTalliesModel", "shares", "(II)V"⟩, 24) := ⟨⟨by decide +kernel, by decide +kernel⟩, List.mem_of_getElem? (i := 912) (by decide +kernel), List.mem_of_getElem? (i := 1147) (by decide +kernel), List.mem_of_getElem? (i := 1148) (by decide +kernel)⟩
theorem lw_p52 : lw_okq (⟨"CaptionTalliesModel", "stands", "(I)I"⟩, 24) := ⟨⟨by decide +kernel, by decide +kernel⟩, List.mem_of_getElem? (i := 912) (by decide +kernel), List.mem_of_getElem? (i := 1151) (by decide +kernel), List.mem_of_getElem? (i := 1152) (by decide +kernel)⟩
theorem lw_p53 : lw_okq (⟨"CaptionTalliesModel", "members", "(I)I"⟩, 24) := ⟨⟨by decide +kernel, by decide +kernel⟩, List.mem_of_getElem? (i := 912) (by decide +kernel), List.mem_of_getElem? (i := 1163) (by decide +kernel), List.mem_of_getElem? (i := 1164) (by decide +kernel)⟩
theorem lw_p54 : lw_okq (⟨"CaptionTalliesModel", "getsGroup", "(I)I"⟩, 24) := ⟨⟨by decide +kernel, by decide +kernel⟩, List.mem_of_getElem? (i := 912) (by decide +kernel), List.mem_of_getElem? (i := 1167) (by decide +kernel), List.mem_of_getElem? (i := 1168) (by decide +kernel)⟩
theorem lw_p55 : lw_okq (⟨"CaptionTalliesModel", "far", "(II)I"⟩, 24) := ⟨⟨by decide +kernel, by decide +kernel⟩, List.mem_of_getElem? (i := 912) (by decide +kernel), List.mem_of_getElem? (i := 1191) (by decide +kernel), List.mem_of_getElem? (i := 1192) (by decide +kernel)⟩
theorem lw_p56 : lw_okq (⟨"CaptionTalliesModel", "allLinks", "()I"⟩, 24) := ⟨⟨by decide +kernel, by decide +kernel⟩, List.mem_of_getElem? (i := 912) (by decide +kernel), List.mem_of_getElem? (i := 1207) (by decide +kernel), List.mem_of_getElem? (i := 1208) (by decide +kernel)⟩
theorem lw_p57 : lw_okq (⟨"CaptionTalliesModel", "over", "(I)I"⟩, 24) := ⟨⟨by decide +kernel, by decide +kernel⟩, List.mem_of_getElem? (i := 912) (by decide +kernel), List.mem_of_getElem? (i := 1211) (by decide +kernel), List.mem_of_getElem? (i := 1212) (by decide +kernel)⟩
def lw_privs_4 : List (MethodName × Nat) := [(⟨"CaptionTalliesModel", "isAhead", "(II)Z"⟩, 24), (⟨"CaptionTalliesModel", "tally", "(I)I"⟩, 24), (⟨"CaptionTalliesModel", "prizeOf", "(I)I"⟩, 24), (⟨"CaptionTalliesModel", "shares", "(II)V"⟩, 24), (⟨"CaptionTalliesModel", "stands", "(I)I"⟩, 24), (⟨"CaptionTalliesModel", "members", "(I)I"⟩, 24), (⟨"CaptionTalliesModel", "getsGroup", "(I)I"⟩, 24), (⟨"CaptionTalliesModel", "far", "(II)I"⟩, 24), (⟨"CaptionTalliesModel", "allLinks", "()I"⟩, 24), (⟨"CaptionTalliesModel", "over", "(I)I"⟩, 24)]
theorem lw_r4 : ∀ q ∈ lw_privs_4, lw_okq q := List.forall_mem_cons.mpr ⟨lw_p48, List.forall_mem_cons.mpr ⟨lw_p49, List.forall_mem_cons.mpr ⟨lw_p50, List.forall_mem_cons.mpr ⟨lw_p51, List.forall_mem_cons.mpr ⟨lw_p52, List.forall_mem_cons.mpr ⟨lw_p53, List.forall_mem_cons.mpr ⟨lw_p54, List.forall_mem_cons.mpr ⟨lw_p55, List.forall_mem_cons.mpr ⟨lw_p56, List.forall_mem_cons.mpr ⟨lw_p57, fun _ h => absurd h List.not_mem_nil⟩⟩⟩⟩⟩⟩⟩⟩⟩⟩
def lw_privs : List (MethodName × Nat) := lw_privs_1 ++ (lw_privs_2 ++ (lw_privs_3 ++ (lw_privs_4)))
def lw_tbl : List Cond := k2_sels lw_privs ++ tables_1
theorem lw_privs_ok : ∀ q ∈ lw_privs, lw_okq q := by
  show ∀ q ∈ lw_privs_1 ++ (lw_privs_2 ++ (lw_privs_3 ++ (lw_privs_4))), lw_okq q
  exact List.forall_mem_append.mpr ⟨lw_r1, List.forall_mem_append.mpr ⟨lw_r2, List.forall_mem_append.mpr ⟨lw_r3, lw_r4⟩⟩⟩
/-- the words that hold at every call -/
def lw_gt : List Cond := lw_tbl.filter goodWord
theorem lw_gts : ∀ w ∈ lw_gt, w ∈ lw_tbl := fun w h => (List.mem_filter.mp h).1
theorem wq_1 {w : Cond} {i : Nat} (h9 : tables_1_1[i]? = some w) (hg : goodWord w = true) : w ∈ lw_gt := by
  have h := List.mem_of_getElem? h9
  exact List.mem_filter.mpr ⟨List.mem_append_right _ (List.mem_append_left _ h), hg⟩
theorem wq_2 {w : Cond} {i : Nat} (h9 : tables_1_2[i]? = some w) (hg : goodWord w = true) : w ∈ lw_gt := by
  have h := List.mem_of_getElem? h9
  exact List.mem_filter.mpr ⟨List.mem_append_right _ (List.mem_append_right _ (List.mem_append_left _ h)), hg⟩
theorem wq_3 {w : Cond} {i : Nat} (h9 : tables_1_3[i]? = some w) (hg : goodWord w = true) : w ∈ lw_gt := by
  have h := List.mem_of_getElem? h9
  exact List.mem_filter.mpr ⟨List.mem_append_right _ (List.mem_append_right _ (List.mem_append_right _ (List.mem_append_left _ h))), hg⟩
theorem wq_4 {w : Cond} {i : Nat} (h9 : tables_1_4[i]? = some w) (hg : goodWord w = true) : w ∈ lw_gt := by
  have h := List.mem_of_getElem? h9
  exact List.mem_filter.mpr ⟨List.mem_append_right _ (List.mem_append_right _ (List.mem_append_right _ (List.mem_append_right _ (List.mem_append_left _ h)))), hg⟩
theorem wq_5 {w : Cond} {i : Nat} (h9 : tables_1_5[i]? = some w) (hg : goodWord w = true) : w ∈ lw_gt := by
  have h := List.mem_of_getElem? h9
  exact List.mem_filter.mpr ⟨List.mem_append_right _ (List.mem_append_right _ (List.mem_append_right _ (List.mem_append_right _ (List.mem_append_right _ (List.mem_append_left _ h))))), hg⟩
theorem wq_6 {w : Cond} {i : Nat} (h9 : tables_1_6[i]? = some w) (hg : goodWord w = true) : w ∈ lw_gt := by
  have h := List.mem_of_getElem? h9
  exact List.mem_filter.mpr ⟨List.mem_append_right _ (List.mem_append_right _ (List.mem_append_right _ (List.mem_append_right _ (List.mem_append_right _ (List.mem_append_right _ (h)))))), hg⟩
theorem wq_s {w : Cond} (h : w ∈ k2_sels lw_privs) (hg : goodWord w = true) : w ∈ lw_gt := List.mem_filter.mpr ⟨List.mem_append_left _ h, hg⟩
def N_CT : String := "CaptionTallies"
def T_CT : u_T := fun k => match k with
  | 0 => ("CaptionTallies", "draft", "LCaptionTallies$Draft;", true)
  | 1 => ("CaptionTallies", "state", "LCaptionTallies$State;", true)
  | 2 => ("CaptionTallies", "history", "LCaptionTallies$History;", true)
  | 3 => ("CaptionTallies", "snapshot", "LCaptionTallies$State;", true)
  | 4 => ("CaptionTallies", "hasSnapshot", "Z", false)
  | 5 => ("CaptionTallies", "groups", "LCaptionTallies$Groups;", true)
  | 6 => ("CaptionTallies", "counts", "LCaptionTallies$Counts;", true)
  | 7 => ("CaptionTallies", "ranks", "LCaptionTallies$Ranks;", true)
  | 8 => ("CaptionTallies", "rounds", "LCaptionTallies$Rounds;", true)
  | 9 => ("CaptionTallies", "order", "LCaptionTallies$Order;", true)
  | 10 => ("CaptionTallies", "shares", "LCaptionTallies$Shares;", true)
  | _ => ("CaptionTallies", "distances", "LCaptionTallies$Distances;", true)
def tt_CT : Nat → FieldType := fun k => match k with
  | 0 => .object "CaptionTallies$Draft"
  | 1 => .object "CaptionTallies$State"
  | 2 => .object "CaptionTallies$History"
  | 3 => .object "CaptionTallies$State"
  | 4 => .boolean
  | 5 => .object "CaptionTallies$Groups"
  | 6 => .object "CaptionTallies$Counts"
  | 7 => .object "CaptionTallies$Ranks"
  | 8 => .object "CaptionTallies$Rounds"
  | 9 => .object "CaptionTallies$Order"
  | 10 => .object "CaptionTallies$Shares"
  | _ => .object "CaptionTallies$Distances"
theorem nm_CT : ∀ a, a < 12 → ∀ b, b < 12 → a ≠ b → (T_CT a).2.1 ≠ (T_CT b).2.1 := by decide +kernel
theorem to_CT : ∀ k, k < 12 → parseFieldDescriptor (T_CT k).2.2.1 = some (tt_CT k) := by decide +kernel
set_option maxRecDepth 20000 in
theorem in_CT : ∀ w ∈ u_ws N_CT T_CT 12, w ∈ lw_gt := by decide +kernel
def N_DR : String := "CaptionTallies$Draft"
def T_DR : u_T := fun k => match k with
  | 0 => ("CaptionTallies$Draft", "codes", "[I", true)
  | _ => ("CaptionTallies$Draft", "length", "I", false)
def tt_DR : Nat → FieldType := fun k => match k with
  | 0 => .array .int
  | _ => .int
theorem nm_DR : ∀ a, a < 2 → ∀ b, b < 2 → a ≠ b → (T_DR a).2.1 ≠ (T_DR b).2.1 := by decide +kernel
theorem to_DR : ∀ k, k < 2 → parseFieldDescriptor (T_DR k).2.2.1 = some (tt_DR k) := by decide +kernel
set_option maxRecDepth 20000 in
theorem in_DR : ∀ w ∈ u_ws N_DR T_DR 2, w ∈ lw_gt := by decide +kernel
def N_ST : String := "CaptionTallies$State"
def T_ST : u_T := fun k => match k with
  | 0 => ("CaptionTallies$State", "made", "I", false)
  | 1 => ("CaptionTallies$State", "present", "[Z", true)
  | 2 => ("CaptionTallies$State", "authors", "[I", true)
  | 3 => ("CaptionTallies$State", "texts", "[I", true)
  | 4 => ("CaptionTallies$State", "lengths", "[I", true)
  | 5 => ("CaptionTallies$State", "cores", "[I", true)
  | 6 => ("CaptionTallies$State", "coreLengths", "[I", true)
  | 7 => ("CaptionTallies$State", "firstAlike", "[I", true)
  | 8 => ("CaptionTallies$State", "links", "[Z", true)
  | 9 => ("CaptionTallies$State", "wishes", "[I", true)
  | 10 => ("CaptionTallies$State", "points", "[I", true)
  | 11 => ("CaptionTallies$State", "settings", "[I", true)
  | _ => ("CaptionTallies$State", "prizes", "[I", true)
def tt_ST : Nat → FieldType := fun k => match k with
  | 0 => .int
  | 1 => .array .boolean
  | 2 => .array .int
  | 3 => .array .int
  | 4 => .array .int
  | 5 => .array .int
  | 6 => .array .int
  | 7 => .array .int
  | 8 => .array .boolean
  | 9 => .array .int
  | 10 => .array .int
  | 11 => .array .int
  | _ => .array .int
theorem nm_ST : ∀ a, a < 13 → ∀ b, b < 13 → a ≠ b → (T_ST a).2.1 ≠ (T_ST b).2.1 := by decide +kernel
theorem to_ST : ∀ k, k < 13 → parseFieldDescriptor (T_ST k).2.2.1 = some (tt_ST k) := by decide +kernel
set_option maxRecDepth 20000 in
theorem in_ST : ∀ w ∈ u_ws N_ST T_ST 13, w ∈ lw_gt := by decide +kernel
def N_HI : String := "CaptionTallies$History"
def T_HI : u_T := fun k => match k with
  | 0 => ("CaptionTallies$History", "states", "[LCaptionTallies$State;", true)
  | _ => ("CaptionTallies$History", "size", "I", false)
def tt_HI : Nat → FieldType := fun k => match k with
  | 0 => .array (.object "CaptionTallies$State")
  | _ => .int
theorem nm_HI : ∀ a, a < 2 → ∀ b, b < 2 → a ≠ b → (T_HI a).2.1 ≠ (T_HI b).2.1 := by decide +kernel
theorem to_HI : ∀ k, k < 2 → parseFieldDescriptor (T_HI k).2.2.1 = some (tt_HI k) := by decide +kernel
set_option maxRecDepth 20000 in
theorem in_HI : ∀ w ∈ u_ws N_HI T_HI 2, w ∈ lw_gt := by decide +kernel
def N_GR : String := "CaptionTallies$Groups"
def T_GR : u_T := fun k => match k with
  | 0 => ("CaptionTallies$Groups", "heads", "[I", true)
  | 1 => ("CaptionTallies$Groups", "reached", "[I", true)
  | _ => ("CaptionTallies$Groups", "number", "I", false)
def tt_GR : Nat → FieldType := fun k => match k with
  | 0 => .array .int
  | 1 => .array .int
  | _ => .int
theorem nm_GR : ∀ a, a < 3 → ∀ b, b < 3 → a ≠ b → (T_GR a).2.1 ≠ (T_GR b).2.1 := by decide +kernel
theorem to_GR : ∀ k, k < 3 → parseFieldDescriptor (T_GR k).2.2.1 = some (tt_GR k) := by decide +kernel
set_option maxRecDepth 20000 in
theorem in_GR : ∀ w ∈ u_ws N_GR T_GR 3, w ∈ lw_gt := by decide +kernel
def N_CO : String := "CaptionTallies$Counts"
def T_CO : u_T := fun k => match k with
  | 0 => ("CaptionTallies$Counts", "wishes", "[I", true)
  | 1 => ("CaptionTallies$Counts", "points", "[I", true)
  | _ => ("CaptionTallies$Counts", "firsts", "[I", true)
def tt_CO : Nat → FieldType := fun k => match k with
  | 0 => .array .int
  | 1 => .array .int
  | _ => .array .int
theorem nm_CO : ∀ a, a < 3 → ∀ b, b < 3 → a ≠ b → (T_CO a).2.1 ≠ (T_CO b).2.1 := by decide +kernel
theorem to_CO : ∀ k, k < 3 → parseFieldDescriptor (T_CO k).2.2.1 = some (tt_CO k) := by decide +kernel
set_option maxRecDepth 20000 in
theorem in_CO : ∀ w ∈ u_ws N_CO T_CO 3, w ∈ lw_gt := by decide +kernel
def N_RA : String := "CaptionTallies$Ranks"
def T_RA : u_T := fun k => match k with
  | 0 => ("CaptionTallies$Ranks", "points", "[I", true)
  | 1 => ("CaptionTallies$Ranks", "ranks", "[I", true)
  | _ => ("CaptionTallies$Ranks", "sums", "[I", true)
def tt_RA : Nat → FieldType := fun k => match k with
  | 0 => .array .int
  | 1 => .array .int
  | _ => .array .int
theorem nm_RA : ∀ a, a < 3 → ∀ b, b < 3 → a ≠ b → (T_RA a).2.1 ≠ (T_RA b).2.1 := by decide +kernel
theorem to_RA : ∀ k, k < 3 → parseFieldDescriptor (T_RA k).2.2.1 = some (tt_RA k) := by decide +kernel
set_option maxRecDepth 20000 in
theorem in_RA : ∀ w ∈ u_ws N_RA T_RA 3, w ∈ lw_gt := by decide +kernel
def N_RO : String := "CaptionTallies$Rounds"
def T_RO : u_T := fun k => match k with
  | 0 => ("CaptionTallies$Rounds", "left", "[Z", true)
  | 1 => ("CaptionTallies$Rounds", "choices", "[I", true)
  | 2 => ("CaptionTallies$Rounds", "roundOut", "[I", true)
  | 3 => ("CaptionTallies$Rounds", "headsOut", "[I", true)
  | 4 => ("CaptionTallies$Rounds", "ballotsOut", "[I", true)
  | 5 => ("CaptionTallies$Rounds", "ballotsForNone", "[I", true)
  | _ => ("CaptionTallies$Rounds", "number", "I", false)
def tt_RO : Nat → FieldType := fun k => match k with
  | 0 => .array .boolean
  | 1 => .array .int
  | 2 => .array .int
  | 3 => .array .int
  | 4 => .array .int
  | 5 => .array .int
  | _ => .int
theorem nm_RO : ∀ a, a < 7 → ∀ b, b < 7 → a ≠ b → (T_RO a).2.1 ≠ (T_RO b).2.1 := by decide +kernel
theorem to_RO : ∀ k, k < 7 → parseFieldDescriptor (T_RO k).2.2.1 = some (tt_RO k) := by decide +kernel
set_option maxRecDepth 20000 in
theorem in_RO : ∀ w ∈ u_ws N_RO T_RO 7, w ∈ lw_gt := by decide +kernel
def N_OR : String := "CaptionTallies$Order"
def T_OR : u_T := fun k => match k with
  | 0 => ("CaptionTallies$Order", "ordered", "[Z", true)
  | 1 => ("CaptionTallies$Order", "keys", "[I", true)
  | 2 => ("CaptionTallies$Order", "places", "[I", true)
  | _ => ("CaptionTallies$Order", "indexes", "[I", true)
def tt_OR : Nat → FieldType := fun k => match k with
  | 0 => .array .boolean
  | 1 => .array .int
  | 2 => .array .int
  | _ => .array .int
theorem nm_OR : ∀ a, a < 4 → ∀ b, b < 4 → a ≠ b → (T_OR a).2.1 ≠ (T_OR b).2.1 := by decide +kernel
theorem to_OR : ∀ k, k < 4 → parseFieldDescriptor (T_OR k).2.2.1 = some (tt_OR k) := by decide +kernel
set_option maxRecDepth 20000 in
theorem in_OR : ∀ w ∈ u_ws N_OR T_OR 4, w ∈ lw_gt := by decide +kernel
def N_SH : String := "CaptionTallies$Shares"
def T_SH : u_T := fun k => match k with
  | 0 => ("CaptionTallies$Shares", "ofGroups", "[I", true)
  | _ => ("CaptionTallies$Shares", "ofCaptions", "[I", true)
def tt_SH : Nat → FieldType := fun k => match k with
  | 0 => .array .int
  | _ => .array .int
theorem nm_SH : ∀ a, a < 2 → ∀ b, b < 2 → a ≠ b → (T_SH a).2.1 ≠ (T_SH b).2.1 := by decide +kernel
theorem to_SH : ∀ k, k < 2 → parseFieldDescriptor (T_SH k).2.2.1 = some (tt_SH k) := by decide +kernel
set_option maxRecDepth 20000 in
theorem in_SH : ∀ w ∈ u_ws N_SH T_SH 2, w ∈ lw_gt := by decide +kernel
def N_DI : String := "CaptionTallies$Distances"
def T_DI : u_T := fun k => match k with
  | 0 => ("CaptionTallies$Distances", "row", "[I", true)
  | _ => ("CaptionTallies$Distances", "near", "[I", true)
def tt_DI : Nat → FieldType := fun k => match k with
  | 0 => .array .int
  | _ => .array .int
theorem nm_DI : ∀ a, a < 2 → ∀ b, b < 2 → a ≠ b → (T_DI a).2.1 ≠ (T_DI b).2.1 := by decide +kernel
theorem to_DI : ∀ k, k < 2 → parseFieldDescriptor (T_DI k).2.2.1 = some (tt_DI k) := by decide +kernel
set_option maxRecDepth 20000 in
theorem in_DI : ∀ w ∈ u_ws N_DI T_DI 2, w ∈ lw_gt := by decide +kernel
def N_MO : String := "CaptionTalliesModel"
def T_MO : u_T := fun k => match k with
  | 0 => ("CaptionTalliesModel", "now", "[I", true)
  | 1 => ("CaptionTalliesModel", "slot", "[I", true)
  | 2 => ("CaptionTalliesModel", "history", "[I", true)
  | 3 => ("CaptionTalliesModel", "text", "[I", true)
  | 4 => ("CaptionTalliesModel", "kept", "I", false)
  | 5 => ("CaptionTalliesModel", "length", "I", false)
  | 6 => ("CaptionTalliesModel", "isFilled", "Z", false)
  | 7 => ("CaptionTalliesModel", "head", "[I", true)
  | 8 => ("CaptionTalliesModel", "points", "[I", true)
  | 9 => ("CaptionTalliesModel", "firsts", "[I", true)
  | 10 => ("CaptionTalliesModel", "ranks", "[I", true)
  | 11 => ("CaptionTalliesModel", "outs", "[I", true)
  | 12 => ("CaptionTalliesModel", "rounds", "[I", true)
  | 13 => ("CaptionTalliesModel", "votes", "[I", true)
  | 14 => ("CaptionTalliesModel", "loose", "[I", true)
  | 15 => ("CaptionTalliesModel", "places", "[I", true)
  | 16 => ("CaptionTalliesModel", "order", "[I", true)
  | 17 => ("CaptionTalliesModel", "gets", "[I", true)
  | 18 => ("CaptionTalliesModel", "counted", "[I", true)
  | 19 => ("CaptionTalliesModel", "cores", "[I", true)
  | 20 => ("CaptionTalliesModel", "letters", "[I", true)
  | 21 => ("CaptionTalliesModel", "above", "[I", true)
  | 22 => ("CaptionTalliesModel", "here", "[I", true)
  | _ => ("CaptionTalliesModel", "groups", "I", false)
def tt_MO : Nat → FieldType := fun k => match k with
  | 0 => .array .int
  | 1 => .array .int
  | 2 => .array .int
  | 3 => .array .int
  | 4 => .int
  | 5 => .int
  | 6 => .boolean
  | 7 => .array .int
  | 8 => .array .int
  | 9 => .array .int
  | 10 => .array .int
  | 11 => .array .int
  | 12 => .array .int
  | 13 => .array .int
  | 14 => .array .int
  | 15 => .array .int
  | 16 => .array .int
  | 17 => .array .int
  | 18 => .array .int
  | 19 => .array .int
  | 20 => .array .int
  | 21 => .array .int
  | 22 => .array .int
  | _ => .int
theorem nm_MO : ∀ a, a < 24 → ∀ b, b < 24 → a ≠ b → (T_MO a).2.1 ≠ (T_MO b).2.1 := by decide +kernel
theorem to_MO : ∀ k, k < 24 → parseFieldDescriptor (T_MO k).2.2.1 = some (tt_MO k) := by decide +kernel
set_option maxRecDepth 20000 in
theorem in_MO : ∀ w ∈ u_ws N_MO T_MO 24, w ∈ lw_gt := by decide +kernel
def y_CT_init : MethodName := ⟨"CaptionTallies", "<init>", "()V"⟩
abbrev c_CT_init : ByteArray := prog_1_method_1_code
set_option maxRecDepth 20000 in
theorem k_CT_init : Cond.code y_CT_init c_CT_init 1 none ∈ lw_gt := wq_1 (i := 20) rfl rfl
def y_DR_init : MethodName := ⟨"CaptionTallies$Draft", "<init>", "()V"⟩
abbrev c_DR_init : ByteArray := prog_4_method_1_code
set_option maxRecDepth 20000 in
theorem k_DR_init : Cond.code y_DR_init c_DR_init 1 none ∈ lw_gt := wq_1 (i := 28) rfl rfl
def y_ST_init : MethodName := ⟨"CaptionTallies$State", "<init>", "()V"⟩
abbrev c_ST_init : ByteArray := prog_11_method_1_code
set_option maxRecDepth 20000 in
theorem k_ST_init : Cond.code y_ST_init c_ST_init 1 none ∈ lw_gt := wq_1 (i := 42) rfl rfl
def y_AR_fill : MethodName := ⟨"java/util/Arrays", "fill", "([II)V"⟩
abbrev c_AR_fill : ByteArray := prog_16_method_103_code
set_option maxRecDepth 20000 in
theorem k_AR_fill : Cond.code y_AR_fill c_AR_fill 4 none ∈ lw_gt := wq_1 (i := 46) rfl rfl
def y_HI_init : MethodName := ⟨"CaptionTallies$History", "<init>", "()V"⟩
abbrev c_HI_init : ByteArray := prog_6_method_1_code
set_option maxRecDepth 20000 in
theorem k_HI_init : Cond.code y_HI_init c_HI_init 2 none ∈ lw_gt := wq_1 (i := 92) rfl rfl
def y_GR_init : MethodName := ⟨"CaptionTallies$Groups", "<init>", "()V"⟩
abbrev c_GR_init : ByteArray := prog_5_method_1_code
set_option maxRecDepth 20000 in
theorem k_GR_init : Cond.code y_GR_init c_GR_init 1 none ∈ lw_gt := wq_1 (i := 108) rfl rfl
def y_CO_init : MethodName := ⟨"CaptionTallies$Counts", "<init>", "()V"⟩
abbrev c_CO_init : ByteArray := prog_2_method_1_code
set_option maxRecDepth 20000 in
theorem k_CO_init : Cond.code y_CO_init c_CO_init 1 none ∈ lw_gt := wq_1 (i := 124) rfl rfl
def y_RA_init : MethodName := ⟨"CaptionTallies$Ranks", "<init>", "()V"⟩
abbrev c_RA_init : ByteArray := prog_8_method_1_code
set_option maxRecDepth 20000 in
theorem k_RA_init : Cond.code y_RA_init c_RA_init 1 none ∈ lw_gt := wq_1 (i := 140) rfl rfl
def y_RO_init : MethodName := ⟨"CaptionTallies$Rounds", "<init>", "()V"⟩
abbrev c_RO_init : ByteArray := prog_9_method_1_code
set_option maxRecDepth 20000 in
theorem k_RO_init : Cond.code y_RO_init c_RO_init 1 none ∈ lw_gt := wq_1 (i := 156) rfl rfl
def y_OR_init : MethodName := ⟨"CaptionTallies$Order", "<init>", "()V"⟩
abbrev c_OR_init : ByteArray := prog_7_method_1_code
set_option maxRecDepth 20000 in
theorem k_OR_init : Cond.code y_OR_init c_OR_init 1 none ∈ lw_gt := wq_1 (i := 184) rfl rfl
def y_SH_init : MethodName := ⟨"CaptionTallies$Shares", "<init>", "()V"⟩
abbrev c_SH_init : ByteArray := prog_10_method_1_code
set_option maxRecDepth 20000 in
theorem k_SH_init : Cond.code y_SH_init c_SH_init 1 none ∈ lw_gt := wq_1 (i := 203) rfl rfl
def y_DI_init : MethodName := ⟨"CaptionTallies$Distances", "<init>", "()V"⟩
abbrev c_DI_init : ByteArray := prog_3_method_1_code
set_option maxRecDepth 20000 in
theorem k_DI_init : Cond.code y_DI_init c_DI_init 1 none ∈ lw_gt := wq_1 (i := 216) rfl rfl
def y_CT_submit : MethodName := ⟨"CaptionTallies", "submit", "(I)I"⟩
abbrev c_CT_submit : ByteArray := prog_1_method_2_code
set_option maxRecDepth 20000 in
theorem k_CT_submit : Cond.code y_CT_submit c_CT_submit 3 (some .int) ∈ lw_gt := wq_2 (i := 25) rfl rfl
def y_CT_isIndex : MethodName := ⟨"CaptionTallies", "isIndex", "(II)Z"⟩
abbrev c_CT_isIndex : ByteArray := prog_1_method_38_code
set_option maxRecDepth 20000 in
theorem k_CT_isIndex : Cond.code y_CT_isIndex c_CT_isIndex 2 (some .boolean) ∈ lw_gt := wq_2 (i := 28) rfl rfl
def y_DR_firstFault : MethodName := ⟨"CaptionTallies$Draft", "firstFault", "()I"⟩
abbrev c_DR_firstFault : ByteArray := prog_4_method_6_code
set_option maxRecDepth 20000 in
theorem k_DR_firstFault : Cond.code y_DR_firstFault c_DR_firstFault 4 (some .int) ∈ lw_gt := wq_2 (i := 32) rfl rfl
def y_DR_codeAt : MethodName := ⟨"CaptionTallies$Draft", "codeAt", "(I)I"⟩
abbrev c_DR_codeAt : ByteArray := prog_4_method_3_code
set_option maxRecDepth 20000 in
theorem k_DR_codeAt : Cond.code y_DR_codeAt c_DR_codeAt 2 (some .int) ∈ lw_gt := wq_2 (i := 36) rfl rfl
def y_CT_at : MethodName := ⟨"CaptionTallies", "at", "([II)I"⟩
abbrev c_CT_at : ByteArray := prog_1_method_39_code
set_option maxRecDepth 20000 in
theorem k_CT_at : Cond.code y_CT_at c_CT_at 2 (some .int) ∈ lw_gt := wq_2 (i := 39) rfl rfl
def y_CT_isLetter : MethodName := ⟨"CaptionTallies", "isLetter", "(I)Z"⟩
abbrev c_CT_isLetter : ByteArray := prog_1_method_45_code
set_option maxRecDepth 20000 in
theorem k_CT_isLetter : Cond.code y_CT_isLetter c_CT_isLetter 1 (some .boolean) ∈ lw_gt := wq_2 (i := 42) rfl rfl
def y_CT_isSmall : MethodName := ⟨"CaptionTallies", "isSmall", "(I)Z"⟩
abbrev c_CT_isSmall : ByteArray := prog_1_method_43_code
set_option maxRecDepth 20000 in
theorem k_CT_isSmall : Cond.code y_CT_isSmall c_CT_isSmall 1 (some .boolean) ∈ lw_gt := wq_2 (i := 45) rfl rfl
def y_CT_isGreat : MethodName := ⟨"CaptionTallies", "isGreat", "(I)Z"⟩
abbrev c_CT_isGreat : ByteArray := prog_1_method_44_code
set_option maxRecDepth 20000 in
theorem k_CT_isGreat : Cond.code y_CT_isGreat c_CT_isGreat 1 (some .boolean) ∈ lw_gt := wq_2 (i := 48) rfl rfl
def y_CT_isSign : MethodName := ⟨"CaptionTallies", "isSign", "(I)Z"⟩
abbrev c_CT_isSign : ByteArray := prog_1_method_46_code
set_option maxRecDepth 20000 in
theorem k_CT_isSign : Cond.code y_CT_isSign c_CT_isSign 1 (some .boolean) ∈ lw_gt := wq_2 (i := 51) rfl rfl
def y_ST_captionsSoFar : MethodName := ⟨"CaptionTallies$State", "captionsSoFar", "()I"⟩
abbrev c_ST_captionsSoFar : ByteArray := prog_11_method_3_code
set_option maxRecDepth 20000 in
theorem k_ST_captionsSoFar : Cond.code y_ST_captionsSoFar c_ST_captionsSoFar 1 (some .int) ∈ lw_gt := wq_2 (i := 55) rfl rfl
def y_HI_record : MethodName := ⟨"CaptionTallies$History", "record", "(LCaptionTallies$State;)V"⟩
abbrev c_HI_record : ByteArray := prog_6_method_3_code
set_option maxRecDepth 20000 in
theorem k_HI_record : Cond.code y_HI_record c_HI_record 2 none ∈ lw_gt := wq_2 (i := 59) rfl rfl
def y_HI_dropOldest : MethodName := ⟨"CaptionTallies$History", "dropOldest", "()V"⟩
abbrev c_HI_dropOldest : ByteArray := prog_6_method_4_code
set_option maxRecDepth 20000 in
theorem k_HI_dropOldest : Cond.code y_HI_dropOldest c_HI_dropOldest 3 none ∈ lw_gt := wq_2 (i := 63) rfl rfl
def y_ST_copyFrom : MethodName := ⟨"CaptionTallies$State", "copyFrom", "(LCaptionTallies$State;)V"⟩
abbrev c_ST_copyFrom : ByteArray := prog_11_method_2_code
set_option maxRecDepth 20000 in
theorem k_ST_copyFrom : Cond.code y_ST_copyFrom c_ST_copyFrom 2 none ∈ lw_gt := wq_2 (i := 68) rfl rfl
def y_CT_copyFlags : MethodName := ⟨"CaptionTallies", "copyFlags", "([Z[Z)V"⟩
abbrev c_CT_copyFlags : ByteArray := prog_1_method_42_code
set_option maxRecDepth 20000 in
theorem k_CT_copyFlags : Cond.code y_CT_copyFlags c_CT_copyFlags 2 none ∈ lw_gt := wq_2 (i := 71) rfl rfl
def y_CT_copyRow : MethodName := ⟨"CaptionTallies", "copyRow", "([I[I)V"⟩
abbrev c_CT_copyRow : ByteArray := prog_1_method_41_code
set_option maxRecDepth 20000 in
theorem k_CT_copyRow : Cond.code y_CT_copyRow c_CT_copyRow 2 none ∈ lw_gt := wq_2 (i := 80) rfl rfl
def y_ST_add : MethodName := ⟨"CaptionTallies$State", "add", "(ILCaptionTallies$Draft;)I"⟩
abbrev c_ST_add : ByteArray := prog_11_method_6_code
set_option maxRecDepth 20000 in
theorem k_ST_add : Cond.code y_ST_add c_ST_add 6 (some .int) ∈ lw_gt := wq_2 (i := 84) rfl rfl
def y_DR_length : MethodName := ⟨"CaptionTallies$Draft", "length", "()I"⟩
abbrev c_DR_length : ByteArray := prog_4_method_2_code
set_option maxRecDepth 20000 in
theorem k_DR_length : Cond.code y_DR_length c_DR_length 1 (some .int) ∈ lw_gt := wq_2 (i := 89) rfl rfl
def y_ST_addLetter : MethodName := ⟨"CaptionTallies$State", "addLetter", "(III)V"⟩
abbrev c_ST_addLetter : ByteArray := prog_11_method_7_code
set_option maxRecDepth 20000 in
theorem k_ST_addLetter : Cond.code y_ST_addLetter c_ST_addLetter 5 none ∈ lw_gt := wq_2 (i := 95) rfl rfl
def y_CT_put : MethodName := ⟨"CaptionTallies", "put", "([III)V"⟩
abbrev c_CT_put : ByteArray := prog_1_method_40_code
set_option maxRecDepth 20000 in
theorem k_CT_put : Cond.code y_CT_put c_CT_put 3 none ∈ lw_gt := wq_2 (i := 98) rfl rfl
def y_ST_coreLengthOf : MethodName := ⟨"CaptionTallies$State", "coreLengthOf", "(I)I"⟩
abbrev c_ST_coreLengthOf : ByteArray := prog_11_method_14_code
set_option maxRecDepth 20000 in
theorem k_ST_coreLengthOf : Cond.code y_ST_coreLengthOf c_ST_coreLengthOf 2 (some .int) ∈ lw_gt := wq_2 (i := 103) rfl rfl
def y_CT_smallOf : MethodName := ⟨"CaptionTallies", "smallOf", "(I)I"⟩
abbrev c_CT_smallOf : ByteArray := prog_1_method_47_code
set_option maxRecDepth 20000 in
theorem k_CT_smallOf : Cond.code y_CT_smallOf c_CT_smallOf 1 (some .int) ∈ lw_gt := wq_2 (i := 107) rfl rfl
def y_ST_firstWithCoreOf : MethodName := ⟨"CaptionTallies$State", "firstWithCoreOf", "(I)I"⟩
abbrev c_ST_firstWithCoreOf : ByteArray := prog_11_method_8_code
set_option maxRecDepth 20000 in
theorem k_ST_firstWithCoreOf : Cond.code y_ST_firstWithCoreOf c_ST_firstWithCoreOf 3 (some .int) ∈ lw_gt := wq_2 (i := 111) rfl rfl
def y_ST_haveSameCore : MethodName := ⟨"CaptionTallies$State", "haveSameCore", "(II)Z"⟩
abbrev c_ST_haveSameCore : ByteArray := prog_11_method_9_code
set_option maxRecDepth 20000 in
theorem k_ST_haveSameCore : Cond.code y_ST_haveSameCore c_ST_haveSameCore 4 (some .boolean) ∈ lw_gt := wq_2 (i := 115) rfl rfl
def y_ST_coreLetter : MethodName := ⟨"CaptionTallies$State", "coreLetter", "(II)I"⟩
abbrev c_ST_coreLetter : ByteArray := prog_11_method_16_code
set_option maxRecDepth 20000 in
theorem k_ST_coreLetter : Cond.code y_ST_coreLetter c_ST_coreLetter 3 (some .int) ∈ lw_gt := wq_2 (i := 119) rfl rfl
def y_CT_withdraw : MethodName := ⟨"CaptionTallies", "withdraw", "(I)I"⟩
abbrev c_CT_withdraw : ByteArray := prog_1_method_3_code
set_option maxRecDepth 20000 in
theorem k_CT_withdraw : Cond.code y_CT_withdraw c_CT_withdraw 2 (some .int) ∈ lw_gt := wq_2 (i := 123) rfl rfl
def y_ST_isIn : MethodName := ⟨"CaptionTallies$State", "isIn", "(I)Z"⟩
abbrev c_ST_isIn : ByteArray := prog_11_method_4_code
set_option maxRecDepth 20000 in
theorem k_ST_isIn : Cond.code y_ST_isIn c_ST_isIn 2 (some .boolean) ∈ lw_gt := wq_2 (i := 127) rfl rfl
def y_ST_takeOut : MethodName := ⟨"CaptionTallies$State", "takeOut", "(I)V"⟩
abbrev c_ST_takeOut : ByteArray := prog_11_method_11_code
set_option maxRecDepth 20000 in
theorem k_ST_takeOut : Cond.code y_ST_takeOut c_ST_takeOut 2 none ∈ lw_gt := wq_2 (i := 131) rfl rfl
def y_ST_captionsIn : MethodName := ⟨"CaptionTallies$State", "captionsIn", "()I"⟩
abbrev c_ST_captionsIn : ByteArray := prog_11_method_5_code
set_option maxRecDepth 20000 in
theorem k_ST_captionsIn : Cond.code y_ST_captionsIn c_ST_captionsIn 3 (some .int) ∈ lw_gt := wq_2 (i := 135) rfl rfl
def y_CT_join : MethodName := ⟨"CaptionTallies", "join", "(II)I"⟩
abbrev c_CT_join : ByteArray := prog_1_method_4_code
set_option maxRecDepth 20000 in
theorem k_CT_join : Cond.code y_CT_join c_CT_join 3 (some .int) ∈ lw_gt := wq_2 (i := 140) rfl rfl
def y_GR_find : MethodName := ⟨"CaptionTallies$Groups", "find", "(LCaptionTallies$State;)V"⟩
abbrev c_GR_find : ByteArray := prog_5_method_2_code
set_option maxRecDepth 20000 in
theorem k_GR_find : Cond.code y_GR_find c_GR_find 3 none ∈ lw_gt := wq_2 (i := 144) rfl rfl
def y_GR_gather : MethodName := ⟨"CaptionTallies$Groups", "gather", "(LCaptionTallies$State;I)V"⟩
abbrev c_GR_gather : ByteArray := prog_5_method_3_code
set_option maxRecDepth 20000 in
theorem k_GR_gather : Cond.code y_GR_gather c_GR_gather 7 none ∈ lw_gt := wq_2 (i := 150) rfl rfl
def y_GR_areTied : MethodName := ⟨"CaptionTallies$Groups", "areTied", "(LCaptionTallies$State;II)Z"⟩
abbrev c_GR_areTied : ByteArray := prog_5_method_4_code
set_option maxRecDepth 20000 in
theorem k_GR_areTied : Cond.code y_GR_areTied c_GR_areTied 3 (some .boolean) ∈ lw_gt := wq_2 (i := 154) rfl rfl
def y_ST_areLinked : MethodName := ⟨"CaptionTallies$State", "areLinked", "(II)Z"⟩
abbrev c_ST_areLinked : ByteArray := prog_11_method_17_code
set_option maxRecDepth 20000 in
theorem k_ST_areLinked : Cond.code y_ST_areLinked c_ST_areLinked 3 (some .boolean) ∈ lw_gt := wq_2 (i := 158) rfl rfl
def y_ST_areAlike : MethodName := ⟨"CaptionTallies$State", "areAlike", "(II)Z"⟩
abbrev c_ST_areAlike : ByteArray := prog_11_method_10_code
set_option maxRecDepth 20000 in
theorem k_ST_areAlike : Cond.code y_ST_areAlike c_ST_areAlike 3 (some .boolean) ∈ lw_gt := wq_2 (i := 162) rfl rfl
def y_GR_headOf : MethodName := ⟨"CaptionTallies$Groups", "headOf", "(I)I"⟩
abbrev c_GR_headOf : ByteArray := prog_5_method_6_code
set_option maxRecDepth 20000 in
theorem k_GR_headOf : Cond.code y_GR_headOf c_GR_headOf 2 (some .int) ∈ lw_gt := wq_2 (i := 166) rfl rfl
def y_ST_link : MethodName := ⟨"CaptionTallies$State", "link", "(II)V"⟩
abbrev c_ST_link : ByteArray := prog_11_method_18_code
set_option maxRecDepth 20000 in
theorem k_ST_link : Cond.code y_ST_link c_ST_link 3 none ∈ lw_gt := wq_2 (i := 171) rfl rfl
def y_ST_putLink : MethodName := ⟨"CaptionTallies$State", "putLink", "(IIZ)V"⟩
abbrev c_ST_putLink : ByteArray := prog_11_method_20_code
set_option maxRecDepth 20000 in
theorem k_ST_putLink : Cond.code y_ST_putLink c_ST_putLink 4 none ∈ lw_gt := wq_2 (i := 175) rfl rfl
def y_CT_part : MethodName := ⟨"CaptionTallies", "part", "(I)I"⟩
abbrev c_CT_part : ByteArray := prog_1_method_5_code
set_option maxRecDepth 20000 in
theorem k_CT_part : Cond.code y_CT_part c_CT_part 2 (some .int) ∈ lw_gt := wq_2 (i := 179) rfl rfl
def y_ST_hasLinks : MethodName := ⟨"CaptionTallies$State", "hasLinks", "(I)Z"⟩
abbrev c_ST_hasLinks : ByteArray := prog_11_method_21_code
set_option maxRecDepth 20000 in
theorem k_ST_hasLinks : Cond.code y_ST_hasLinks c_ST_hasLinks 3 (some .boolean) ∈ lw_gt := wq_2 (i := 183) rfl rfl
def y_ST_cutLinks : MethodName := ⟨"CaptionTallies$State", "cutLinks", "(I)V"⟩
abbrev c_ST_cutLinks : ByteArray := prog_11_method_19_code
set_option maxRecDepth 20000 in
theorem k_ST_cutLinks : Cond.code y_ST_cutLinks c_ST_cutLinks 3 none ∈ lw_gt := wq_2 (i := 188) rfl rfl
def y_CT_vote : MethodName := ⟨"CaptionTallies", "vote", "(IIII)I"⟩
abbrev c_CT_vote : ByteArray := prog_1_method_6_code
set_option maxRecDepth 20000 in
theorem k_CT_vote : Cond.code y_CT_vote c_CT_vote 5 (some .int) ∈ lw_gt := wq_2 (i := 192) rfl rfl
def y_CT_isWish : MethodName := ⟨"CaptionTallies", "isWish", "(I)Z"⟩
abbrev c_CT_isWish : ByteArray := prog_1_method_30_code
set_option maxRecDepth 20000 in
theorem k_CT_isWish : Cond.code y_CT_isWish c_CT_isWish 2 (some .boolean) ∈ lw_gt := wq_2 (i := 196) rfl rfl
def y_CT_hasGap : MethodName := ⟨"CaptionTallies", "hasGap", "(III)Z"⟩
abbrev c_CT_hasGap : ByteArray := prog_1_method_31_code
set_option maxRecDepth 20000 in
theorem k_CT_hasGap : Cond.code y_CT_hasGap c_CT_hasGap 3 (some .boolean) ∈ lw_gt := wq_2 (i := 199) rfl rfl
def y_CT_isTwice : MethodName := ⟨"CaptionTallies", "isTwice", "(III)Z"⟩
abbrev c_CT_isTwice : ByteArray := prog_1_method_32_code
set_option maxRecDepth 20000 in
theorem k_CT_isTwice : Cond.code y_CT_isTwice c_CT_isTwice 3 (some .boolean) ∈ lw_gt := wq_2 (i := 202) rfl rfl
def y_ST_isFilledIn : MethodName := ⟨"CaptionTallies$State", "isFilledIn", "(IIII)Z"⟩
abbrev c_ST_isFilledIn : ByteArray := prog_11_method_25_code
set_option maxRecDepth 20000 in
theorem k_ST_isFilledIn : Cond.code y_ST_isFilledIn c_ST_isFilledIn 5 (some .boolean) ∈ lw_gt := wq_2 (i := 206) rfl rfl
def y_ST_wish : MethodName := ⟨"CaptionTallies$State", "wish", "(II)I"⟩
abbrev c_ST_wish : ByteArray := prog_11_method_24_code
set_option maxRecDepth 20000 in
theorem k_ST_wish : Cond.code y_ST_wish c_ST_wish 3 (some .int) ∈ lw_gt := wq_2 (i := 210) rfl rfl
def y_ST_fillIn : MethodName := ⟨"CaptionTallies$State", "fillIn", "(IIII)V"⟩
abbrev c_ST_fillIn : ByteArray := prog_11_method_26_code
set_option maxRecDepth 20000 in
theorem k_ST_fillIn : Cond.code y_ST_fillIn c_ST_fillIn 5 none ∈ lw_gt := wq_2 (i := 214) rfl rfl
def y_ST_wishesOf : MethodName := ⟨"CaptionTallies$State", "wishesOf", "(I)I"⟩
abbrev c_ST_wishesOf : ByteArray := prog_11_method_27_code
set_option maxRecDepth 20000 in
theorem k_ST_wishesOf : Cond.code y_ST_wishesOf c_ST_wishesOf 4 (some .int) ∈ lw_gt := wq_2 (i := 218) rfl rfl
def y_CT_score : MethodName := ⟨"CaptionTallies", "score", "(III)I"⟩
abbrev c_CT_score : ByteArray := prog_1_method_7_code
set_option maxRecDepth 20000 in
theorem k_CT_score : Cond.code y_CT_score c_CT_score 4 (some .int) ∈ lw_gt := wq_2 (i := 222) rfl rfl
def y_ST_pointsBy : MethodName := ⟨"CaptionTallies$State", "pointsBy", "(II)I"⟩
abbrev c_ST_pointsBy : ByteArray := prog_11_method_29_code
set_option maxRecDepth 20000 in
theorem k_ST_pointsBy : Cond.code y_ST_pointsBy c_ST_pointsBy 3 (some .int) ∈ lw_gt := wq_2 (i := 226) rfl rfl
def y_ST_givePoints : MethodName := ⟨"CaptionTallies$State", "givePoints", "(III)V"⟩
abbrev c_ST_givePoints : ByteArray := prog_11_method_30_code
set_option maxRecDepth 20000 in
theorem k_ST_givePoints : Cond.code y_ST_givePoints c_ST_givePoints 4 none ∈ lw_gt := wq_2 (i := 230) rfl rfl
def y_RA_fill : MethodName := ⟨"CaptionTallies$Ranks", "fill", "(LCaptionTallies$State;LCaptionTallies$Groups;)V"⟩
abbrev c_RA_fill : ByteArray := prog_8_method_2_code
set_option maxRecDepth 20000 in
theorem k_RA_fill : Cond.code y_RA_fill c_RA_fill 4 none ∈ lw_gt := wq_2 (i := 234) rfl rfl
def y_RA_fillPoints : MethodName := ⟨"CaptionTallies$Ranks", "fillPoints", "(LCaptionTallies$State;LCaptionTallies$Groups;I)V"⟩
abbrev c_RA_fillPoints : ByteArray := prog_8_method_3_code
set_option maxRecDepth 20000 in
theorem k_RA_fillPoints : Cond.code y_RA_fillPoints c_RA_fillPoints 7 none ∈ lw_gt := wq_2 (i := 239) rfl rfl
def y_RA_pointsBy : MethodName := ⟨"CaptionTallies$Ranks", "pointsBy", "(II)I"⟩
abbrev c_RA_pointsBy : ByteArray := prog_8_method_6_code
set_option maxRecDepth 20000 in
theorem k_RA_pointsBy : Cond.code y_RA_pointsBy c_RA_pointsBy 3 (some .int) ∈ lw_gt := wq_3 (i := 4) rfl rfl
def y_RA_fillRanks : MethodName := ⟨"CaptionTallies$Ranks", "fillRanks", "(LCaptionTallies$Groups;I)V"⟩
abbrev c_RA_fillRanks : ByteArray := prog_8_method_4_code
set_option maxRecDepth 20000 in
theorem k_RA_fillRanks : Cond.code y_RA_fillRanks c_RA_fillRanks 5 none ∈ lw_gt := wq_3 (i := 14) rfl rfl
def y_GR_isHead : MethodName := ⟨"CaptionTallies$Groups", "isHead", "(I)Z"⟩
abbrev c_GR_isHead : ByteArray := prog_5_method_7_code
set_option maxRecDepth 20000 in
theorem k_GR_isHead : Cond.code y_GR_isHead c_GR_isHead 2 (some .boolean) ∈ lw_gt := wq_3 (i := 18) rfl rfl
def y_RA_groupsWithMore : MethodName := ⟨"CaptionTallies$Ranks", "groupsWithMore", "(LCaptionTallies$Groups;II)I"⟩
abbrev c_RA_groupsWithMore : ByteArray := prog_8_method_5_code
set_option maxRecDepth 20000 in
theorem k_RA_groupsWithMore : Cond.code y_RA_groupsWithMore c_RA_groupsWithMore 6 (some .int) ∈ lw_gt := wq_3 (i := 23) rfl rfl
def y_RA_rankBy : MethodName := ⟨"CaptionTallies$Ranks", "rankBy", "(II)I"⟩
abbrev c_RA_rankBy : ByteArray := prog_8_method_7_code
set_option maxRecDepth 20000 in
theorem k_RA_rankBy : Cond.code y_RA_rankBy c_RA_rankBy 3 (some .int) ∈ lw_gt := wq_3 (i := 27) rfl rfl
def y_CT_set : MethodName := ⟨"CaptionTallies", "set", "(II)I"⟩
abbrev c_CT_set : ByteArray := prog_1_method_8_code
set_option maxRecDepth 20000 in
theorem k_CT_set : Cond.code y_CT_set c_CT_set 4 (some .int) ∈ lw_gt := wq_3 (i := 31) rfl rfl
def y_CT_mostOf : MethodName := ⟨"CaptionTallies", "mostOf", "(I)I"⟩
abbrev c_CT_mostOf : ByteArray := prog_1_method_33_code
set_option maxRecDepth 20000 in
theorem k_CT_mostOf : Cond.code y_CT_mostOf c_CT_mostOf 1 (some .int) ∈ lw_gt := wq_3 (i := 34) rfl rfl
def y_ST_setting : MethodName := ⟨"CaptionTallies$State", "setting", "(I)I"⟩
abbrev c_ST_setting : ByteArray := prog_11_method_31_code
set_option maxRecDepth 20000 in
theorem k_ST_setting : Cond.code y_ST_setting c_ST_setting 2 (some .int) ∈ lw_gt := wq_3 (i := 38) rfl rfl
def y_ST_changeSetting : MethodName := ⟨"CaptionTallies$State", "changeSetting", "(II)V"⟩
abbrev c_ST_changeSetting : ByteArray := prog_11_method_32_code
set_option maxRecDepth 20000 in
theorem k_ST_changeSetting : Cond.code y_ST_changeSetting c_ST_changeSetting 3 none ∈ lw_gt := wq_3 (i := 42) rfl rfl
def y_CT_prize : MethodName := ⟨"CaptionTallies", "prize", "(II)I"⟩
abbrev c_CT_prize : ByteArray := prog_1_method_9_code
set_option maxRecDepth 20000 in
theorem k_CT_prize : Cond.code y_CT_prize c_CT_prize 4 (some .int) ∈ lw_gt := wq_3 (i := 46) rfl rfl
def y_ST_prizeOf : MethodName := ⟨"CaptionTallies$State", "prizeOf", "(I)I"⟩
abbrev c_ST_prizeOf : ByteArray := prog_11_method_33_code
set_option maxRecDepth 20000 in
theorem k_ST_prizeOf : Cond.code y_ST_prizeOf c_ST_prizeOf 2 (some .int) ∈ lw_gt := wq_3 (i := 50) rfl rfl
def y_ST_changePrize : MethodName := ⟨"CaptionTallies$State", "changePrize", "(II)V"⟩
abbrev c_ST_changePrize : ByteArray := prog_11_method_34_code
set_option maxRecDepth 20000 in
theorem k_ST_changePrize : Cond.code y_ST_changePrize c_ST_changePrize 3 none ∈ lw_gt := wq_3 (i := 54) rfl rfl
def y_CT_type : MethodName := ⟨"CaptionTallies", "type", "(C)I"⟩
abbrev c_CT_type : ByteArray := prog_1_method_10_code
set_option maxRecDepth 20000 in
theorem k_CT_type : Cond.code y_CT_type c_CT_type 2 (some .int) ∈ lw_gt := wq_3 (i := 58) rfl rfl
def y_DR_append : MethodName := ⟨"CaptionTallies$Draft", "append", "(C)V"⟩
abbrev c_DR_append : ByteArray := prog_4_method_4_code
set_option maxRecDepth 20000 in
theorem k_DR_append : Cond.code y_DR_append c_DR_append 2 none ∈ lw_gt := wq_3 (i := 63) rfl rfl
def y_CT_clearText : MethodName := ⟨"CaptionTallies", "clearText", "()I"⟩
abbrev c_CT_clearText : ByteArray := prog_1_method_11_code
set_option maxRecDepth 20000 in
theorem k_CT_clearText : Cond.code y_CT_clearText c_CT_clearText 2 (some .int) ∈ lw_gt := wq_3 (i := 68) rfl rfl
def y_DR_empty : MethodName := ⟨"CaptionTallies$Draft", "empty", "()V"⟩
abbrev c_DR_empty : ByteArray := prog_4_method_5_code
set_option maxRecDepth 20000 in
theorem k_DR_empty : Cond.code y_DR_empty c_DR_empty 1 none ∈ lw_gt := wq_3 (i := 72) rfl rfl
def y_CT_undo : MethodName := ⟨"CaptionTallies", "undo", "()I"⟩
abbrev c_CT_undo : ByteArray := prog_1_method_12_code
set_option maxRecDepth 20000 in
theorem k_CT_undo : Cond.code y_CT_undo c_CT_undo 1 (some .int) ∈ lw_gt := wq_3 (i := 76) rfl rfl
def y_HI_size : MethodName := ⟨"CaptionTallies$History", "size", "()I"⟩
abbrev c_HI_size : ByteArray := prog_6_method_2_code
set_option maxRecDepth 20000 in
theorem k_HI_size : Cond.code y_HI_size c_HI_size 1 (some .int) ∈ lw_gt := wq_3 (i := 80) rfl rfl
def y_HI_takeBack : MethodName := ⟨"CaptionTallies$History", "takeBack", "(LCaptionTallies$State;)V"⟩
abbrev c_HI_takeBack : ByteArray := prog_6_method_5_code
set_option maxRecDepth 20000 in
theorem k_HI_takeBack : Cond.code y_HI_takeBack c_HI_takeBack 2 none ∈ lw_gt := wq_3 (i := 84) rfl rfl
def y_CT_keep : MethodName := ⟨"CaptionTallies", "keep", "()I"⟩
abbrev c_CT_keep : ByteArray := prog_1_method_13_code
set_option maxRecDepth 20000 in
theorem k_CT_keep : Cond.code y_CT_keep c_CT_keep 1 (some .int) ∈ lw_gt := wq_3 (i := 88) rfl rfl
def y_CT_restore : MethodName := ⟨"CaptionTallies", "restore", "()I"⟩
abbrev c_CT_restore : ByteArray := prog_1_method_14_code
set_option maxRecDepth 20000 in
theorem k_CT_restore : Cond.code y_CT_restore c_CT_restore 1 (some .int) ∈ lw_gt := wq_3 (i := 93) rfl rfl
def y_CT_caption : MethodName := ⟨"CaptionTallies", "caption", "(II)I"⟩
abbrev c_CT_caption : ByteArray := prog_1_method_15_code
set_option maxRecDepth 20000 in
theorem k_CT_caption : Cond.code y_CT_caption c_CT_caption 3 (some .int) ∈ lw_gt := wq_3 (i := 97) rfl rfl
def y_ST_authorOf : MethodName := ⟨"CaptionTallies$State", "authorOf", "(I)I"⟩
abbrev c_ST_authorOf : ByteArray := prog_11_method_12_code
set_option maxRecDepth 20000 in
theorem k_ST_authorOf : Cond.code y_ST_authorOf c_ST_authorOf 2 (some .int) ∈ lw_gt := wq_3 (i := 101) rfl rfl
def y_ST_lengthOf : MethodName := ⟨"CaptionTallies$State", "lengthOf", "(I)I"⟩
abbrev c_ST_lengthOf : ByteArray := prog_11_method_13_code
set_option maxRecDepth 20000 in
theorem k_ST_lengthOf : Cond.code y_ST_lengthOf c_ST_lengthOf 2 (some .int) ∈ lw_gt := wq_3 (i := 105) rfl rfl
def y_ST_linksInContest : MethodName := ⟨"CaptionTallies$State", "linksInContest", "(I)I"⟩
abbrev c_ST_linksInContest : ByteArray := prog_11_method_22_code
set_option maxRecDepth 20000 in
theorem k_ST_linksInContest : Cond.code y_ST_linksInContest c_ST_linksInContest 4 (some .int) ∈ lw_gt := wq_3 (i := 110) rfl rfl
def y_CT_tally : MethodName := ⟨"CaptionTallies", "tally", "()V"⟩
abbrev c_CT_tally : ByteArray := prog_1_method_26_code
set_option maxRecDepth 20000 in
theorem k_CT_tally : Cond.code y_CT_tally c_CT_tally 1 none ∈ lw_gt := wq_3 (i := 114) rfl rfl
def y_CO_fill : MethodName := ⟨"CaptionTallies$Counts", "fill", "(LCaptionTallies$State;LCaptionTallies$Groups;)V"⟩
abbrev c_CO_fill : ByteArray := prog_2_method_2_code
set_option maxRecDepth 20000 in
theorem k_CO_fill : Cond.code y_CO_fill c_CO_fill 4 none ∈ lw_gt := wq_3 (i := 118) rfl rfl
def y_CO_fillBallot : MethodName := ⟨"CaptionTallies$Counts", "fillBallot", "(LCaptionTallies$State;LCaptionTallies$Groups;I)V"⟩
abbrev c_CO_fillBallot : ByteArray := prog_2_method_3_code
set_option maxRecDepth 20000 in
theorem k_CO_fillBallot : Cond.code y_CO_fillBallot c_CO_fillBallot 8 none ∈ lw_gt := wq_3 (i := 123) rfl rfl
def y_CO_hasGroup : MethodName := ⟨"CaptionTallies$Counts", "hasGroup", "(LCaptionTallies$Groups;II)Z"⟩
abbrev c_CO_hasGroup : ByteArray := prog_2_method_4_code
set_option maxRecDepth 20000 in
theorem k_CO_hasGroup : Cond.code y_CO_hasGroup c_CO_hasGroup 5 (some .boolean) ∈ lw_gt := wq_3 (i := 129) rfl rfl
def y_CO_wish : MethodName := ⟨"CaptionTallies$Counts", "wish", "(II)I"⟩
abbrev c_CO_wish : ByteArray := prog_2_method_5_code
set_option maxRecDepth 20000 in
theorem k_CO_wish : Cond.code y_CO_wish c_CO_wish 3 (some .int) ∈ lw_gt := wq_3 (i := 133) rfl rfl
def y_CO_pointsOf : MethodName := ⟨"CaptionTallies$Counts", "pointsOf", "(I)I"⟩
abbrev c_CO_pointsOf : ByteArray := prog_2_method_6_code
set_option maxRecDepth 20000 in
theorem k_CO_pointsOf : Cond.code y_CO_pointsOf c_CO_pointsOf 2 (some .int) ∈ lw_gt := wq_3 (i := 139) rfl rfl
def y_CO_firstsOf : MethodName := ⟨"CaptionTallies$Counts", "firstsOf", "(I)I"⟩
abbrev c_CO_firstsOf : ByteArray := prog_2_method_7_code
set_option maxRecDepth 20000 in
theorem k_CO_firstsOf : Cond.code y_CO_firstsOf c_CO_firstsOf 2 (some .int) ∈ lw_gt := wq_3 (i := 143) rfl rfl
def y_RO_play : MethodName := ⟨"CaptionTallies$Rounds", "play", "(LCaptionTallies$State;LCaptionTallies$Groups;LCaptionTallies$Ranks;)V"⟩
abbrev c_RO_play : ByteArray := prog_9_method_2_code
set_option maxRecDepth 20000 in
theorem k_RO_play : Cond.code y_RO_play c_RO_play 6 none ∈ lw_gt := wq_3 (i := 147) rfl rfl
def y_RO_beginWith : MethodName := ⟨"CaptionTallies$Rounds", "beginWith", "(LCaptionTallies$Groups;)V"⟩
abbrev c_RO_beginWith : ByteArray := prog_9_method_3_code
set_option maxRecDepth 20000 in
theorem k_RO_beginWith : Cond.code y_RO_beginWith c_RO_beginWith 3 none ∈ lw_gt := wq_3 (i := 151) rfl rfl
def y_GR_number : MethodName := ⟨"CaptionTallies$Groups", "number", "()I"⟩
abbrev c_GR_number : ByteArray := prog_5_method_5_code
set_option maxRecDepth 20000 in
theorem k_GR_number : Cond.code y_GR_number c_GR_number 1 (some .int) ∈ lw_gt := wq_3 (i := 157) rfl rfl
def y_RO_choose : MethodName := ⟨"CaptionTallies$Rounds", "choose", "(LCaptionTallies$State;LCaptionTallies$Groups;)V"⟩
abbrev c_RO_choose : ByteArray := prog_9_method_5_code
set_option maxRecDepth 20000 in
theorem k_RO_choose : Cond.code y_RO_choose c_RO_choose 4 none ∈ lw_gt := wq_3 (i := 163) rfl rfl
def y_RO_firstLeft : MethodName := ⟨"CaptionTallies$Rounds", "firstLeft", "(LCaptionTallies$State;LCaptionTallies$Groups;I)I"⟩
abbrev c_RO_firstLeft : ByteArray := prog_9_method_6_code
set_option maxRecDepth 20000 in
theorem k_RO_firstLeft : Cond.code y_RO_firstLeft c_RO_firstLeft 6 (some .int) ∈ lw_gt := wq_3 (i := 167) rfl rfl
def y_RO_weakest : MethodName := ⟨"CaptionTallies$Rounds", "weakest", "(LCaptionTallies$Ranks;)I"⟩
abbrev c_RO_weakest : ByteArray := prog_9_method_7_code
set_option maxRecDepth 20000 in
theorem k_RO_weakest : Cond.code y_RO_weakest c_RO_weakest 4 (some .int) ∈ lw_gt := wq_3 (i := 174) rfl rfl
def y_RO_isWeaker : MethodName := ⟨"CaptionTallies$Rounds", "isWeaker", "(LCaptionTallies$Ranks;II)Z"⟩
abbrev c_RO_isWeaker : ByteArray := prog_9_method_8_code
set_option maxRecDepth 20000 in
theorem k_RO_isWeaker : Cond.code y_RO_isWeaker c_RO_isWeaker 4 (some .boolean) ∈ lw_gt := wq_3 (i := 178) rfl rfl
def y_RO_ballotsFor : MethodName := ⟨"CaptionTallies$Rounds", "ballotsFor", "(I)I"⟩
abbrev c_RO_ballotsFor : ByteArray := prog_9_method_9_code
set_option maxRecDepth 20000 in
theorem k_RO_ballotsFor : Cond.code y_RO_ballotsFor c_RO_ballotsFor 4 (some .int) ∈ lw_gt := wq_3 (i := 182) rfl rfl
def y_RA_sumOf : MethodName := ⟨"CaptionTallies$Ranks", "sumOf", "(I)I"⟩
abbrev c_RA_sumOf : ByteArray := prog_8_method_8_code
set_option maxRecDepth 20000 in
theorem k_RA_sumOf : Cond.code y_RA_sumOf c_RA_sumOf 2 (some .int) ∈ lw_gt := wq_3 (i := 186) rfl rfl
def y_RO_leaveOut : MethodName := ⟨"CaptionTallies$Rounds", "leaveOut", "(II)V"⟩
abbrev c_RO_leaveOut : ByteArray := prog_9_method_4_code
set_option maxRecDepth 20000 in
theorem k_RO_leaveOut : Cond.code y_RO_leaveOut c_RO_leaveOut 3 none ∈ lw_gt := wq_3 (i := 191) rfl rfl
def y_CT_fillKeys : MethodName := ⟨"CaptionTallies", "fillKeys", "()V"⟩
abbrev c_CT_fillKeys : ByteArray := prog_1_method_27_code
set_option maxRecDepth 20000 in
theorem k_CT_fillKeys : Cond.code y_CT_fillKeys c_CT_fillKeys 2 none ∈ lw_gt := wq_3 (i := 195) rfl rfl
def y_OR_clearKeys : MethodName := ⟨"CaptionTallies$Order", "clearKeys", "()V"⟩
abbrev c_OR_clearKeys : ByteArray := prog_7_method_2_code
set_option maxRecDepth 20000 in
theorem k_OR_clearKeys : Cond.code y_OR_clearKeys c_OR_clearKeys 2 none ∈ lw_gt := wq_3 (i := 199) rfl rfl
def y_CT_keyOf : MethodName := ⟨"CaptionTallies", "keyOf", "(I)I"⟩
abbrev c_CT_keyOf : ByteArray := prog_1_method_28_code
set_option maxRecDepth 20000 in
theorem k_CT_keyOf : Cond.code y_CT_keyOf c_CT_keyOf 4 (some .int) ∈ lw_gt := wq_3 (i := 204) rfl rfl
def y_RO_roundOf : MethodName := ⟨"CaptionTallies$Rounds", "roundOf", "(I)I"⟩
abbrev c_RO_roundOf : ByteArray := prog_9_method_11_code
set_option maxRecDepth 20000 in
theorem k_RO_roundOf : Cond.code y_RO_roundOf c_RO_roundOf 2 (some .int) ∈ lw_gt := wq_3 (i := 208) rfl rfl
def y_CT_scoreOf : MethodName := ⟨"CaptionTallies", "scoreOf", "(I)I"⟩
abbrev c_CT_scoreOf : ByteArray := prog_1_method_29_code
set_option maxRecDepth 20000 in
theorem k_CT_scoreOf : Cond.code y_CT_scoreOf c_CT_scoreOf 2 (some .int) ∈ lw_gt := wq_3 (i := 213) rfl rfl
def y_OR_giveKey : MethodName := ⟨"CaptionTallies$Order", "giveKey", "(II)V"⟩
abbrev c_OR_giveKey : ByteArray := prog_7_method_3_code
set_option maxRecDepth 20000 in
theorem k_OR_giveKey : Cond.code y_OR_giveKey c_OR_giveKey 3 none ∈ lw_gt := wq_3 (i := 220) rfl rfl
def y_OR_fill : MethodName := ⟨"CaptionTallies$Order", "fill", "()V"⟩
abbrev c_OR_fill : ByteArray := prog_7_method_4_code
set_option maxRecDepth 20000 in
theorem k_OR_fill : Cond.code y_OR_fill c_OR_fill 3 none ∈ lw_gt := wq_3 (i := 225) rfl rfl
def y_OR_groupsAhead : MethodName := ⟨"CaptionTallies$Order", "groupsAhead", "(I)I"⟩
abbrev c_OR_groupsAhead : ByteArray := prog_7_method_5_code
set_option maxRecDepth 20000 in
theorem k_OR_groupsAhead : Cond.code y_OR_groupsAhead c_OR_groupsAhead 4 (some .int) ∈ lw_gt := wq_3 (i := 230) rfl rfl
def y_OR_tiedBelow : MethodName := ⟨"CaptionTallies$Order", "tiedBelow", "(II)I"⟩
abbrev c_OR_tiedBelow : ByteArray := prog_7_method_6_code
set_option maxRecDepth 20000 in
theorem k_OR_tiedBelow : Cond.code y_OR_tiedBelow c_OR_tiedBelow 5 (some .int) ∈ lw_gt := wq_3 (i := 235) rfl rfl
def y_SH_fill : MethodName := ⟨"CaptionTallies$Shares", "fill", "(LCaptionTallies$State;LCaptionTallies$Groups;LCaptionTallies$Order;)V"⟩
abbrev c_SH_fill : ByteArray := prog_10_method_2_code
set_option maxRecDepth 20000 in
theorem k_SH_fill : Cond.code y_SH_fill c_SH_fill 7 none ∈ lw_gt := wq_3 (i := 239) rfl rfl
def y_OR_placeOf : MethodName := ⟨"CaptionTallies$Order", "placeOf", "(I)I"⟩
abbrev c_OR_placeOf : ByteArray := prog_7_method_9_code
set_option maxRecDepth 20000 in
theorem k_OR_placeOf : Cond.code y_OR_placeOf c_OR_placeOf 2 (some .int) ∈ lw_gt := wq_4 (i := 5) rfl rfl
def y_OR_tiedWith : MethodName := ⟨"CaptionTallies$Order", "tiedWith", "(I)I"⟩
abbrev c_OR_tiedWith : ByteArray := prog_7_method_7_code
set_option maxRecDepth 20000 in
theorem k_OR_tiedWith : Cond.code y_OR_tiedWith c_OR_tiedWith 2 (some .int) ∈ lw_gt := wq_4 (i := 9) rfl rfl
def y_SH_prizesTogether : MethodName := ⟨"CaptionTallies$Shares", "prizesTogether", "(LCaptionTallies$State;II)I"⟩
abbrev c_SH_prizesTogether : ByteArray := prog_10_method_3_code
set_option maxRecDepth 20000 in
theorem k_SH_prizesTogether : Cond.code y_SH_prizesTogether c_SH_prizesTogether 5 (some .int) ∈ lw_gt := wq_4 (i := 12) rfl rfl
def y_ST_prizeGivenAt : MethodName := ⟨"CaptionTallies$State", "prizeGivenAt", "(I)I"⟩
abbrev c_ST_prizeGivenAt : ByteArray := prog_11_method_35_code
set_option maxRecDepth 20000 in
theorem k_ST_prizeGivenAt : Cond.code y_ST_prizeGivenAt c_ST_prizeGivenAt 2 (some .int) ∈ lw_gt := wq_4 (i := 16) rfl rfl
def y_CT_portion : MethodName := ⟨"CaptionTallies", "portion", "(III)I"⟩
abbrev c_CT_portion : ByteArray := prog_1_method_48_code
set_option maxRecDepth 20000 in
theorem k_CT_portion : Cond.code y_CT_portion c_CT_portion 4 (some .int) ∈ lw_gt := wq_4 (i := 22) rfl rfl
def y_GR_membersBelow : MethodName := ⟨"CaptionTallies$Groups", "membersBelow", "(II)I"⟩
abbrev c_GR_membersBelow : ByteArray := prog_5_method_9_code
set_option maxRecDepth 20000 in
theorem k_GR_membersBelow : Cond.code y_GR_membersBelow c_GR_membersBelow 5 (some .int) ∈ lw_gt := wq_4 (i := 27) rfl rfl
def y_SH_ofGroup : MethodName := ⟨"CaptionTallies$Shares", "ofGroup", "(I)I"⟩
abbrev c_SH_ofGroup : ByteArray := prog_10_method_4_code
set_option maxRecDepth 20000 in
theorem k_SH_ofGroup : Cond.code y_SH_ofGroup c_SH_ofGroup 2 (some .int) ∈ lw_gt := wq_4 (i := 31) rfl rfl
def y_GR_sizeOf : MethodName := ⟨"CaptionTallies$Groups", "sizeOf", "(I)I"⟩
abbrev c_GR_sizeOf : ByteArray := prog_5_method_8_code
set_option maxRecDepth 20000 in
theorem k_GR_sizeOf : Cond.code y_GR_sizeOf c_GR_sizeOf 2 (some .int) ∈ lw_gt := wq_4 (i := 36) rfl rfl
def y_SH_ofCaption : MethodName := ⟨"CaptionTallies$Shares", "ofCaption", "(I)I"⟩
abbrev c_SH_ofCaption : ByteArray := prog_10_method_5_code
set_option maxRecDepth 20000 in
theorem k_SH_ofCaption : Cond.code y_SH_ofCaption c_SH_ofCaption 2 (some .int) ∈ lw_gt := wq_4 (i := 41) rfl rfl
def y_ST_ballotsWith : MethodName := ⟨"CaptionTallies$State", "ballotsWith", "(I)I"⟩
abbrev c_ST_ballotsWith : ByteArray := prog_11_method_28_code
set_option maxRecDepth 20000 in
theorem k_ST_ballotsWith : Cond.code y_ST_ballotsWith c_ST_ballotsWith 4 (some .int) ∈ lw_gt := wq_4 (i := 45) rfl rfl
def y_CT_letter : MethodName := ⟨"CaptionTallies", "letter", "(II)I"⟩
abbrev c_CT_letter : ByteArray := prog_1_method_16_code
set_option maxRecDepth 20000 in
theorem k_CT_letter : Cond.code y_CT_letter c_CT_letter 3 (some .int) ∈ lw_gt := wq_4 (i := 49) rfl rfl
def y_ST_textLetter : MethodName := ⟨"CaptionTallies$State", "textLetter", "(II)I"⟩
abbrev c_ST_textLetter : ByteArray := prog_11_method_15_code
set_option maxRecDepth 20000 in
theorem k_ST_textLetter : Cond.code y_ST_textLetter c_ST_textLetter 3 (some .int) ∈ lw_gt := wq_4 (i := 53) rfl rfl
def y_CT_group : MethodName := ⟨"CaptionTallies", "group", "(II)I"⟩
abbrev c_CT_group : ByteArray := prog_1_method_17_code
set_option maxRecDepth 20000 in
theorem k_CT_group : Cond.code y_CT_group c_CT_group 4 (some .int) ∈ lw_gt := wq_4 (i := 58) rfl rfl
def y_CT_judged : MethodName := ⟨"CaptionTallies", "judged", "(III)I"⟩
abbrev c_CT_judged : ByteArray := prog_1_method_18_code
set_option maxRecDepth 20000 in
theorem k_CT_judged : Cond.code y_CT_judged c_CT_judged 5 (some .int) ∈ lw_gt := wq_4 (i := 65) rfl rfl
def y_CT_ballot : MethodName := ⟨"CaptionTallies", "ballot", "(IIZ)I"⟩
abbrev c_CT_ballot : ByteArray := prog_1_method_19_code
set_option maxRecDepth 20000 in
theorem k_CT_ballot : Cond.code y_CT_ballot c_CT_ballot 4 (some .int) ∈ lw_gt := wq_4 (i := 70) rfl rfl
def y_CT_ranked : MethodName := ⟨"CaptionTallies", "ranked", "(I)I"⟩
abbrev c_CT_ranked : ByteArray := prog_1_method_20_code
set_option maxRecDepth 20000 in
theorem k_CT_ranked : Cond.code y_CT_ranked c_CT_ranked 2 (some .int) ∈ lw_gt := wq_4 (i := 76) rfl rfl
def y_OR_headAt : MethodName := ⟨"CaptionTallies$Order", "headAt", "(I)I"⟩
abbrev c_OR_headAt : ByteArray := prog_7_method_10_code
set_option maxRecDepth 20000 in
theorem k_OR_headAt : Cond.code y_OR_headAt c_OR_headAt 3 (some .int) ∈ lw_gt := wq_4 (i := 80) rfl rfl
def y_CT_round : MethodName := ⟨"CaptionTallies", "round", "(II)I"⟩
abbrev c_CT_round : ByteArray := prog_1_method_21_code
set_option maxRecDepth 20000 in
theorem k_CT_round : Cond.code y_CT_round c_CT_round 3 (some .int) ∈ lw_gt := wq_4 (i := 84) rfl rfl
def y_RO_number : MethodName := ⟨"CaptionTallies$Rounds", "number", "()I"⟩
abbrev c_RO_number : ByteArray := prog_9_method_10_code
set_option maxRecDepth 20000 in
theorem k_RO_number : Cond.code y_RO_number c_RO_number 1 (some .int) ∈ lw_gt := wq_4 (i := 88) rfl rfl
def y_RO_headOut : MethodName := ⟨"CaptionTallies$Rounds", "headOut", "(I)I"⟩
abbrev c_RO_headOut : ByteArray := prog_9_method_12_code
set_option maxRecDepth 20000 in
theorem k_RO_headOut : Cond.code y_RO_headOut c_RO_headOut 2 (some .int) ∈ lw_gt := wq_4 (i := 92) rfl rfl
def y_RO_ballotsOfHeadOut : MethodName := ⟨"CaptionTallies$Rounds", "ballotsOfHeadOut", "(I)I"⟩
abbrev c_RO_ballotsOfHeadOut : ByteArray := prog_9_method_13_code
set_option maxRecDepth 20000 in
theorem k_RO_ballotsOfHeadOut : Cond.code y_RO_ballotsOfHeadOut c_RO_ballotsOfHeadOut 2 (some .int) ∈ lw_gt := wq_4 (i := 96) rfl rfl
def y_RO_ballotsForNone : MethodName := ⟨"CaptionTallies$Rounds", "ballotsForNone", "(I)I"⟩
abbrev c_RO_ballotsForNone : ByteArray := prog_9_method_14_code
set_option maxRecDepth 20000 in
theorem k_RO_ballotsForNone : Cond.code y_RO_ballotsForNone c_RO_ballotsForNone 2 (some .int) ∈ lw_gt := wq_4 (i := 100) rfl rfl
def y_CT_distance : MethodName := ⟨"CaptionTallies", "distance", "(II)I"⟩
abbrev c_CT_distance : ByteArray := prog_1_method_22_code
set_option maxRecDepth 20000 in
theorem k_CT_distance : Cond.code y_CT_distance c_CT_distance 3 (some .int) ∈ lw_gt := wq_4 (i := 104) rfl rfl
def y_DI_between : MethodName := ⟨"CaptionTallies$Distances", "between", "(LCaptionTallies$State;II)I"⟩
abbrev c_DI_between : ByteArray := prog_3_method_2_code
set_option maxRecDepth 20000 in
theorem k_DI_between : Cond.code y_DI_between c_DI_between 7 (some .int) ∈ lw_gt := wq_4 (i := 108) rfl rfl
def y_DI_fillLine : MethodName := ⟨"CaptionTallies$Distances", "fillLine", "(LCaptionTallies$State;III)V"⟩
abbrev c_DI_fillLine : ByteArray := prog_3_method_3_code
set_option maxRecDepth 20000 in
theorem k_DI_fillLine : Cond.code y_DI_fillLine c_DI_fillLine 11 none ∈ lw_gt := wq_4 (i := 114) rfl rfl
def y_CT_near : MethodName := ⟨"CaptionTallies", "near", "(II)I"⟩
abbrev c_CT_near : ByteArray := prog_1_method_23_code
set_option maxRecDepth 20000 in
theorem k_CT_near : Cond.code y_CT_near c_CT_near 4 (some .int) ∈ lw_gt := wq_4 (i := 120) rfl rfl
def y_DI_fill : MethodName := ⟨"CaptionTallies$Distances", "fill", "(LCaptionTallies$State;LCaptionTallies$Groups;)V"⟩
abbrev c_DI_fill : ByteArray := prog_3_method_4_code
set_option maxRecDepth 20000 in
theorem k_DI_fill : Cond.code y_DI_fill c_DI_fill 5 none ∈ lw_gt := wq_4 (i := 124) rfl rfl
def y_DI_areApart : MethodName := ⟨"CaptionTallies$Distances", "areApart", "(LCaptionTallies$Groups;II)Z"⟩
abbrev c_DI_areApart : ByteArray := prog_3_method_5_code
set_option maxRecDepth 20000 in
theorem k_DI_areApart : Cond.code y_DI_areApart c_DI_areApart 5 (some .boolean) ∈ lw_gt := wq_4 (i := 128) rfl rfl
def y_DI_mayBeNear : MethodName := ⟨"CaptionTallies$Distances", "mayBeNear", "(LCaptionTallies$State;II)Z"⟩
abbrev c_DI_mayBeNear : ByteArray := prog_3_method_6_code
set_option maxRecDepth 20000 in
theorem k_DI_mayBeNear : Cond.code y_DI_mayBeNear c_DI_mayBeNear 3 (some .boolean) ∈ lw_gt := wq_4 (i := 132) rfl rfl
def y_DI_pairAt : MethodName := ⟨"CaptionTallies$Distances", "pairAt", "(I)I"⟩
abbrev c_DI_pairAt : ByteArray := prog_3_method_7_code
set_option maxRecDepth 20000 in
theorem k_DI_pairAt : Cond.code y_DI_pairAt c_DI_pairAt 5 (some .int) ∈ lw_gt := wq_4 (i := 140) rfl rfl
def y_DI_ofPair : MethodName := ⟨"CaptionTallies$Distances", "ofPair", "(I)I"⟩
abbrev c_DI_ofPair : ByteArray := prog_3_method_8_code
set_option maxRecDepth 20000 in
theorem k_DI_ofPair : Cond.code y_DI_ofPair c_DI_ofPair 2 (some .int) ∈ lw_gt := wq_4 (i := 144) rfl rfl
def y_CT_author : MethodName := ⟨"CaptionTallies", "author", "(II)I"⟩
abbrev c_CT_author : ByteArray := prog_1_method_24_code
set_option maxRecDepth 20000 in
theorem k_CT_author : Cond.code y_CT_author c_CT_author 3 (some .int) ∈ lw_gt := wq_4 (i := 148) rfl rfl
def y_CT_captionsBy : MethodName := ⟨"CaptionTallies", "captionsBy", "(I)I"⟩
abbrev c_CT_captionsBy : ByteArray := prog_1_method_35_code
set_option maxRecDepth 20000 in
theorem k_CT_captionsBy : Cond.code y_CT_captionsBy c_CT_captionsBy 4 (some .int) ∈ lw_gt := wq_4 (i := 152) rfl rfl
def y_CT_isBy : MethodName := ⟨"CaptionTallies", "isBy", "(II)Z"⟩
abbrev c_CT_isBy : ByteArray := prog_1_method_34_code
set_option maxRecDepth 20000 in
theorem k_CT_isBy : Cond.code y_CT_isBy c_CT_isBy 3 (some .boolean) ∈ lw_gt := wq_4 (i := 156) rfl rfl
def y_CT_amountFor : MethodName := ⟨"CaptionTallies", "amountFor", "(I)I"⟩
abbrev c_CT_amountFor : ByteArray := prog_1_method_36_code
set_option maxRecDepth 20000 in
theorem k_CT_amountFor : Cond.code y_CT_amountFor c_CT_amountFor 4 (some .int) ∈ lw_gt := wq_4 (i := 160) rfl rfl
def y_CT_bestPlaceOf : MethodName := ⟨"CaptionTallies", "bestPlaceOf", "(I)I"⟩
abbrev c_CT_bestPlaceOf : ByteArray := prog_1_method_37_code
set_option maxRecDepth 20000 in
theorem k_CT_bestPlaceOf : Cond.code y_CT_bestPlaceOf c_CT_bestPlaceOf 5 (some .int) ∈ lw_gt := wq_4 (i := 164) rfl rfl
def y_CT_count : MethodName := ⟨"CaptionTallies", "count", "(I)I"⟩
abbrev c_CT_count : ByteArray := prog_1_method_25_code
set_option maxRecDepth 20000 in
theorem k_CT_count : Cond.code y_CT_count c_CT_count 2 (some .int) ∈ lw_gt := wq_4 (i := 168) rfl rfl
def y_ST_linksInAll : MethodName := ⟨"CaptionTallies$State", "linksInAll", "()I"⟩
abbrev c_ST_linksInAll : ByteArray := prog_11_method_23_code
set_option maxRecDepth 20000 in
theorem k_ST_linksInAll : Cond.code y_ST_linksInAll c_ST_linksInAll 4 (some .int) ∈ lw_gt := wq_4 (i := 173) rfl rfl
def y_CO_ballotsThatCount : MethodName := ⟨"CaptionTallies$Counts", "ballotsThatCount", "()I"⟩
abbrev c_CO_ballotsThatCount : ByteArray := prog_2_method_8_code
set_option maxRecDepth 20000 in
theorem k_CO_ballotsThatCount : Cond.code y_CO_ballotsThatCount c_CO_ballotsThatCount 3 (some .int) ∈ lw_gt := wq_4 (i := 177) rfl rfl
def y_CO_pointsInAll : MethodName := ⟨"CaptionTallies$Counts", "pointsInAll", "()I"⟩
abbrev c_CO_pointsInAll : ByteArray := prog_2_method_9_code
set_option maxRecDepth 20000 in
theorem k_CO_pointsInAll : Cond.code y_CO_pointsInAll c_CO_pointsInAll 3 (some .int) ∈ lw_gt := wq_4 (i := 181) rfl rfl
def y_SH_inAll : MethodName := ⟨"CaptionTallies$Shares", "inAll", "()I"⟩
abbrev c_SH_inAll : ByteArray := prog_10_method_6_code
set_option maxRecDepth 20000 in
theorem k_SH_inAll : Cond.code y_SH_inAll c_SH_inAll 3 (some .int) ∈ lw_gt := wq_4 (i := 185) rfl rfl
def y_OR_tiedGroups : MethodName := ⟨"CaptionTallies$Order", "tiedGroups", "()I"⟩
abbrev c_OR_tiedGroups : ByteArray := prog_7_method_8_code
set_option maxRecDepth 20000 in
theorem k_OR_tiedGroups : Cond.code y_OR_tiedGroups c_OR_tiedGroups 3 (some .int) ∈ lw_gt := wq_4 (i := 189) rfl rfl
def y_MO_init : MethodName := ⟨"CaptionTalliesModel", "<init>", "()V"⟩
abbrev c_MO_init : ByteArray := prog_13_method_1_code
set_option maxRecDepth 20000 in
theorem k_MO_init : Cond.code y_MO_init c_MO_init 1 none ∈ lw_gt := wq_4 (i := 195) rfl rfl
def y_MO_submit : MethodName := ⟨"CaptionTalliesModel", "submit", "(I)I"⟩
abbrev c_MO_submit : ByteArray := prog_13_method_30_code
set_option maxRecDepth 20000 in
theorem k_MO_submit : Cond.code y_MO_submit c_MO_submit 5 (some .int) ∈ lw_gt := wq_5 (i := 33) rfl rfl
def y_MO_in : MethodName := ⟨"CaptionTalliesModel", "in", "(III)Z"⟩
abbrev c_MO_in : ByteArray := prog_13_method_2_code
set_option maxRecDepth 20000 in
theorem k_MO_in : Cond.code y_MO_in c_MO_in 3 (some .boolean) ∈ lw_gt := wq_5 (i := 36) rfl rfl
def y_MO_fault : MethodName := ⟨"CaptionTalliesModel", "fault", "()I"⟩
abbrev c_MO_fault : ByteArray := prog_13_method_29_code
set_option maxRecDepth 20000 in
theorem k_MO_fault : Cond.code y_MO_fault c_MO_fault 3 (some .int) ∈ lw_gt := wq_5 (i := 40) rfl rfl
def y_MO_isSign : MethodName := ⟨"CaptionTalliesModel", "isSign", "(I)Z"⟩
abbrev c_MO_isSign : ByteArray := prog_13_method_8_code
set_option maxRecDepth 20000 in
theorem k_MO_isSign : Cond.code y_MO_isSign c_MO_isSign 1 (some .boolean) ∈ lw_gt := wq_5 (i := 43) rfl rfl
def y_MO_isLetter : MethodName := ⟨"CaptionTalliesModel", "isLetter", "(I)Z"⟩
abbrev c_MO_isLetter : ByteArray := prog_13_method_6_code
set_option maxRecDepth 20000 in
theorem k_MO_isLetter : Cond.code y_MO_isLetter c_MO_isLetter 1 (some .boolean) ∈ lw_gt := wq_5 (i := 46) rfl rfl
def y_MO_record : MethodName := ⟨"CaptionTalliesModel", "record", "()V"⟩
abbrev c_MO_record : ByteArray := prog_13_method_3_code
set_option maxRecDepth 20000 in
theorem k_MO_record : Cond.code y_MO_record c_MO_record 2 none ∈ lw_gt := wq_5 (i := 50) rfl rfl
def y_MO_withdraw : MethodName := ⟨"CaptionTalliesModel", "withdraw", "(I)I"⟩
abbrev c_MO_withdraw : ByteArray := prog_13_method_31_code
set_option maxRecDepth 20000 in
theorem k_MO_withdraw : Cond.code y_MO_withdraw c_MO_withdraw 2 (some .int) ∈ lw_gt := wq_5 (i := 54) rfl rfl
def y_MO_is : MethodName := ⟨"CaptionTalliesModel", "is", "(I)Z"⟩
abbrev c_MO_is : ByteArray := prog_13_method_4_code
set_option maxRecDepth 20000 in
theorem k_MO_is : Cond.code y_MO_is c_MO_is 2 (some .boolean) ∈ lw_gt := wq_5 (i := 58) rfl rfl
def y_MO_there : MethodName := ⟨"CaptionTalliesModel", "there", "()I"⟩
abbrev c_MO_there : ByteArray := prog_13_method_5_code
set_option maxRecDepth 20000 in
theorem k_MO_there : Cond.code y_MO_there c_MO_there 3 (some .int) ∈ lw_gt := wq_5 (i := 62) rfl rfl
def y_MO_join : MethodName := ⟨"CaptionTalliesModel", "join", "(II)I"⟩
abbrev c_MO_join : ByteArray := prog_13_method_32_code
set_option maxRecDepth 20000 in
theorem k_MO_join : Cond.code y_MO_join c_MO_join 3 (some .int) ∈ lw_gt := wq_5 (i := 66) rfl rfl
def y_MO_heads : MethodName := ⟨"CaptionTalliesModel", "heads", "()V"⟩
abbrev c_MO_heads : ByteArray := prog_13_method_14_code
set_option maxRecDepth 20000 in
theorem k_MO_heads : Cond.code y_MO_heads c_MO_heads 5 none ∈ lw_gt := wq_5 (i := 70) rfl rfl
def y_MO_takesCores : MethodName := ⟨"CaptionTalliesModel", "takesCores", "()V"⟩
abbrev c_MO_takesCores : ByteArray := prog_13_method_10_code
set_option maxRecDepth 20000 in
theorem k_MO_takesCores : Cond.code y_MO_takesCores c_MO_takesCores 4 none ∈ lw_gt := wq_5 (i := 74) rfl rfl
def y_MO_sign : MethodName := ⟨"CaptionTalliesModel", "sign", "(II)I"⟩
abbrev c_MO_sign : ByteArray := prog_13_method_9_code
set_option maxRecDepth 20000 in
theorem k_MO_sign : Cond.code y_MO_sign c_MO_sign 3 (some .int) ∈ lw_gt := wq_5 (i := 78) rfl rfl
def y_MO_small : MethodName := ⟨"CaptionTalliesModel", "small", "(I)I"⟩
abbrev c_MO_small : ByteArray := prog_13_method_7_code
set_option maxRecDepth 20000 in
theorem k_MO_small : Cond.code y_MO_small c_MO_small 1 (some .int) ∈ lw_gt := wq_5 (i := 81) rfl rfl
def y_MO_isLinked : MethodName := ⟨"CaptionTalliesModel", "isLinked", "(II)Z"⟩
abbrev c_MO_isLinked : ByteArray := prog_13_method_12_code
set_option maxRecDepth 20000 in
theorem k_MO_isLinked : Cond.code y_MO_isLinked c_MO_isLinked 3 (some .boolean) ∈ lw_gt := wq_5 (i := 85) rfl rfl
def y_MO_isAlike : MethodName := ⟨"CaptionTalliesModel", "isAlike", "(II)Z"⟩
abbrev c_MO_isAlike : ByteArray := prog_13_method_11_code
set_option maxRecDepth 20000 in
theorem k_MO_isAlike : Cond.code y_MO_isAlike c_MO_isAlike 6 (some .boolean) ∈ lw_gt := wq_5 (i := 89) rfl rfl
def y_MO_part : MethodName := ⟨"CaptionTalliesModel", "part", "(I)I"⟩
abbrev c_MO_part : ByteArray := prog_13_method_33_code
set_option maxRecDepth 20000 in
theorem k_MO_part : Cond.code y_MO_part c_MO_part 3 (some .int) ∈ lw_gt := wq_5 (i := 93) rfl rfl
def y_MO_vote : MethodName := ⟨"CaptionTalliesModel", "vote", "(IIII)I"⟩
abbrev c_MO_vote : ByteArray := prog_13_method_34_code
set_option maxRecDepth 20000 in
theorem k_MO_vote : Cond.code y_MO_vote c_MO_vote 12 (some .int) ∈ lw_gt := wq_5 (i := 97) rfl rfl
def y_MO_score : MethodName := ⟨"CaptionTalliesModel", "score", "(III)I"⟩
abbrev c_MO_score : ByteArray := prog_13_method_35_code
set_option maxRecDepth 20000 in
theorem k_MO_score : Cond.code y_MO_score c_MO_score 5 (some .int) ∈ lw_gt := wq_5 (i := 101) rfl rfl
def y_MO_rank : MethodName := ⟨"CaptionTalliesModel", "rank", "(II)I"⟩
abbrev c_MO_rank : ByteArray := prog_13_method_18_code
set_option maxRecDepth 20000 in
theorem k_MO_rank : Cond.code y_MO_rank c_MO_rank 6 (some .int) ∈ lw_gt := wq_5 (i := 105) rfl rfl
def y_MO_most : MethodName := ⟨"CaptionTalliesModel", "most", "(II)I"⟩
abbrev c_MO_most : ByteArray := prog_13_method_17_code
set_option maxRecDepth 20000 in
theorem k_MO_most : Cond.code y_MO_most c_MO_most 6 (some .int) ∈ lw_gt := wq_5 (i := 109) rfl rfl
def y_MO_isHead : MethodName := ⟨"CaptionTalliesModel", "isHead", "(I)Z"⟩
abbrev c_MO_isHead : ByteArray := prog_13_method_15_code
set_option maxRecDepth 20000 in
theorem k_MO_isHead : Cond.code y_MO_isHead c_MO_isHead 2 (some .boolean) ∈ lw_gt := wq_5 (i := 113) rfl rfl
def y_MO_set : MethodName := ⟨"CaptionTalliesModel", "set", "(II)I"⟩
abbrev c_MO_set : ByteArray := prog_13_method_36_code
set_option maxRecDepth 20000 in
theorem k_MO_set : Cond.code y_MO_set c_MO_set 4 (some .int) ∈ lw_gt := wq_5 (i := 117) rfl rfl
def y_MO_prize : MethodName := ⟨"CaptionTalliesModel", "prize", "(II)I"⟩
abbrev c_MO_prize : ByteArray := prog_13_method_37_code
set_option maxRecDepth 20000 in
theorem k_MO_prize : Cond.code y_MO_prize c_MO_prize 4 (some .int) ∈ lw_gt := wq_5 (i := 121) rfl rfl
def y_MO_type : MethodName := ⟨"CaptionTalliesModel", "type", "(C)I"⟩
abbrev c_MO_type : ByteArray := prog_13_method_38_code
set_option maxRecDepth 20000 in
theorem k_MO_type : Cond.code y_MO_type c_MO_type 2 (some .int) ∈ lw_gt := wq_5 (i := 125) rfl rfl
def y_MO_clearText : MethodName := ⟨"CaptionTalliesModel", "clearText", "()I"⟩
abbrev c_MO_clearText : ByteArray := prog_13_method_39_code
set_option maxRecDepth 20000 in
theorem k_MO_clearText : Cond.code y_MO_clearText c_MO_clearText 2 (some .int) ∈ lw_gt := wq_5 (i := 129) rfl rfl
def y_MO_undo : MethodName := ⟨"CaptionTalliesModel", "undo", "()I"⟩
abbrev c_MO_undo : ByteArray := prog_13_method_40_code
set_option maxRecDepth 20000 in
theorem k_MO_undo : Cond.code y_MO_undo c_MO_undo 2 (some .int) ∈ lw_gt := wq_5 (i := 133) rfl rfl
def y_MO_keep : MethodName := ⟨"CaptionTalliesModel", "keep", "()I"⟩
abbrev c_MO_keep : ByteArray := prog_13_method_41_code
set_option maxRecDepth 20000 in
theorem k_MO_keep : Cond.code y_MO_keep c_MO_keep 2 (some .int) ∈ lw_gt := wq_5 (i := 137) rfl rfl
def y_MO_restore : MethodName := ⟨"CaptionTalliesModel", "restore", "()I"⟩
abbrev c_MO_restore : ByteArray := prog_13_method_42_code
set_option maxRecDepth 20000 in
theorem k_MO_restore : Cond.code y_MO_restore c_MO_restore 2 (some .int) ∈ lw_gt := wq_5 (i := 141) rfl rfl
def y_MO_caption : MethodName := ⟨"CaptionTalliesModel", "caption", "(II)I"⟩
abbrev c_MO_caption : ByteArray := prog_13_method_45_code
set_option maxRecDepth 20000 in
theorem k_MO_caption : Cond.code y_MO_caption c_MO_caption 3 (some .int) ∈ lw_gt := wq_5 (i := 145) rfl rfl
def y_MO_links : MethodName := ⟨"CaptionTalliesModel", "links", "(I)I"⟩
abbrev c_MO_links : ByteArray := prog_13_method_43_code
set_option maxRecDepth 20000 in
theorem k_MO_links : Cond.code y_MO_links c_MO_links 4 (some .int) ∈ lw_gt := wq_5 (i := 149) rfl rfl
def y_MO_works : MethodName := ⟨"CaptionTalliesModel", "works", "()V"⟩
abbrev c_MO_works : ByteArray := prog_13_method_27_code
set_option maxRecDepth 20000 in
theorem k_MO_works : Cond.code y_MO_works c_MO_works 5 none ∈ lw_gt := wq_5 (i := 153) rfl rfl
def y_MO_tallies : MethodName := ⟨"CaptionTalliesModel", "tallies", "()V"⟩
abbrev c_MO_tallies : ByteArray := prog_13_method_19_code
set_option maxRecDepth 20000 in
theorem k_MO_tallies : Cond.code y_MO_tallies c_MO_tallies 3 none ∈ lw_gt := wq_5 (i := 157) rfl rfl
def y_MO_counts : MethodName := ⟨"CaptionTalliesModel", "counts", "()V"⟩
abbrev c_MO_counts : ByteArray := prog_13_method_16_code
set_option maxRecDepth 20000 in
theorem k_MO_counts : Cond.code y_MO_counts c_MO_counts 7 none ∈ lw_gt := wq_5 (i := 161) rfl rfl
def y_MO_goesRounds : MethodName := ⟨"CaptionTalliesModel", "goesRounds", "()V"⟩
abbrev c_MO_goesRounds : ByteArray := prog_13_method_21_code
set_option maxRecDepth 20000 in
theorem k_MO_goesRounds : Cond.code y_MO_goesRounds c_MO_goesRounds 5 none ∈ lw_gt := wq_5 (i := 165) rfl rfl
def y_MO_standsFor : MethodName := ⟨"CaptionTalliesModel", "standsFor", "(I)I"⟩
abbrev c_MO_standsFor : ByteArray := prog_13_method_20_code
set_option maxRecDepth 20000 in
theorem k_MO_standsFor : Cond.code y_MO_standsFor c_MO_standsFor 4 (some .int) ∈ lw_gt := wq_5 (i := 169) rfl rfl
def y_MO_orders : MethodName := ⟨"CaptionTalliesModel", "orders", "()V"⟩
abbrev c_MO_orders : ByteArray := prog_13_method_24_code
set_option maxRecDepth 20000 in
theorem k_MO_orders : Cond.code y_MO_orders c_MO_orders 5 none ∈ lw_gt := wq_5 (i := 173) rfl rfl
def y_MO_isAhead : MethodName := ⟨"CaptionTalliesModel", "isAhead", "(II)Z"⟩
abbrev c_MO_isAhead : ByteArray := prog_13_method_23_code
set_option maxRecDepth 20000 in
theorem k_MO_isAhead : Cond.code y_MO_isAhead c_MO_isAhead 4 (some .boolean) ∈ lw_gt := wq_5 (i := 177) rfl rfl
def y_MO_tally : MethodName := ⟨"CaptionTalliesModel", "tally", "(I)I"⟩
abbrev c_MO_tally : ByteArray := prog_13_method_22_code
set_option maxRecDepth 20000 in
theorem k_MO_tally : Cond.code y_MO_tally c_MO_tally 2 (some .int) ∈ lw_gt := wq_5 (i := 181) rfl rfl
def y_MO_prizeOf : MethodName := ⟨"CaptionTalliesModel", "prizeOf", "(I)I"⟩
abbrev c_MO_prizeOf : ByteArray := prog_13_method_25_code
set_option maxRecDepth 20000 in
theorem k_MO_prizeOf : Cond.code y_MO_prizeOf c_MO_prizeOf 2 (some .int) ∈ lw_gt := wq_5 (i := 185) rfl rfl
def y_MO_shares : MethodName := ⟨"CaptionTalliesModel", "shares", "(II)V"⟩
abbrev c_MO_shares : ByteArray := prog_13_method_26_code
set_option maxRecDepth 20000 in
theorem k_MO_shares : Cond.code y_MO_shares c_MO_shares 6 none ∈ lw_gt := wq_5 (i := 189) rfl rfl
def y_MO_stands : MethodName := ⟨"CaptionTalliesModel", "stands", "(I)I"⟩
abbrev c_MO_stands : ByteArray := prog_13_method_44_code
set_option maxRecDepth 20000 in
theorem k_MO_stands : Cond.code y_MO_stands c_MO_stands 4 (some .int) ∈ lw_gt := wq_5 (i := 193) rfl rfl
def y_MO_letter : MethodName := ⟨"CaptionTalliesModel", "letter", "(II)I"⟩
abbrev c_MO_letter : ByteArray := prog_13_method_46_code
set_option maxRecDepth 20000 in
theorem k_MO_letter : Cond.code y_MO_letter c_MO_letter 3 (some .int) ∈ lw_gt := wq_5 (i := 197) rfl rfl
def y_MO_group : MethodName := ⟨"CaptionTalliesModel", "group", "(II)I"⟩
abbrev c_MO_group : ByteArray := prog_13_method_48_code
set_option maxRecDepth 20000 in
theorem k_MO_group : Cond.code y_MO_group c_MO_group 4 (some .int) ∈ lw_gt := wq_5 (i := 201) rfl rfl
def y_MO_members : MethodName := ⟨"CaptionTalliesModel", "members", "(I)I"⟩
abbrev c_MO_members : ByteArray := prog_13_method_47_code
set_option maxRecDepth 20000 in
theorem k_MO_members : Cond.code y_MO_members c_MO_members 4 (some .int) ∈ lw_gt := wq_5 (i := 205) rfl rfl
def y_MO_getsGroup : MethodName := ⟨"CaptionTalliesModel", "getsGroup", "(I)I"⟩
abbrev c_MO_getsGroup : ByteArray := prog_13_method_28_code
set_option maxRecDepth 20000 in
theorem k_MO_getsGroup : Cond.code y_MO_getsGroup c_MO_getsGroup 4 (some .int) ∈ lw_gt := wq_5 (i := 209) rfl rfl
def y_MO_judged : MethodName := ⟨"CaptionTalliesModel", "judged", "(III)I"⟩
abbrev c_MO_judged : ByteArray := prog_13_method_49_code
set_option maxRecDepth 20000 in
theorem k_MO_judged : Cond.code y_MO_judged c_MO_judged 5 (some .int) ∈ lw_gt := wq_5 (i := 213) rfl rfl
def y_MO_ballot : MethodName := ⟨"CaptionTalliesModel", "ballot", "(IIZ)I"⟩
abbrev c_MO_ballot : ByteArray := prog_13_method_50_code
set_option maxRecDepth 20000 in
theorem k_MO_ballot : Cond.code y_MO_ballot c_MO_ballot 5 (some .int) ∈ lw_gt := wq_5 (i := 217) rfl rfl
def y_MO_ranked : MethodName := ⟨"CaptionTalliesModel", "ranked", "(I)I"⟩
abbrev c_MO_ranked : ByteArray := prog_13_method_51_code
set_option maxRecDepth 20000 in
theorem k_MO_ranked : Cond.code y_MO_ranked c_MO_ranked 2 (some .int) ∈ lw_gt := wq_5 (i := 221) rfl rfl
def y_MO_round : MethodName := ⟨"CaptionTalliesModel", "round", "(II)I"⟩
abbrev c_MO_round : ByteArray := prog_13_method_52_code
set_option maxRecDepth 20000 in
theorem k_MO_round : Cond.code y_MO_round c_MO_round 3 (some .int) ∈ lw_gt := wq_5 (i := 225) rfl rfl
def y_MO_distance : MethodName := ⟨"CaptionTalliesModel", "distance", "(II)I"⟩
abbrev c_MO_distance : ByteArray := prog_13_method_53_code
set_option maxRecDepth 20000 in
theorem k_MO_distance : Cond.code y_MO_distance c_MO_distance 3 (some .int) ∈ lw_gt := wq_5 (i := 229) rfl rfl
def y_MO_far : MethodName := ⟨"CaptionTalliesModel", "far", "(II)I"⟩
abbrev c_MO_far : ByteArray := prog_13_method_13_code
set_option maxRecDepth 20000 in
theorem k_MO_far : Cond.code y_MO_far c_MO_far 9 (some .int) ∈ lw_gt := wq_5 (i := 233) rfl rfl
def y_MO_near : MethodName := ⟨"CaptionTalliesModel", "near", "(II)I"⟩
abbrev c_MO_near : ByteArray := prog_13_method_54_code
set_option maxRecDepth 20000 in
theorem k_MO_near : Cond.code y_MO_near c_MO_near 8 (some .int) ∈ lw_gt := wq_5 (i := 237) rfl rfl
def y_MO_author : MethodName := ⟨"CaptionTalliesModel", "author", "(II)I"⟩
abbrev c_MO_author : ByteArray := prog_13_method_55_code
set_option maxRecDepth 20000 in
theorem k_MO_author : Cond.code y_MO_author c_MO_author 8 (some .int) ∈ lw_gt := wq_6 (i := 1) rfl rfl
def y_MO_count : MethodName := ⟨"CaptionTalliesModel", "count", "(I)I"⟩
abbrev c_MO_count : ByteArray := prog_13_method_58_code
set_option maxRecDepth 20000 in
theorem k_MO_count : Cond.code y_MO_count c_MO_count 2 (some .int) ∈ lw_gt := wq_6 (i := 5) rfl rfl
def y_MO_allLinks : MethodName := ⟨"CaptionTalliesModel", "allLinks", "()I"⟩
abbrev c_MO_allLinks : ByteArray := prog_13_method_56_code
set_option maxRecDepth 20000 in
theorem k_MO_allLinks : Cond.code y_MO_allLinks c_MO_allLinks 4 (some .int) ∈ lw_gt := wq_6 (i := 9) rfl rfl
def y_MO_over : MethodName := ⟨"CaptionTalliesModel", "over", "(I)I"⟩
abbrev c_MO_over : ByteArray := prog_13_method_57_code
set_option maxRecDepth 20000 in
theorem k_MO_over : Cond.code y_MO_over c_MO_over 5 (some .int) ∈ lw_gt := wq_6 (i := 13) rfl rfl
