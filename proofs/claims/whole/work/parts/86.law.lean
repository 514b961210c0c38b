theorem wt_n0 : Cond.methodLinkNest "CaptionTallies$Draft" 19 y_CT_at "CaptionTallies" ∈ lw_tbl := List.mem_append_right _ (List.mem_append_right _ (List.mem_append_left _ (List.mem_of_getElem? (i := 37) (by decide +kernel))))
theorem wt_n1 : Cond.methodLinkNest "CaptionTallies$Draft" 31 y_CT_isLetter "CaptionTallies" ∈ lw_tbl := List.mem_append_right _ (List.mem_append_right _ (List.mem_append_left _ (List.mem_of_getElem? (i := 40) (by decide +kernel))))
theorem wt_n2 : Cond.methodLinkNest "CaptionTallies$Draft" 35 y_CT_isSign "CaptionTallies" ∈ lw_tbl := List.mem_append_right _ (List.mem_append_right _ (List.mem_append_left _ (List.mem_of_getElem? (i := 49) (by decide +kernel))))
theorem wt_n3 : Cond.methodLinkNest "CaptionTallies$History" 25 y_CT_isIndex "CaptionTallies" ∈ lw_tbl := List.mem_append_right _ (List.mem_append_right _ (List.mem_append_left _ (List.mem_of_getElem? (i := 64) (by decide +kernel))))
theorem wt_n4 : Cond.methodLinkNest "CaptionTallies$State" 59 y_CT_copyFlags "CaptionTallies" ∈ lw_tbl := List.mem_append_right _ (List.mem_append_right _ (List.mem_append_left _ (List.mem_of_getElem? (i := 69) (by decide +kernel))))
theorem wt_n5 : Cond.methodLinkNest "CaptionTallies$State" 63 y_CT_copyRow "CaptionTallies" ∈ lw_tbl := List.mem_append_right _ (List.mem_append_right _ (List.mem_append_left _ (List.mem_of_getElem? (i := 78) (by decide +kernel))))
theorem wt_n6 : Cond.methodLinkNest "CaptionTallies$State" 67 y_CT_isIndex "CaptionTallies" ∈ lw_tbl := List.mem_append_right _ (List.mem_append_right _ (List.mem_append_left _ (List.mem_of_getElem? (i := 85) (by decide +kernel))))
theorem wt_n7 : Cond.methodLinkNest "CaptionTallies$State" 98 y_CT_put "CaptionTallies" ∈ lw_tbl := List.mem_append_right _ (List.mem_append_right _ (List.mem_append_left _ (List.mem_of_getElem? (i := 96) (by decide +kernel))))
theorem wt_n8 : Cond.methodLinkNest "CaptionTallies$State" 102 y_CT_isLetter "CaptionTallies" ∈ lw_tbl := List.mem_append_right _ (List.mem_append_right _ (List.mem_append_left _ (List.mem_of_getElem? (i := 99) (by decide +kernel))))
theorem wt_n9 : Cond.methodLinkNest "CaptionTallies$State" 117 y_CT_at "CaptionTallies" ∈ lw_tbl := List.mem_append_right _ (List.mem_append_right _ (List.mem_append_left _ (List.mem_of_getElem? (i := 104) (by decide +kernel))))
theorem wt_n10 : Cond.methodLinkNest "CaptionTallies$State" 108 y_CT_smallOf "CaptionTallies" ∈ lw_tbl := List.mem_append_right _ (List.mem_append_right _ (List.mem_append_left _ (List.mem_of_getElem? (i := 105) (by decide +kernel))))
theorem wt_n11 : Cond.methodLinkNest "CaptionTallies$Groups" 38 y_CT_put "CaptionTallies" ∈ lw_tbl := List.mem_append_right _ (List.mem_append_right _ (List.mem_append_left _ (List.mem_of_getElem? (i := 151) (by decide +kernel))))
theorem wt_n12 : Cond.methodLinkNest "CaptionTallies$Groups" 53 y_CT_at "CaptionTallies" ∈ lw_tbl := List.mem_append_right _ (List.mem_append_right _ (List.mem_append_left _ (List.mem_of_getElem? (i := 167) (by decide +kernel))))
theorem wt_n13 : Cond.methodLinkNest "CaptionTallies$Ranks" 65 y_CT_at "CaptionTallies" ∈ lw_tbl := List.mem_append_right _ (List.mem_append_right _ (List.mem_append_right _ (List.mem_append_left _ (List.mem_of_getElem? (i := 5) (by decide +kernel)))))
theorem wt_n14 : Cond.methodLinkNest "CaptionTallies$Ranks" 53 y_CT_put "CaptionTallies" ∈ lw_tbl := List.mem_append_right _ (List.mem_append_right _ (List.mem_append_right _ (List.mem_append_left _ (List.mem_of_getElem? (i := 10) (by decide +kernel)))))
theorem wt_n15 : Cond.methodLinkNest "CaptionTallies$Groups" 57 y_CT_isIndex "CaptionTallies" ∈ lw_tbl := List.mem_append_right _ (List.mem_append_right _ (List.mem_append_right _ (List.mem_append_left _ (List.mem_of_getElem? (i := 19) (by decide +kernel)))))
theorem wt_n16 : Cond.methodLinkNest "CaptionTallies$Draft" 23 y_CT_put "CaptionTallies" ∈ lw_tbl := List.mem_append_right _ (List.mem_append_right _ (List.mem_append_right _ (List.mem_append_left _ (List.mem_of_getElem? (i := 64) (by decide +kernel)))))
theorem wt_n17 : Cond.methodLinkNest "CaptionTallies$Counts" 58 y_CT_at "CaptionTallies" ∈ lw_tbl := List.mem_append_right _ (List.mem_append_right _ (List.mem_append_right _ (List.mem_append_left _ (List.mem_of_getElem? (i := 134) (by decide +kernel)))))
theorem wt_n18 : Cond.methodLinkNest "CaptionTallies$Counts" 47 y_CT_put "CaptionTallies" ∈ lw_tbl := List.mem_append_right _ (List.mem_append_right _ (List.mem_append_right _ (List.mem_append_left _ (List.mem_of_getElem? (i := 135) (by decide +kernel)))))
theorem wt_n19 : Cond.methodLinkNest "CaptionTallies$Rounds" 83 y_CT_isIndex "CaptionTallies" ∈ lw_tbl := List.mem_append_right _ (List.mem_append_right _ (List.mem_append_right _ (List.mem_append_left _ (List.mem_of_getElem? (i := 170) (by decide +kernel)))))
theorem wt_n20 : Cond.methodLinkNest "CaptionTallies$Rounds" 61 y_CT_put "CaptionTallies" ∈ lw_tbl := List.mem_append_right _ (List.mem_append_right _ (List.mem_append_right _ (List.mem_append_left _ (List.mem_of_getElem? (i := 187) (by decide +kernel)))))
theorem wt_n21 : Cond.methodLinkNest "CaptionTallies$Rounds" 108 y_CT_at "CaptionTallies" ∈ lw_tbl := List.mem_append_right _ (List.mem_append_right _ (List.mem_append_right _ (List.mem_append_left _ (List.mem_of_getElem? (i := 209) (by decide +kernel)))))
theorem wt_n22 : Cond.methodLinkNest "CaptionTallies$Order" 25 y_CT_isIndex "CaptionTallies" ∈ lw_tbl := List.mem_append_right _ (List.mem_append_right _ (List.mem_append_right _ (List.mem_append_left _ (List.mem_of_getElem? (i := 221) (by decide +kernel)))))
theorem wt_n23 : Cond.methodLinkNest "CaptionTallies$Order" 43 y_CT_at "CaptionTallies" ∈ lw_tbl := List.mem_append_right _ (List.mem_append_right _ (List.mem_append_right _ (List.mem_append_left _ (List.mem_of_getElem? (i := 231) (by decide +kernel)))))
theorem wt_n24 : Cond.methodLinkNest "CaptionTallies$Shares" 47 y_CT_portion "CaptionTallies" ∈ lw_tbl := List.mem_append_right _ (List.mem_append_right _ (List.mem_append_right _ (List.mem_append_right _ (List.mem_append_left _ (List.mem_of_getElem? (i := 20) (by decide +kernel))))))
theorem wt_n25 : Cond.methodLinkNest "CaptionTallies$Shares" 68 y_CT_at "CaptionTallies" ∈ lw_tbl := List.mem_append_right _ (List.mem_append_right _ (List.mem_append_right _ (List.mem_append_right _ (List.mem_append_left _ (List.mem_of_getElem? (i := 32) (by decide +kernel))))))
theorem wt_n26 : Cond.methodLinkNest "CaptionTallies$Distances" 34 y_CT_at "CaptionTallies" ∈ lw_tbl := List.mem_append_right _ (List.mem_append_right _ (List.mem_append_right _ (List.mem_append_right _ (List.mem_append_left _ (List.mem_of_getElem? (i := 116) (by decide +kernel))))))
theorem wt_all : ∀ q ∈ z_nests, Cond.methodLinkNest q.1 q.2.1 q.2.2 "CaptionTallies" ∈ lw_tbl := List.forall_mem_cons.mpr ⟨wt_n0, List.forall_mem_cons.mpr ⟨wt_n1, List.forall_mem_cons.mpr ⟨wt_n2, List.forall_mem_cons.mpr ⟨wt_n3, List.forall_mem_cons.mpr ⟨wt_n4, List.forall_mem_cons.mpr ⟨wt_n5, List.forall_mem_cons.mpr ⟨wt_n6, List.forall_mem_cons.mpr ⟨wt_n7, List.forall_mem_cons.mpr ⟨wt_n8, List.forall_mem_cons.mpr ⟨wt_n9, List.forall_mem_cons.mpr ⟨wt_n10, List.forall_mem_cons.mpr ⟨wt_n11, List.forall_mem_cons.mpr ⟨wt_n12, List.forall_mem_cons.mpr ⟨wt_n13, List.forall_mem_cons.mpr ⟨wt_n14, List.forall_mem_cons.mpr ⟨wt_n15, List.forall_mem_cons.mpr ⟨wt_n16, List.forall_mem_cons.mpr ⟨wt_n17, List.forall_mem_cons.mpr ⟨wt_n18, List.forall_mem_cons.mpr ⟨wt_n19, List.forall_mem_cons.mpr ⟨wt_n20, List.forall_mem_cons.mpr ⟨wt_n21, List.forall_mem_cons.mpr ⟨wt_n22, List.forall_mem_cons.mpr ⟨wt_n23, List.forall_mem_cons.mpr ⟨wt_n24, List.forall_mem_cons.mpr ⟨wt_n25, List.forall_mem_cons.mpr ⟨wt_n26, fun _ h => absurd h List.not_mem_nil⟩⟩⟩⟩⟩⟩⟩⟩⟩⟩⟩⟩⟩⟩⟩⟩⟩⟩⟩⟩⟩⟩⟩⟩⟩⟩⟩
theorem wt_aQ : Cond.arrayOver (.object "CaptionTallies$State") ∈ lw_tbl := List.mem_append_right _ (List.mem_append_left _ (List.mem_of_getElem? (i := 95) (by decide +kernel)))
theorem wlw_13 : Cond.methodLink "CaptionTalliesLaw" 13 y_CT_submit ∈ lw_gt := wq_2 (i := 22) (by decide +kernel) rfl
theorem wlw_17 : Cond.methodLink "CaptionTalliesLaw" 17 y_MO_submit ∈ lw_gt := wq_5 (i := 30) (by decide +kernel) rfl
theorem wlw_18 : Cond.methodLink "CaptionTalliesLaw" 18 y_CT_withdraw ∈ lw_gt := wq_2 (i := 120) (by decide +kernel) rfl
theorem wlw_21 : Cond.methodLink "CaptionTalliesLaw" 21 y_MO_withdraw ∈ lw_gt := wq_5 (i := 51) (by decide +kernel) rfl
theorem wlw_22 : Cond.methodLink "CaptionTalliesLaw" 22 y_CT_join ∈ lw_gt := wq_2 (i := 137) (by decide +kernel) rfl
theorem wlw_26 : Cond.methodLink "CaptionTalliesLaw" 26 y_MO_join ∈ lw_gt := wq_5 (i := 63) (by decide +kernel) rfl
theorem wlw_27 : Cond.methodLink "CaptionTalliesLaw" 27 y_CT_part ∈ lw_gt := wq_2 (i := 176) (by decide +kernel) rfl
theorem wlw_30 : Cond.methodLink "CaptionTalliesLaw" 30 y_MO_part ∈ lw_gt := wq_5 (i := 90) (by decide +kernel) rfl
theorem wlw_31 : Cond.methodLink "CaptionTalliesLaw" 31 y_CT_vote ∈ lw_gt := wq_2 (i := 189) (by decide +kernel) rfl
theorem wlw_35 : Cond.methodLink "CaptionTalliesLaw" 35 y_MO_vote ∈ lw_gt := wq_5 (i := 94) (by decide +kernel) rfl
theorem wlw_36 : Cond.methodLink "CaptionTalliesLaw" 36 y_CT_score ∈ lw_gt := wq_2 (i := 219) (by decide +kernel) rfl
theorem wlw_40 : Cond.methodLink "CaptionTalliesLaw" 40 y_MO_score ∈ lw_gt := wq_5 (i := 98) (by decide +kernel) rfl
theorem wlw_41 : Cond.methodLink "CaptionTalliesLaw" 41 y_CT_set ∈ lw_gt := wq_3 (i := 28) (by decide +kernel) rfl
theorem wlw_44 : Cond.methodLink "CaptionTalliesLaw" 44 y_MO_set ∈ lw_gt := wq_5 (i := 114) (by decide +kernel) rfl
theorem wlw_45 : Cond.methodLink "CaptionTalliesLaw" 45 y_CT_prize ∈ lw_gt := wq_3 (i := 43) (by decide +kernel) rfl
theorem wlw_48 : Cond.methodLink "CaptionTalliesLaw" 48 y_MO_prize ∈ lw_gt := wq_5 (i := 118) (by decide +kernel) rfl
theorem wlw_49 : Cond.methodLink "CaptionTalliesLaw" 49 y_CT_type ∈ lw_gt := wq_3 (i := 55) (by decide +kernel) rfl
theorem wlw_53 : Cond.methodLink "CaptionTalliesLaw" 53 y_MO_type ∈ lw_gt := wq_5 (i := 122) (by decide +kernel) rfl
theorem wlw_54 : Cond.methodLink "CaptionTalliesLaw" 54 y_CT_clearText ∈ lw_gt := wq_3 (i := 65) (by decide +kernel) rfl
theorem wlw_58 : Cond.methodLink "CaptionTalliesLaw" 58 y_MO_clearText ∈ lw_gt := wq_5 (i := 126) (by decide +kernel) rfl
theorem wlw_59 : Cond.methodLink "CaptionTalliesLaw" 59 y_CT_undo ∈ lw_gt := wq_3 (i := 73) (by decide +kernel) rfl
theorem wlw_62 : Cond.methodLink "CaptionTalliesLaw" 62 y_MO_undo ∈ lw_gt := wq_5 (i := 130) (by decide +kernel) rfl
theorem wlw_63 : Cond.methodLink "CaptionTalliesLaw" 63 y_CT_keep ∈ lw_gt := wq_3 (i := 85) (by decide +kernel) rfl
theorem wlw_66 : Cond.methodLink "CaptionTalliesLaw" 66 y_MO_keep ∈ lw_gt := wq_5 (i := 134) (by decide +kernel) rfl
theorem wlw_67 : Cond.methodLink "CaptionTalliesLaw" 67 y_CT_restore ∈ lw_gt := wq_3 (i := 90) (by decide +kernel) rfl
theorem wlw_70 : Cond.methodLink "CaptionTalliesLaw" 70 y_MO_restore ∈ lw_gt := wq_5 (i := 138) (by decide +kernel) rfl
theorem wlw_71 : Cond.methodLink "CaptionTalliesLaw" 71 y_CT_caption ∈ lw_gt := wq_3 (i := 94) (by decide +kernel) rfl
theorem wlw_74 : Cond.methodLink "CaptionTalliesLaw" 74 y_MO_caption ∈ lw_gt := wq_5 (i := 142) (by decide +kernel) rfl
theorem wlw_75 : Cond.methodLink "CaptionTalliesLaw" 75 y_CT_letter ∈ lw_gt := wq_4 (i := 46) (by decide +kernel) rfl
theorem wlw_78 : Cond.methodLink "CaptionTalliesLaw" 78 y_MO_letter ∈ lw_gt := wq_5 (i := 194) (by decide +kernel) rfl
theorem wlw_79 : Cond.methodLink "CaptionTalliesLaw" 79 y_CT_group ∈ lw_gt := wq_4 (i := 55) (by decide +kernel) rfl
theorem wlw_82 : Cond.methodLink "CaptionTalliesLaw" 82 y_MO_group ∈ lw_gt := wq_5 (i := 198) (by decide +kernel) rfl
theorem wlw_83 : Cond.methodLink "CaptionTalliesLaw" 83 y_CT_judged ∈ lw_gt := wq_4 (i := 62) (by decide +kernel) rfl
theorem wlw_86 : Cond.methodLink "CaptionTalliesLaw" 86 y_MO_judged ∈ lw_gt := wq_5 (i := 210) (by decide +kernel) rfl
theorem wlw_87 : Cond.methodLink "CaptionTalliesLaw" 87 y_CT_ballot ∈ lw_gt := wq_4 (i := 67) (by decide +kernel) rfl
theorem wlw_91 : Cond.methodLink "CaptionTalliesLaw" 91 y_MO_ballot ∈ lw_gt := wq_5 (i := 214) (by decide +kernel) rfl
theorem wlw_92 : Cond.methodLink "CaptionTalliesLaw" 92 y_CT_ranked ∈ lw_gt := wq_4 (i := 73) (by decide +kernel) rfl
theorem wlw_95 : Cond.methodLink "CaptionTalliesLaw" 95 y_MO_ranked ∈ lw_gt := wq_5 (i := 218) (by decide +kernel) rfl
theorem wlw_96 : Cond.methodLink "CaptionTalliesLaw" 96 y_CT_round ∈ lw_gt := wq_4 (i := 81) (by decide +kernel) rfl
theorem wlw_99 : Cond.methodLink "CaptionTalliesLaw" 99 y_MO_round ∈ lw_gt := wq_5 (i := 222) (by decide +kernel) rfl
theorem wlw_100 : Cond.methodLink "CaptionTalliesLaw" 100 y_CT_distance ∈ lw_gt := wq_4 (i := 101) (by decide +kernel) rfl
theorem wlw_103 : Cond.methodLink "CaptionTalliesLaw" 103 y_MO_distance ∈ lw_gt := wq_5 (i := 226) (by decide +kernel) rfl
theorem wlw_104 : Cond.methodLink "CaptionTalliesLaw" 104 y_CT_near ∈ lw_gt := wq_4 (i := 117) (by decide +kernel) rfl
theorem wlw_107 : Cond.methodLink "CaptionTalliesLaw" 107 y_MO_near ∈ lw_gt := wq_5 (i := 234) (by decide +kernel) rfl
theorem wlw_108 : Cond.methodLink "CaptionTalliesLaw" 108 y_CT_author ∈ lw_gt := wq_4 (i := 145) (by decide +kernel) rfl
theorem wlw_111 : Cond.methodLink "CaptionTalliesLaw" 111 y_MO_author ∈ lw_gt := wq_5 (i := 238) (by decide +kernel) rfl
theorem wlw_112 : Cond.methodLink "CaptionTalliesLaw" 112 y_CT_count ∈ lw_gt := wq_4 (i := 165) (by decide +kernel) rfl
theorem wlw_115 : Cond.methodLink "CaptionTalliesLaw" 115 y_MO_count ∈ lw_gt := wq_6 (i := 2) (by decide +kernel) rfl
section LAW
abbrev lvL (Γ : Gm) (b i : Nat) : List (Nat × Value) := [(3, .int (nI i)), (2, .ref (Γ.2.2.1 112)), (1, .ref (Γ.2.2.1 111)), (0, .ref b)]
theorem lw_lt {L i : Nat} (hL : L ≤ 2560) (hi : i ≤ 2565) (h : L < i + 5) : nI L - nI 5 < nI i := by
  by_cases h5 : 5 ≤ L
  · have e : nI L - nI 5 = nI (L - 5) := by
      have e1 : nI L = nI (L - 5) + nI 5 := by rw [nI_add, Nat.sub_add_cancel h5]
      rw [e1, Int32.add_sub_cancel]
    rw [e]
    exact nI_lt (by omega) (by omega)
  · have h6 : nI 0 ≤ nI i := nI_le (Nat.zero_le _) (by omega)
    refine Int32.lt_of_lt_of_le ?_ h6
    rcases (show L = 0 ∨ L = 1 ∨ L = 2 ∨ L = 3 ∨ L = 4 by omega) with rfl | rfl | rfl | rfl | rfl <;> decide
variable {Γ : Gm} {p : Program} {l : Launch} {e : Env} {s : State} {m : MethodId} {below : List Frame} {meth : Method} {c : Code} {kc ks b L : Nat} {xs : Nat → Int32} {Q : State → Prop} {st : List Value} {σ : Sg}
/-- the machine in the law, and the script -/
def LX (Γ : Gm) (p : Program) (s : State) (m : MethodId) (c : Code) (kc ks b L : Nat) (xs : Nat → Int32) : Prop := Cx Γ p room_1 s m #[Value.ref b] c code 4 "CaptionTalliesLaw" kc ks ∧ va_X b L xs s s.heap ∧ b < s.heap.size ∧ Γ.2.2.2 = s.heap.size ∧ L ≤ 2560
theorem g_sld (X : LX Γ p s m c kc ks b L xs) {i k pc : Nat} (hd : decode code pc = .ok (.iaload, 1)) (hin : k < L) (k9 : G Γ p l e room_1 s m #[Value.ref b] below meth c kc ks Q 4 (pc + 1) (lvL Γ b i) (.int (xs k) :: st) σ) : G Γ p l e room_1 s m #[Value.ref b] below meth c kc ks Q 4 pc (lvL Γ b i) (.int (nI k) :: .ref b :: st) σ := by
  obtain ⟨X, hX, hbl, hΓ, hL⟩ := X
  intro H locs ls hP hS hl
  refine va_sld X.1 X.2.1 hX hbl (by rw [hΓ]; exact Nat.not_le.mpr hbl) hS (nI_in hin (by omega)) hd ?_
  rw [nI_clamp (by omega)]
  exact k9 H locs ls hP hS hl
theorem g_slen (X : LX Γ p s m c kc ks b L xs) {i pc : Nat} (hd : decode code pc = .ok (.arraylength, 1)) (k9 : G Γ p l e room_1 s m #[Value.ref b] below meth c kc ks Q 4 (pc + 1) (lvL Γ b i) (.int (nI L) :: st) σ) : G Γ p l e room_1 s m #[Value.ref b] below meth c kc ks Q 4 pc (lvL Γ b i) (.ref b :: st) σ := by
  obtain ⟨X, hX, hbl, hΓ, hL⟩ := X
  intro H locs ls hP hS hl
  exact va_slen X.1 X.2.1 hX hbl (by rw [hΓ]; exact Nat.not_le.mpr hbl) hS hd (k9 H locs ls hP hS hl)
theorem g_arg (X : LX Γ p s m c kc ks b L xs) {i k pc : Nat} {n : Int} (hd0 : decode code pc = .ok (.aload_n 0, 1)) (hd1 : decode code (pc + 1) = .ok (.iload_n 3, 1)) (hd2 : decode code (pc + 2) = .ok (.iconst n, 1)) (hn : Int32.ofInt n = nI k) (hd3 : decode code (pc + 3) = .ok (.iadd, 1)) (hd4 : decode code (pc + 4) = .ok (.iaload, 1)) (hin : i + k < L) (k9 : G Γ p l e room_1 s m #[Value.ref b] below meth c kc ks Q 4 (pc + 5) (lvL Γ b i) (.int (xs (i + k)) :: st) σ) : G Γ p l e room_1 s m #[Value.ref b] below meth c kc ks Q 4 pc (lvL Γ b i) (st) σ := by
  refine g_aload_n X.1 hd0 3 rfl ?_
  refine g_iload_n X.1 hd1 0 rfl ?_
  refine g_iconst X.1 hd2 hn ?_
  refine g_iadd X.1 hd3 ?_
  rw [nI_add]
  exact g_sld X hd4 hin k9
set_option maxRecDepth 10000 in
theorem lwc_0 (X : LX Γ p s m c kc ks b L xs) {i : Nat} (hin : i + 5 ≤ L) (hI : Inv σ) (K : ∀ σ1, Inv σ1 → G Γ p l e room_1 s m #[Value.ref b] below meth c kc ks Q 4 864 (lvL Γ b i) ([]) σ1) : G Γ p l e room_1 s m #[Value.ref b] below meth c kc ks Q 4 144 (lvL Γ b i) ([]) σ := by
  obtain ⟨r, y, z, e1, e2, hJ⟩ := Ok2.inv (op_submit (xs (i + 1))) hI
  refine g_aload_n X.1 d_LW_law_144 2 rfl ?_
  refine g_arg X d_LW_law_145 d_LW_law_146 d_LW_law_147 (k := 1) (by decide) d_LW_law_148 d_LW_law_149 (by omega) ?_
  refine ca_CT_submit X.1 d_LW_law_150 wlw_13 ⟨Nat.le_of_ble_eq_true rfl, Nat.le_of_ble_eq_true rfl⟩ (sum8 rfl) e1 ?_
  refine g_aload_n X.1 d_LW_law_153 1 rfl ?_
  refine g_arg X d_LW_law_154 d_LW_law_155 d_LW_law_156 (k := 1) (by decide) d_LW_law_157 d_LW_law_158 (by omega) ?_
  refine ca_MO_submit X.1 d_LW_law_159 wlw_17 ⟨Nat.le_of_ble_eq_true rfl, Nat.le_of_ble_eq_true rfl⟩ (sum8 rfl) e2 ?_
  exact g_ic_eq X.1 d_LW_law_162 864 (by decide) (fun _ => K z hJ) (fun w9 => absurd rfl w9)
set_option maxRecDepth 10000 in
theorem lwc_1 (X : LX Γ p s m c kc ks b L xs) {i : Nat} (hin : i + 5 ≤ L) (hI : Inv σ) (K : ∀ σ1, Inv σ1 → G Γ p l e room_1 s m #[Value.ref b] below meth c kc ks Q 4 864 (lvL Γ b i) ([]) σ1) : G Γ p l e room_1 s m #[Value.ref b] below meth c kc ks Q 4 167 (lvL Γ b i) ([]) σ := by
  obtain ⟨r, y, z, e1, e2, hJ⟩ := Ok2.inv (op_withdraw (xs (i + 1))) hI
  refine g_aload_n X.1 d_LW_law_167 2 rfl ?_
  refine g_arg X d_LW_law_168 d_LW_law_169 d_LW_law_170 (k := 1) (by decide) d_LW_law_171 d_LW_law_172 (by omega) ?_
  refine ca_CT_withdraw X.1 d_LW_law_173 wlw_18 ⟨Nat.le_of_ble_eq_true rfl, Nat.le_of_ble_eq_true rfl⟩ (sum8 rfl) e1 ?_
  refine g_aload_n X.1 d_LW_law_176 1 rfl ?_
  refine g_arg X d_LW_law_177 d_LW_law_178 d_LW_law_179 (k := 1) (by decide) d_LW_law_180 d_LW_law_181 (by omega) ?_
  refine ca_MO_withdraw X.1 d_LW_law_182 wlw_21 ⟨Nat.le_of_ble_eq_true rfl, Nat.le_of_ble_eq_true rfl⟩ (sum8 rfl) e2 ?_
  exact g_ic_eq X.1 d_LW_law_185 864 (by decide) (fun _ => K z hJ) (fun w9 => absurd rfl w9)
set_option maxRecDepth 10000 in
theorem lwc_2 (X : LX Γ p s m c kc ks b L xs) {i : Nat} (hin : i + 5 ≤ L) (hI : Inv σ) (K : ∀ σ1, Inv σ1 → G Γ p l e room_1 s m #[Value.ref b] below meth c kc ks Q 4 864 (lvL Γ b i) ([]) σ1) : G Γ p l e room_1 s m #[Value.ref b] below meth c kc ks Q 4 190 (lvL Γ b i) ([]) σ := by
  obtain ⟨r, y, z, e1, e2, hJ⟩ := Ok2.inv (op_join (xs (i + 1)) (xs (i + 2))) hI
  refine g_aload_n X.1 d_LW_law_190 2 rfl ?_
  refine g_arg X d_LW_law_191 d_LW_law_192 d_LW_law_193 (k := 1) (by decide) d_LW_law_194 d_LW_law_195 (by omega) ?_
  refine g_arg X d_LW_law_196 d_LW_law_197 d_LW_law_198 (k := 2) (by decide) d_LW_law_199 d_LW_law_200 (by omega) ?_
  refine ca_CT_join X.1 d_LW_law_201 wlw_22 ⟨Nat.le_of_ble_eq_true rfl, Nat.le_of_ble_eq_true rfl⟩ (sum8 rfl) e1 ?_
  refine g_aload_n X.1 d_LW_law_204 1 rfl ?_
  refine g_arg X d_LW_law_205 d_LW_law_206 d_LW_law_207 (k := 1) (by decide) d_LW_law_208 d_LW_law_209 (by omega) ?_
  refine g_arg X d_LW_law_210 d_LW_law_211 d_LW_law_212 (k := 2) (by decide) d_LW_law_213 d_LW_law_214 (by omega) ?_
  refine ca_MO_join X.1 d_LW_law_215 wlw_26 ⟨Nat.le_of_ble_eq_true rfl, Nat.le_of_ble_eq_true rfl⟩ (sum8 rfl) e2 ?_
  exact g_ic_eq X.1 d_LW_law_218 864 (by decide) (fun _ => K z hJ) (fun w9 => absurd rfl w9)
set_option maxRecDepth 10000 in
theorem lwc_3 (X : LX Γ p s m c kc ks b L xs) {i : Nat} (hin : i + 5 ≤ L) (hI : Inv σ) (K : ∀ σ1, Inv σ1 → G Γ p l e room_1 s m #[Value.ref b] below meth c kc ks Q 4 864 (lvL Γ b i) ([]) σ1) : G Γ p l e room_1 s m #[Value.ref b] below meth c kc ks Q 4 223 (lvL Γ b i) ([]) σ := by
  obtain ⟨r, y, z, e1, e2, hJ⟩ := Ok2.inv (op_part (xs (i + 1))) hI
  refine g_aload_n X.1 d_LW_law_223 2 rfl ?_
  refine g_arg X d_LW_law_224 d_LW_law_225 d_LW_law_226 (k := 1) (by decide) d_LW_law_227 d_LW_law_228 (by omega) ?_
  refine ca_CT_part X.1 d_LW_law_229 wlw_27 ⟨Nat.le_of_ble_eq_true rfl, Nat.le_of_ble_eq_true rfl⟩ (sum8 rfl) e1 ?_
  refine g_aload_n X.1 d_LW_law_232 1 rfl ?_
  refine g_arg X d_LW_law_233 d_LW_law_234 d_LW_law_235 (k := 1) (by decide) d_LW_law_236 d_LW_law_237 (by omega) ?_
  refine ca_MO_part X.1 d_LW_law_238 wlw_30 ⟨Nat.le_of_ble_eq_true rfl, Nat.le_of_ble_eq_true rfl⟩ (sum8 rfl) e2 ?_
  exact g_ic_eq X.1 d_LW_law_241 864 (by decide) (fun _ => K z hJ) (fun w9 => absurd rfl w9)
set_option maxRecDepth 10000 in
theorem lwc_4 (X : LX Γ p s m c kc ks b L xs) {i : Nat} (hin : i + 5 ≤ L) (hI : Inv σ) (K : ∀ σ1, Inv σ1 → G Γ p l e room_1 s m #[Value.ref b] below meth c kc ks Q 4 864 (lvL Γ b i) ([]) σ1) : G Γ p l e room_1 s m #[Value.ref b] below meth c kc ks Q 4 246 (lvL Γ b i) ([]) σ := by
  obtain ⟨r, y, z, e1, e2, hJ⟩ := Ok2.inv (op_vote (xs (i + 1)) (xs (i + 2)) (xs (i + 3)) (xs (i + 4))) hI
  refine g_aload_n X.1 d_LW_law_246 2 rfl ?_
  refine g_arg X d_LW_law_247 d_LW_law_248 d_LW_law_249 (k := 1) (by decide) d_LW_law_250 d_LW_law_251 (by omega) ?_
  refine g_arg X d_LW_law_252 d_LW_law_253 d_LW_law_254 (k := 2) (by decide) d_LW_law_255 d_LW_law_256 (by omega) ?_
  refine g_arg X d_LW_law_257 d_LW_law_258 d_LW_law_259 (k := 3) (by decide) d_LW_law_260 d_LW_law_261 (by omega) ?_
  refine g_arg X d_LW_law_262 d_LW_law_263 d_LW_law_264 (k := 4) (by decide) d_LW_law_265 d_LW_law_266 (by omega) ?_
  refine ca_CT_vote X.1 d_LW_law_267 wlw_31 ⟨Nat.le_of_ble_eq_true rfl, Nat.le_of_ble_eq_true rfl⟩ (sum8 rfl) e1 ?_
  refine g_aload_n X.1 d_LW_law_270 1 rfl ?_
  refine g_arg X d_LW_law_271 d_LW_law_272 d_LW_law_273 (k := 1) (by decide) d_LW_law_274 d_LW_law_275 (by omega) ?_
  refine g_arg X d_LW_law_276 d_LW_law_277 d_LW_law_278 (k := 2) (by decide) d_LW_law_279 d_LW_law_280 (by omega) ?_
  refine g_arg X d_LW_law_281 d_LW_law_282 d_LW_law_283 (k := 3) (by decide) d_LW_law_284 d_LW_law_285 (by omega) ?_
  refine g_arg X d_LW_law_286 d_LW_law_287 d_LW_law_288 (k := 4) (by decide) d_LW_law_289 d_LW_law_290 (by omega) ?_
  refine ca_MO_vote X.1 d_LW_law_291 wlw_35 ⟨Nat.le_of_ble_eq_true rfl, Nat.le_of_ble_eq_true rfl⟩ (sum8 rfl) e2 ?_
  exact g_ic_eq X.1 d_LW_law_294 864 (by decide) (fun _ => K z hJ) (fun w9 => absurd rfl w9)
set_option maxRecDepth 10000 in
theorem lwc_5 (X : LX Γ p s m c kc ks b L xs) {i : Nat} (hin : i + 5 ≤ L) (hI : Inv σ) (K : ∀ σ1, Inv σ1 → G Γ p l e room_1 s m #[Value.ref b] below meth c kc ks Q 4 864 (lvL Γ b i) ([]) σ1) : G Γ p l e room_1 s m #[Value.ref b] below meth c kc ks Q 4 299 (lvL Γ b i) ([]) σ := by
  obtain ⟨r, y, z, e1, e2, hJ⟩ := Ok2.inv (op_score (xs (i + 1)) (xs (i + 2)) (xs (i + 3))) hI
  refine g_aload_n X.1 d_LW_law_299 2 rfl ?_
  refine g_arg X d_LW_law_300 d_LW_law_301 d_LW_law_302 (k := 1) (by decide) d_LW_law_303 d_LW_law_304 (by omega) ?_
  refine g_arg X d_LW_law_305 d_LW_law_306 d_LW_law_307 (k := 2) (by decide) d_LW_law_308 d_LW_law_309 (by omega) ?_
  refine g_arg X d_LW_law_310 d_LW_law_311 d_LW_law_312 (k := 3) (by decide) d_LW_law_313 d_LW_law_314 (by omega) ?_
  refine ca_CT_score X.1 d_LW_law_315 wlw_36 ⟨Nat.le_of_ble_eq_true rfl, Nat.le_of_ble_eq_true rfl⟩ (sum8 rfl) e1 ?_
  refine g_aload_n X.1 d_LW_law_318 1 rfl ?_
  refine g_arg X d_LW_law_319 d_LW_law_320 d_LW_law_321 (k := 1) (by decide) d_LW_law_322 d_LW_law_323 (by omega) ?_
  refine g_arg X d_LW_law_324 d_LW_law_325 d_LW_law_326 (k := 2) (by decide) d_LW_law_327 d_LW_law_328 (by omega) ?_
  refine g_arg X d_LW_law_329 d_LW_law_330 d_LW_law_331 (k := 3) (by decide) d_LW_law_332 d_LW_law_333 (by omega) ?_
  refine ca_MO_score X.1 d_LW_law_334 wlw_40 ⟨Nat.le_of_ble_eq_true rfl, Nat.le_of_ble_eq_true rfl⟩ (sum8 rfl) e2 ?_
  exact g_ic_eq X.1 d_LW_law_337 864 (by decide) (fun _ => K z hJ) (fun w9 => absurd rfl w9)
set_option maxRecDepth 10000 in
theorem lwc_6 (X : LX Γ p s m c kc ks b L xs) {i : Nat} (hin : i + 5 ≤ L) (hI : Inv σ) (K : ∀ σ1, Inv σ1 → G Γ p l e room_1 s m #[Value.ref b] below meth c kc ks Q 4 864 (lvL Γ b i) ([]) σ1) : G Γ p l e room_1 s m #[Value.ref b] below meth c kc ks Q 4 342 (lvL Γ b i) ([]) σ := by
  obtain ⟨r, y, z, e1, e2, hJ⟩ := Ok2.inv (op_set (xs (i + 1)) (xs (i + 2))) hI
  refine g_aload_n X.1 d_LW_law_342 2 rfl ?_
  refine g_arg X d_LW_law_343 d_LW_law_344 d_LW_law_345 (k := 1) (by decide) d_LW_law_346 d_LW_law_347 (by omega) ?_
  refine g_arg X d_LW_law_348 d_LW_law_349 d_LW_law_350 (k := 2) (by decide) d_LW_law_351 d_LW_law_352 (by omega) ?_
  refine ca_CT_set X.1 d_LW_law_353 wlw_41 ⟨Nat.le_of_ble_eq_true rfl, Nat.le_of_ble_eq_true rfl⟩ (sum8 rfl) e1 ?_
  refine g_aload_n X.1 d_LW_law_356 1 rfl ?_
  refine g_arg X d_LW_law_357 d_LW_law_358 d_LW_law_359 (k := 1) (by decide) d_LW_law_360 d_LW_law_361 (by omega) ?_
  refine g_arg X d_LW_law_362 d_LW_law_363 d_LW_law_364 (k := 2) (by decide) d_LW_law_365 d_LW_law_366 (by omega) ?_
  refine ca_MO_set X.1 d_LW_law_367 wlw_44 ⟨Nat.le_of_ble_eq_true rfl, Nat.le_of_ble_eq_true rfl⟩ (sum8 rfl) e2 ?_
  exact g_ic_eq X.1 d_LW_law_370 864 (by decide) (fun _ => K z hJ) (fun w9 => absurd rfl w9)
set_option maxRecDepth 10000 in
theorem lwc_7 (X : LX Γ p s m c kc ks b L xs) {i : Nat} (hin : i + 5 ≤ L) (hI : Inv σ) (K : ∀ σ1, Inv σ1 → G Γ p l e room_1 s m #[Value.ref b] below meth c kc ks Q 4 864 (lvL Γ b i) ([]) σ1) : G Γ p l e room_1 s m #[Value.ref b] below meth c kc ks Q 4 375 (lvL Γ b i) ([]) σ := by
  obtain ⟨r, y, z, e1, e2, hJ⟩ := Ok2.inv (op_prize (xs (i + 1)) (xs (i + 2))) hI
  refine g_aload_n X.1 d_LW_law_375 2 rfl ?_
  refine g_arg X d_LW_law_376 d_LW_law_377 d_LW_law_378 (k := 1) (by decide) d_LW_law_379 d_LW_law_380 (by omega) ?_
  refine g_arg X d_LW_law_381 d_LW_law_382 d_LW_law_383 (k := 2) (by decide) d_LW_law_384 d_LW_law_385 (by omega) ?_
  refine ca_CT_prize X.1 d_LW_law_386 wlw_45 ⟨Nat.le_of_ble_eq_true rfl, Nat.le_of_ble_eq_true rfl⟩ (sum8 rfl) e1 ?_
  refine g_aload_n X.1 d_LW_law_389 1 rfl ?_
  refine g_arg X d_LW_law_390 d_LW_law_391 d_LW_law_392 (k := 1) (by decide) d_LW_law_393 d_LW_law_394 (by omega) ?_
  refine g_arg X d_LW_law_395 d_LW_law_396 d_LW_law_397 (k := 2) (by decide) d_LW_law_398 d_LW_law_399 (by omega) ?_
  refine ca_MO_prize X.1 d_LW_law_400 wlw_48 ⟨Nat.le_of_ble_eq_true rfl, Nat.le_of_ble_eq_true rfl⟩ (sum8 rfl) e2 ?_
  exact g_ic_eq X.1 d_LW_law_403 864 (by decide) (fun _ => K z hJ) (fun w9 => absurd rfl w9)
set_option maxRecDepth 10000 in
theorem lwc_8 (X : LX Γ p s m c kc ks b L xs) {i : Nat} (hin : i + 5 ≤ L) (hI : Inv σ) (K : ∀ σ1, Inv σ1 → G Γ p l e room_1 s m #[Value.ref b] below meth c kc ks Q 4 864 (lvL Γ b i) ([]) σ1) : G Γ p l e room_1 s m #[Value.ref b] below meth c kc ks Q 4 408 (lvL Γ b i) ([]) σ := by
  obtain ⟨r, y, z, e1, e2, hJ⟩ := Ok2.inv (op_type (((xs (i + 1)).toUInt32 % 65536).toInt32)) hI
  refine g_aload_n X.1 d_LW_law_408 2 rfl ?_
  refine g_arg X d_LW_law_409 d_LW_law_410 d_LW_law_411 (k := 1) (by decide) d_LW_law_412 d_LW_law_413 (by omega) ?_
  refine g_i2c X.1 d_LW_law_414 ?_
  refine ca_CT_type X.1 d_LW_law_415 wlw_49 ⟨Nat.le_of_ble_eq_true rfl, Nat.le_of_ble_eq_true rfl⟩ (sum8 rfl) e1 ?_
  refine g_aload_n X.1 d_LW_law_418 1 rfl ?_
  refine g_arg X d_LW_law_419 d_LW_law_420 d_LW_law_421 (k := 1) (by decide) d_LW_law_422 d_LW_law_423 (by omega) ?_
  refine g_i2c X.1 d_LW_law_424 ?_
  refine ca_MO_type X.1 d_LW_law_425 wlw_53 ⟨Nat.le_of_ble_eq_true rfl, Nat.le_of_ble_eq_true rfl⟩ (sum8 rfl) e2 ?_
  exact g_ic_eq X.1 d_LW_law_428 864 (by decide) (fun _ => K z hJ) (fun w9 => absurd rfl w9)
set_option maxRecDepth 10000 in
theorem lwc_9 (X : LX Γ p s m c kc ks b L xs) {i : Nat} (hin : i + 5 ≤ L) (hI : Inv σ) (K : ∀ σ1, Inv σ1 → G Γ p l e room_1 s m #[Value.ref b] below meth c kc ks Q 4 864 (lvL Γ b i) ([]) σ1) : G Γ p l e room_1 s m #[Value.ref b] below meth c kc ks Q 4 433 (lvL Γ b i) ([]) σ := by
  obtain ⟨r, y, z, e1, e2, hJ⟩ := Ok2.inv (op_clearText) hI
  refine g_aload_n X.1 d_LW_law_433 2 rfl ?_
  refine ca_CT_clearText X.1 d_LW_law_434 wlw_54 ⟨Nat.le_of_ble_eq_true rfl, Nat.le_of_ble_eq_true rfl⟩ (sum8 rfl) e1 ?_
  refine g_aload_n X.1 d_LW_law_437 1 rfl ?_
  refine ca_MO_clearText X.1 d_LW_law_438 wlw_58 ⟨Nat.le_of_ble_eq_true rfl, Nat.le_of_ble_eq_true rfl⟩ (sum8 rfl) e2 ?_
  exact g_ic_eq X.1 d_LW_law_441 864 (by decide) (fun _ => K z hJ) (fun w9 => absurd rfl w9)
set_option maxRecDepth 10000 in
theorem lwc_10 (X : LX Γ p s m c kc ks b L xs) {i : Nat} (hin : i + 5 ≤ L) (hI : Inv σ) (K : ∀ σ1, Inv σ1 → G Γ p l e room_1 s m #[Value.ref b] below meth c kc ks Q 4 864 (lvL Γ b i) ([]) σ1) : G Γ p l e room_1 s m #[Value.ref b] below meth c kc ks Q 4 446 (lvL Γ b i) ([]) σ := by
  obtain ⟨r, y, z, e1, e2, hJ⟩ := Ok2.inv (op_undo) hI
  refine g_aload_n X.1 d_LW_law_446 2 rfl ?_
  refine ca_CT_undo X.1 d_LW_law_447 wlw_59 ⟨Nat.le_of_ble_eq_true rfl, Nat.le_of_ble_eq_true rfl⟩ (sum8 rfl) e1 ?_
  refine g_aload_n X.1 d_LW_law_450 1 rfl ?_
  refine ca_MO_undo X.1 d_LW_law_451 wlw_62 ⟨Nat.le_of_ble_eq_true rfl, Nat.le_of_ble_eq_true rfl⟩ (sum8 rfl) e2 ?_
  exact g_ic_eq X.1 d_LW_law_454 864 (by decide) (fun _ => K z hJ) (fun w9 => absurd rfl w9)
set_option maxRecDepth 10000 in
theorem lwc_11 (X : LX Γ p s m c kc ks b L xs) {i : Nat} (hin : i + 5 ≤ L) (hI : Inv σ) (K : ∀ σ1, Inv σ1 → G Γ p l e room_1 s m #[Value.ref b] below meth c kc ks Q 4 864 (lvL Γ b i) ([]) σ1) : G Γ p l e room_1 s m #[Value.ref b] below meth c kc ks Q 4 459 (lvL Γ b i) ([]) σ := by
  obtain ⟨r, y, z, e1, e2, hJ⟩ := Ok2.inv (op_keep) hI
  refine g_aload_n X.1 d_LW_law_459 2 rfl ?_
  refine ca_CT_keep X.1 d_LW_law_460 wlw_63 ⟨Nat.le_of_ble_eq_true rfl, Nat.le_of_ble_eq_true rfl⟩ (sum8 rfl) e1 ?_
  refine g_aload_n X.1 d_LW_law_463 1 rfl ?_
  refine ca_MO_keep X.1 d_LW_law_464 wlw_66 ⟨Nat.le_of_ble_eq_true rfl, Nat.le_of_ble_eq_true rfl⟩ (sum8 rfl) e2 ?_
  exact g_ic_eq X.1 d_LW_law_467 864 (by decide) (fun _ => K z hJ) (fun w9 => absurd rfl w9)
set_option maxRecDepth 10000 in
theorem lwc_12 (X : LX Γ p s m c kc ks b L xs) {i : Nat} (hin : i + 5 ≤ L) (hI : Inv σ) (K : ∀ σ1, Inv σ1 → G Γ p l e room_1 s m #[Value.ref b] below meth c kc ks Q 4 864 (lvL Γ b i) ([]) σ1) : G Γ p l e room_1 s m #[Value.ref b] below meth c kc ks Q 4 472 (lvL Γ b i) ([]) σ := by
  obtain ⟨r, y, z, e1, e2, hJ⟩ := Ok2.inv (op_restore) hI
  refine g_aload_n X.1 d_LW_law_472 2 rfl ?_
  refine ca_CT_restore X.1 d_LW_law_473 wlw_67 ⟨Nat.le_of_ble_eq_true rfl, Nat.le_of_ble_eq_true rfl⟩ (sum8 rfl) e1 ?_
  refine g_aload_n X.1 d_LW_law_476 1 rfl ?_
  refine ca_MO_restore X.1 d_LW_law_477 wlw_70 ⟨Nat.le_of_ble_eq_true rfl, Nat.le_of_ble_eq_true rfl⟩ (sum8 rfl) e2 ?_
  exact g_ic_eq X.1 d_LW_law_480 864 (by decide) (fun _ => K z hJ) (fun w9 => absurd rfl w9)
set_option maxRecDepth 10000 in
theorem lwc_13 (X : LX Γ p s m c kc ks b L xs) {i : Nat} (hin : i + 5 ≤ L) (hI : Inv σ) (K : ∀ σ1, Inv σ1 → G Γ p l e room_1 s m #[Value.ref b] below meth c kc ks Q 4 864 (lvL Γ b i) ([]) σ1) : G Γ p l e room_1 s m #[Value.ref b] below meth c kc ks Q 4 485 (lvL Γ b i) ([]) σ := by
  obtain ⟨r, y, z, e1, e2, hJ⟩ := Ok2.inv (op_caption (xs (i + 1)) (xs (i + 2))) hI
  refine g_aload_n X.1 d_LW_law_485 2 rfl ?_
  refine g_arg X d_LW_law_486 d_LW_law_487 d_LW_law_488 (k := 1) (by decide) d_LW_law_489 d_LW_law_490 (by omega) ?_
  refine g_arg X d_LW_law_491 d_LW_law_492 d_LW_law_493 (k := 2) (by decide) d_LW_law_494 d_LW_law_495 (by omega) ?_
  refine ca_CT_caption X.1 d_LW_law_496 wlw_71 ⟨Nat.le_of_ble_eq_true rfl, Nat.le_of_ble_eq_true rfl⟩ (sum8 rfl) e1 ?_
  refine g_aload_n X.1 d_LW_law_499 1 rfl ?_
  refine g_arg X d_LW_law_500 d_LW_law_501 d_LW_law_502 (k := 1) (by decide) d_LW_law_503 d_LW_law_504 (by omega) ?_
  refine g_arg X d_LW_law_505 d_LW_law_506 d_LW_law_507 (k := 2) (by decide) d_LW_law_508 d_LW_law_509 (by omega) ?_
  refine ca_MO_caption X.1 d_LW_law_510 wlw_74 ⟨Nat.le_of_ble_eq_true rfl, Nat.le_of_ble_eq_true rfl⟩ (sum8 rfl) e2 ?_
  exact g_ic_eq X.1 d_LW_law_513 864 (by decide) (fun _ => K z hJ) (fun w9 => absurd rfl w9)
set_option maxRecDepth 10000 in
theorem lwc_14 (X : LX Γ p s m c kc ks b L xs) {i : Nat} (hin : i + 5 ≤ L) (hI : Inv σ) (K : ∀ σ1, Inv σ1 → G Γ p l e room_1 s m #[Value.ref b] below meth c kc ks Q 4 864 (lvL Γ b i) ([]) σ1) : G Γ p l e room_1 s m #[Value.ref b] below meth c kc ks Q 4 518 (lvL Γ b i) ([]) σ := by
  obtain ⟨r, y, z, e1, e2, hJ⟩ := Ok2.inv (op_letter (xs (i + 1)) (xs (i + 2))) hI
  refine g_aload_n X.1 d_LW_law_518 2 rfl ?_
  refine g_arg X d_LW_law_519 d_LW_law_520 d_LW_law_521 (k := 1) (by decide) d_LW_law_522 d_LW_law_523 (by omega) ?_
  refine g_arg X d_LW_law_524 d_LW_law_525 d_LW_law_526 (k := 2) (by decide) d_LW_law_527 d_LW_law_528 (by omega) ?_
  refine ca_CT_letter X.1 d_LW_law_529 wlw_75 ⟨Nat.le_of_ble_eq_true rfl, Nat.le_of_ble_eq_true rfl⟩ (sum8 rfl) e1 ?_
  refine g_aload_n X.1 d_LW_law_532 1 rfl ?_
  refine g_arg X d_LW_law_533 d_LW_law_534 d_LW_law_535 (k := 1) (by decide) d_LW_law_536 d_LW_law_537 (by omega) ?_
  refine g_arg X d_LW_law_538 d_LW_law_539 d_LW_law_540 (k := 2) (by decide) d_LW_law_541 d_LW_law_542 (by omega) ?_
  refine ca_MO_letter X.1 d_LW_law_543 wlw_78 ⟨Nat.le_of_ble_eq_true rfl, Nat.le_of_ble_eq_true rfl⟩ (sum8 rfl) e2 ?_
  exact g_ic_eq X.1 d_LW_law_546 864 (by decide) (fun _ => K z hJ) (fun w9 => absurd rfl w9)
set_option maxRecDepth 10000 in
theorem lwc_15 (X : LX Γ p s m c kc ks b L xs) {i : Nat} (hin : i + 5 ≤ L) (hI : Inv σ) (K : ∀ σ1, Inv σ1 → G Γ p l e room_1 s m #[Value.ref b] below meth c kc ks Q 4 864 (lvL Γ b i) ([]) σ1) : G Γ p l e room_1 s m #[Value.ref b] below meth c kc ks Q 4 551 (lvL Γ b i) ([]) σ := by
  obtain ⟨r, y, z, e1, e2, hJ⟩ := Ok2.inv (op_group (xs (i + 1)) (xs (i + 2))) hI
  refine g_aload_n X.1 d_LW_law_551 2 rfl ?_
  refine g_arg X d_LW_law_552 d_LW_law_553 d_LW_law_554 (k := 1) (by decide) d_LW_law_555 d_LW_law_556 (by omega) ?_
  refine g_arg X d_LW_law_557 d_LW_law_558 d_LW_law_559 (k := 2) (by decide) d_LW_law_560 d_LW_law_561 (by omega) ?_
  refine ca_CT_group X.1 d_LW_law_562 wlw_79 ⟨Nat.le_of_ble_eq_true rfl, Nat.le_of_ble_eq_true rfl⟩ (sum8 rfl) e1 ?_
  refine g_aload_n X.1 d_LW_law_565 1 rfl ?_
  refine g_arg X d_LW_law_566 d_LW_law_567 d_LW_law_568 (k := 1) (by decide) d_LW_law_569 d_LW_law_570 (by omega) ?_
  refine g_arg X d_LW_law_571 d_LW_law_572 d_LW_law_573 (k := 2) (by decide) d_LW_law_574 d_LW_law_575 (by omega) ?_
  refine ca_MO_group X.1 d_LW_law_576 wlw_82 ⟨Nat.le_of_ble_eq_true rfl, Nat.le_of_ble_eq_true rfl⟩ (sum8 rfl) e2 ?_
  exact g_ic_eq X.1 d_LW_law_579 864 (by decide) (fun _ => K z hJ) (fun w9 => absurd rfl w9)
set_option maxRecDepth 10000 in
theorem lwc_16 (X : LX Γ p s m c kc ks b L xs) {i : Nat} (hin : i + 5 ≤ L) (hI : Inv σ) (K : ∀ σ1, Inv σ1 → G Γ p l e room_1 s m #[Value.ref b] below meth c kc ks Q 4 864 (lvL Γ b i) ([]) σ1) : G Γ p l e room_1 s m #[Value.ref b] below meth c kc ks Q 4 584 (lvL Γ b i) ([]) σ := by
  obtain ⟨r, y, z, e1, e2, hJ⟩ := Ok2.inv (op_judged (xs (i + 1)) (xs (i + 2)) (xs (i + 3))) hI
  refine g_aload_n X.1 d_LW_law_584 2 rfl ?_
  refine g_arg X d_LW_law_585 d_LW_law_586 d_LW_law_587 (k := 1) (by decide) d_LW_law_588 d_LW_law_589 (by omega) ?_
  refine g_arg X d_LW_law_590 d_LW_law_591 d_LW_law_592 (k := 2) (by decide) d_LW_law_593 d_LW_law_594 (by omega) ?_
  refine g_arg X d_LW_law_595 d_LW_law_596 d_LW_law_597 (k := 3) (by decide) d_LW_law_598 d_LW_law_599 (by omega) ?_
  refine ca_CT_judged X.1 d_LW_law_600 wlw_83 ⟨Nat.le_of_ble_eq_true rfl, Nat.le_of_ble_eq_true rfl⟩ (sum8 rfl) e1 ?_
  refine g_aload_n X.1 d_LW_law_603 1 rfl ?_
  refine g_arg X d_LW_law_604 d_LW_law_605 d_LW_law_606 (k := 1) (by decide) d_LW_law_607 d_LW_law_608 (by omega) ?_
  refine g_arg X d_LW_law_609 d_LW_law_610 d_LW_law_611 (k := 2) (by decide) d_LW_law_612 d_LW_law_613 (by omega) ?_
  refine g_arg X d_LW_law_614 d_LW_law_615 d_LW_law_616 (k := 3) (by decide) d_LW_law_617 d_LW_law_618 (by omega) ?_
  refine ca_MO_judged X.1 d_LW_law_619 wlw_86 ⟨Nat.le_of_ble_eq_true rfl, Nat.le_of_ble_eq_true rfl⟩ (sum8 rfl) e2 ?_
  exact g_ic_eq X.1 d_LW_law_622 864 (by decide) (fun _ => K z hJ) (fun w9 => absurd rfl w9)
set_option maxRecDepth 10000 in
theorem lwc_17 (X : LX Γ p s m c kc ks b L xs) {i : Nat} (hin : i + 5 ≤ L) (hI : Inv σ) (K : ∀ σ1, Inv σ1 → G Γ p l e room_1 s m #[Value.ref b] below meth c kc ks Q 4 864 (lvL Γ b i) ([]) σ1) : G Γ p l e room_1 s m #[Value.ref b] below meth c kc ks Q 4 627 (lvL Γ b i) ([]) σ := by
  by_cases q9 : xs (i + 3) = nI 0
  · obtain ⟨r, y, z, e1, e2, hJ⟩ := Ok2.inv (op_ballot (xs (i + 1)) (xs (i + 2)) (nI 0)) hI
    refine g_aload_n X.1 d_LW_law_627 2 rfl ?_
    refine g_arg X d_LW_law_628 d_LW_law_629 d_LW_law_630 (k := 1) (by decide) d_LW_law_631 d_LW_law_632 (by omega) ?_
    refine g_arg X d_LW_law_633 d_LW_law_634 d_LW_law_635 (k := 2) (by decide) d_LW_law_636 d_LW_law_637 (by omega) ?_
    refine g_arg X d_LW_law_638 d_LW_law_639 d_LW_law_640 (k := 3) (by decide) d_LW_law_641 d_LW_law_642 (by omega) ?_
    refine g_if_eq X.1 d_LW_law_643 650 (by decide) (fun _ => ?_) (fun z => absurd q9 z)
    refine g_iconst X.1 d_LW_law_650 (v := nI 0) (by decide) ?_
    refine ca_CT_ballot X.1 d_LW_law_651 wlw_87 ⟨Nat.le_of_ble_eq_true rfl, Nat.le_of_ble_eq_true rfl⟩ (sum8 rfl) e1 ?_
    refine g_aload_n X.1 d_LW_law_654 1 rfl ?_
    refine g_arg X d_LW_law_655 d_LW_law_656 d_LW_law_657 (k := 1) (by decide) d_LW_law_658 d_LW_law_659 (by omega) ?_
    refine g_arg X d_LW_law_660 d_LW_law_661 d_LW_law_662 (k := 2) (by decide) d_LW_law_663 d_LW_law_664 (by omega) ?_
    refine g_arg X d_LW_law_665 d_LW_law_666 d_LW_law_667 (k := 3) (by decide) d_LW_law_668 d_LW_law_669 (by omega) ?_
    refine g_if_eq X.1 d_LW_law_670 677 (by decide) (fun _ => ?_) (fun z => absurd q9 z)
    refine g_iconst X.1 d_LW_law_677 (v := nI 0) (by decide) ?_
    refine ca_MO_ballot X.1 d_LW_law_678 wlw_91 ⟨Nat.le_of_ble_eq_true rfl, Nat.le_of_ble_eq_true rfl⟩ (sum8 rfl) e2 ?_
    exact g_ic_eq X.1 d_LW_law_681 864 (by decide) (fun _ => K z hJ) (fun w9 => absurd rfl w9)
  · obtain ⟨r, y, z, e1, e2, hJ⟩ := Ok2.inv (op_ballot (xs (i + 1)) (xs (i + 2)) (nI 1)) hI
    refine g_aload_n X.1 d_LW_law_627 2 rfl ?_
    refine g_arg X d_LW_law_628 d_LW_law_629 d_LW_law_630 (k := 1) (by decide) d_LW_law_631 d_LW_law_632 (by omega) ?_
    refine g_arg X d_LW_law_633 d_LW_law_634 d_LW_law_635 (k := 2) (by decide) d_LW_law_636 d_LW_law_637 (by omega) ?_
    refine g_arg X d_LW_law_638 d_LW_law_639 d_LW_law_640 (k := 3) (by decide) d_LW_law_641 d_LW_law_642 (by omega) ?_
    refine g_if_eq X.1 d_LW_law_643 650 (by decide) (fun z => absurd z q9) (fun _ => ?_)
    refine g_iconst X.1 d_LW_law_646 (v := nI 1) (by decide) ?_
    refine g_goto X.1 d_LW_law_647 651 (by decide) ?_
    refine ca_CT_ballot X.1 d_LW_law_651 wlw_87 ⟨Nat.le_of_ble_eq_true rfl, Nat.le_of_ble_eq_true rfl⟩ (sum8 rfl) e1 ?_
    refine g_aload_n X.1 d_LW_law_654 1 rfl ?_
    refine g_arg X d_LW_law_655 d_LW_law_656 d_LW_law_657 (k := 1) (by decide) d_LW_law_658 d_LW_law_659 (by omega) ?_
    refine g_arg X d_LW_law_660 d_LW_law_661 d_LW_law_662 (k := 2) (by decide) d_LW_law_663 d_LW_law_664 (by omega) ?_
    refine g_arg X d_LW_law_665 d_LW_law_666 d_LW_law_667 (k := 3) (by decide) d_LW_law_668 d_LW_law_669 (by omega) ?_
    refine g_if_eq X.1 d_LW_law_670 677 (by decide) (fun z => absurd z q9) (fun _ => ?_)
    refine g_iconst X.1 d_LW_law_673 (v := nI 1) (by decide) ?_
    refine g_goto X.1 d_LW_law_674 678 (by decide) ?_
    refine ca_MO_ballot X.1 d_LW_law_678 wlw_91 ⟨Nat.le_of_ble_eq_true rfl, Nat.le_of_ble_eq_true rfl⟩ (sum8 rfl) e2 ?_
    exact g_ic_eq X.1 d_LW_law_681 864 (by decide) (fun _ => K z hJ) (fun w9 => absurd rfl w9)
set_option maxRecDepth 10000 in
theorem lwc_18 (X : LX Γ p s m c kc ks b L xs) {i : Nat} (hin : i + 5 ≤ L) (hI : Inv σ) (K : ∀ σ1, Inv σ1 → G Γ p l e room_1 s m #[Value.ref b] below meth c kc ks Q 4 864 (lvL Γ b i) ([]) σ1) : G Γ p l e room_1 s m #[Value.ref b] below meth c kc ks Q 4 686 (lvL Γ b i) ([]) σ := by
  obtain ⟨r, y, z, e1, e2, hJ⟩ := Ok2.inv (op_ranked (xs (i + 1))) hI
  refine g_aload_n X.1 d_LW_law_686 2 rfl ?_
  refine g_arg X d_LW_law_687 d_LW_law_688 d_LW_law_689 (k := 1) (by decide) d_LW_law_690 d_LW_law_691 (by omega) ?_
  refine ca_CT_ranked X.1 d_LW_law_692 wlw_92 ⟨Nat.le_of_ble_eq_true rfl, Nat.le_of_ble_eq_true rfl⟩ (sum8 rfl) e1 ?_
  refine g_aload_n X.1 d_LW_law_695 1 rfl ?_
  refine g_arg X d_LW_law_696 d_LW_law_697 d_LW_law_698 (k := 1) (by decide) d_LW_law_699 d_LW_law_700 (by omega) ?_
  refine ca_MO_ranked X.1 d_LW_law_701 wlw_95 ⟨Nat.le_of_ble_eq_true rfl, Nat.le_of_ble_eq_true rfl⟩ (sum8 rfl) e2 ?_
  exact g_ic_eq X.1 d_LW_law_704 864 (by decide) (fun _ => K z hJ) (fun w9 => absurd rfl w9)
set_option maxRecDepth 10000 in
theorem lwc_19 (X : LX Γ p s m c kc ks b L xs) {i : Nat} (hin : i + 5 ≤ L) (hI : Inv σ) (K : ∀ σ1, Inv σ1 → G Γ p l e room_1 s m #[Value.ref b] below meth c kc ks Q 4 864 (lvL Γ b i) ([]) σ1) : G Γ p l e room_1 s m #[Value.ref b] below meth c kc ks Q 4 709 (lvL Γ b i) ([]) σ := by
  obtain ⟨r, y, z, e1, e2, hJ⟩ := Ok2.inv (op_round (xs (i + 1)) (xs (i + 2))) hI
  refine g_aload_n X.1 d_LW_law_709 2 rfl ?_
  refine g_arg X d_LW_law_710 d_LW_law_711 d_LW_law_712 (k := 1) (by decide) d_LW_law_713 d_LW_law_714 (by omega) ?_
  refine g_arg X d_LW_law_715 d_LW_law_716 d_LW_law_717 (k := 2) (by decide) d_LW_law_718 d_LW_law_719 (by omega) ?_
  refine ca_CT_round X.1 d_LW_law_720 wlw_96 ⟨Nat.le_of_ble_eq_true rfl, Nat.le_of_ble_eq_true rfl⟩ (sum8 rfl) e1 ?_
  refine g_aload_n X.1 d_LW_law_723 1 rfl ?_
  refine g_arg X d_LW_law_724 d_LW_law_725 d_LW_law_726 (k := 1) (by decide) d_LW_law_727 d_LW_law_728 (by omega) ?_
  refine g_arg X d_LW_law_729 d_LW_law_730 d_LW_law_731 (k := 2) (by decide) d_LW_law_732 d_LW_law_733 (by omega) ?_
  refine ca_MO_round X.1 d_LW_law_734 wlw_99 ⟨Nat.le_of_ble_eq_true rfl, Nat.le_of_ble_eq_true rfl⟩ (sum8 rfl) e2 ?_
  exact g_ic_eq X.1 d_LW_law_737 864 (by decide) (fun _ => K z hJ) (fun w9 => absurd rfl w9)
set_option maxRecDepth 10000 in
theorem lwc_20 (X : LX Γ p s m c kc ks b L xs) {i : Nat} (hin : i + 5 ≤ L) (hI : Inv σ) (K : ∀ σ1, Inv σ1 → G Γ p l e room_1 s m #[Value.ref b] below meth c kc ks Q 4 864 (lvL Γ b i) ([]) σ1) : G Γ p l e room_1 s m #[Value.ref b] below meth c kc ks Q 4 742 (lvL Γ b i) ([]) σ := by
  obtain ⟨r, y, z, e1, e2, hJ⟩ := Ok2.inv (op_distance (xs (i + 1)) (xs (i + 2))) hI
  refine g_aload_n X.1 d_LW_law_742 2 rfl ?_
  refine g_arg X d_LW_law_743 d_LW_law_744 d_LW_law_745 (k := 1) (by decide) d_LW_law_746 d_LW_law_747 (by omega) ?_
  refine g_arg X d_LW_law_748 d_LW_law_749 d_LW_law_750 (k := 2) (by decide) d_LW_law_751 d_LW_law_752 (by omega) ?_
  refine ca_CT_distance X.1 d_LW_law_753 wlw_100 ⟨Nat.le_of_ble_eq_true rfl, Nat.le_of_ble_eq_true rfl⟩ (sum8 rfl) e1 ?_
  refine g_aload_n X.1 d_LW_law_756 1 rfl ?_
  refine g_arg X d_LW_law_757 d_LW_law_758 d_LW_law_759 (k := 1) (by decide) d_LW_law_760 d_LW_law_761 (by omega) ?_
  refine g_arg X d_LW_law_762 d_LW_law_763 d_LW_law_764 (k := 2) (by decide) d_LW_law_765 d_LW_law_766 (by omega) ?_
  refine ca_MO_distance X.1 d_LW_law_767 wlw_103 ⟨Nat.le_of_ble_eq_true rfl, Nat.le_of_ble_eq_true rfl⟩ (sum8 rfl) e2 ?_
  exact g_ic_eq X.1 d_LW_law_770 864 (by decide) (fun _ => K z hJ) (fun w9 => absurd rfl w9)
set_option maxRecDepth 10000 in
theorem lwc_21 (X : LX Γ p s m c kc ks b L xs) {i : Nat} (hin : i + 5 ≤ L) (hI : Inv σ) (K : ∀ σ1, Inv σ1 → G Γ p l e room_1 s m #[Value.ref b] below meth c kc ks Q 4 864 (lvL Γ b i) ([]) σ1) : G Γ p l e room_1 s m #[Value.ref b] below meth c kc ks Q 4 775 (lvL Γ b i) ([]) σ := by
  obtain ⟨r, y, z, e1, e2, hJ⟩ := Ok2.inv (op_near (xs (i + 1)) (xs (i + 2))) hI
  refine g_aload_n X.1 d_LW_law_775 2 rfl ?_
  refine g_arg X d_LW_law_776 d_LW_law_777 d_LW_law_778 (k := 1) (by decide) d_LW_law_779 d_LW_law_780 (by omega) ?_
  refine g_arg X d_LW_law_781 d_LW_law_782 d_LW_law_783 (k := 2) (by decide) d_LW_law_784 d_LW_law_785 (by omega) ?_
  refine ca_CT_near X.1 d_LW_law_786 wlw_104 ⟨Nat.le_of_ble_eq_true rfl, Nat.le_of_ble_eq_true rfl⟩ (sum8 rfl) e1 ?_
  refine g_aload_n X.1 d_LW_law_789 1 rfl ?_
  refine g_arg X d_LW_law_790 d_LW_law_791 d_LW_law_792 (k := 1) (by decide) d_LW_law_793 d_LW_law_794 (by omega) ?_
  refine g_arg X d_LW_law_795 d_LW_law_796 d_LW_law_797 (k := 2) (by decide) d_LW_law_798 d_LW_law_799 (by omega) ?_
  refine ca_MO_near X.1 d_LW_law_800 wlw_107 ⟨Nat.le_of_ble_eq_true rfl, Nat.le_of_ble_eq_true rfl⟩ (sum8 rfl) e2 ?_
  exact g_ic_eq X.1 d_LW_law_803 864 (by decide) (fun _ => K z hJ) (fun w9 => absurd rfl w9)
set_option maxRecDepth 10000 in
theorem lwc_22 (X : LX Γ p s m c kc ks b L xs) {i : Nat} (hin : i + 5 ≤ L) (hI : Inv σ) (K : ∀ σ1, Inv σ1 → G Γ p l e room_1 s m #[Value.ref b] below meth c kc ks Q 4 864 (lvL Γ b i) ([]) σ1) : G Γ p l e room_1 s m #[Value.ref b] below meth c kc ks Q 4 808 (lvL Γ b i) ([]) σ := by
  obtain ⟨r, y, z, e1, e2, hJ⟩ := Ok2.inv (op_author (xs (i + 1)) (xs (i + 2))) hI
  refine g_aload_n X.1 d_LW_law_808 2 rfl ?_
  refine g_arg X d_LW_law_809 d_LW_law_810 d_LW_law_811 (k := 1) (by decide) d_LW_law_812 d_LW_law_813 (by omega) ?_
  refine g_arg X d_LW_law_814 d_LW_law_815 d_LW_law_816 (k := 2) (by decide) d_LW_law_817 d_LW_law_818 (by omega) ?_
  refine ca_CT_author X.1 d_LW_law_819 wlw_108 ⟨Nat.le_of_ble_eq_true rfl, Nat.le_of_ble_eq_true rfl⟩ (sum8 rfl) e1 ?_
  refine g_aload_n X.1 d_LW_law_822 1 rfl ?_
  refine g_arg X d_LW_law_823 d_LW_law_824 d_LW_law_825 (k := 1) (by decide) d_LW_law_826 d_LW_law_827 (by omega) ?_
  refine g_arg X d_LW_law_828 d_LW_law_829 d_LW_law_830 (k := 2) (by decide) d_LW_law_831 d_LW_law_832 (by omega) ?_
  refine ca_MO_author X.1 d_LW_law_833 wlw_111 ⟨Nat.le_of_ble_eq_true rfl, Nat.le_of_ble_eq_true rfl⟩ (sum8 rfl) e2 ?_
  exact g_ic_eq X.1 d_LW_law_836 864 (by decide) (fun _ => K z hJ) (fun w9 => absurd rfl w9)
set_option maxRecDepth 10000 in
theorem lwc_23 (X : LX Γ p s m c kc ks b L xs) {i : Nat} (hin : i + 5 ≤ L) (hI : Inv σ) (K : ∀ σ1, Inv σ1 → G Γ p l e room_1 s m #[Value.ref b] below meth c kc ks Q 4 864 (lvL Γ b i) ([]) σ1) : G Γ p l e room_1 s m #[Value.ref b] below meth c kc ks Q 4 841 (lvL Γ b i) ([]) σ := by
  obtain ⟨r, y, z, e1, e2, hJ⟩ := Ok2.inv (op_count (xs (i + 1))) hI
  refine g_aload_n X.1 d_LW_law_841 2 rfl ?_
  refine g_arg X d_LW_law_842 d_LW_law_843 d_LW_law_844 (k := 1) (by decide) d_LW_law_845 d_LW_law_846 (by omega) ?_
  refine ca_CT_count X.1 d_LW_law_847 wlw_112 ⟨Nat.le_of_ble_eq_true rfl, Nat.le_of_ble_eq_true rfl⟩ (sum8 rfl) e1 ?_
  refine g_aload_n X.1 d_LW_law_850 1 rfl ?_
  refine g_arg X d_LW_law_851 d_LW_law_852 d_LW_law_853 (k := 1) (by decide) d_LW_law_854 d_LW_law_855 (by omega) ?_
  refine ca_MO_count X.1 d_LW_law_856 wlw_115 ⟨Nat.le_of_ble_eq_true rfl, Nat.le_of_ble_eq_true rfl⟩ (sum8 rfl) e2 ?_
  exact g_ic_eq X.1 d_LW_law_859 864 (by decide) (fun _ => K z hJ) (fun w9 => absurd rfl w9)
theorem law_step (X : LX Γ p s m c kc ks b L xs) {i : Nat} (hi : i ≤ 2565) (hI : Inv σ) (K0 : G Γ p l e room_1 s m #[Value.ref b] below meth c kc ks Q 4 870 (lvL Γ b i) ([]) σ) (K : i + 5 ≤ L → ∀ σ1, Inv σ1 → G Γ p l e room_1 s m #[Value.ref b] below meth c kc ks Q 4 864 (lvL Γ b i) ([]) σ1) : G Γ p l e room_1 s m #[Value.ref b] below meth c kc ks Q 4 18 (lvL Γ b i) ([]) σ := by
  refine g_iload_n X.1 d_LW_law_18 0 rfl ?_
  refine g_aload_n X.1 d_LW_law_19 3 rfl ?_
  refine g_slen X d_LW_law_20 ?_
  refine g_iconst X.1 d_LW_law_21 (v := nI 5) (by decide) ?_
  refine g_isub X.1 d_LW_law_22 ?_
  refine g_ic_gt X.1 d_LW_law_23 870 (by decide) (fun _ => K0) (fun q => ?_)
  have hin : i + 5 ≤ L := Nat.le_of_not_lt (fun h => q (lw_lt X.2.2.2.2 hi h))
  refine g_aload_n X.1 d_LW_law_26 3 rfl ?_
  refine g_iload_n X.1 d_LW_law_27 0 rfl ?_
  refine g_sld X d_LW_law_28 (by omega) ?_
  refine g_bipush X.1 d_LW_law_29 (v := 31) rfl ?_
  refine g_iand X.1 d_LW_law_31 ?_
  generalize xs i &&& 31 = t
  by_cases q0 : t = nI 0
  · refine g_tsIn X.1 d_LW_law_32 144 (by rw [q0]; decide) (by rw [q0]; decide) (by rw [q0]; rfl) (by decide) ?_
    exact lwc_0 X hin hI (K hin)
  by_cases q1 : t = nI 1
  · refine g_tsIn X.1 d_LW_law_32 167 (by rw [q1]; decide) (by rw [q1]; decide) (by rw [q1]; rfl) (by decide) ?_
    exact lwc_1 X hin hI (K hin)
  by_cases q2 : t = nI 2
  · refine g_tsIn X.1 d_LW_law_32 190 (by rw [q2]; decide) (by rw [q2]; decide) (by rw [q2]; rfl) (by decide) ?_
    exact lwc_2 X hin hI (K hin)
  by_cases q3 : t = nI 3
  · refine g_tsIn X.1 d_LW_law_32 223 (by rw [q3]; decide) (by rw [q3]; decide) (by rw [q3]; rfl) (by decide) ?_
    exact lwc_3 X hin hI (K hin)
  by_cases q4 : t = nI 4
  · refine g_tsIn X.1 d_LW_law_32 246 (by rw [q4]; decide) (by rw [q4]; decide) (by rw [q4]; rfl) (by decide) ?_
    exact lwc_4 X hin hI (K hin)
  by_cases q5 : t = nI 5
  · refine g_tsIn X.1 d_LW_law_32 299 (by rw [q5]; decide) (by rw [q5]; decide) (by rw [q5]; rfl) (by decide) ?_
    exact lwc_5 X hin hI (K hin)
  by_cases q6 : t = nI 6
  · refine g_tsIn X.1 d_LW_law_32 342 (by rw [q6]; decide) (by rw [q6]; decide) (by rw [q6]; rfl) (by decide) ?_
    exact lwc_6 X hin hI (K hin)
  by_cases q7 : t = nI 7
  · refine g_tsIn X.1 d_LW_law_32 375 (by rw [q7]; decide) (by rw [q7]; decide) (by rw [q7]; rfl) (by decide) ?_
    exact lwc_7 X hin hI (K hin)
  by_cases q8 : t = nI 8
  · refine g_tsIn X.1 d_LW_law_32 408 (by rw [q8]; decide) (by rw [q8]; decide) (by rw [q8]; rfl) (by decide) ?_
    exact lwc_8 X hin hI (K hin)
  by_cases q9 : t = nI 9
  · refine g_tsIn X.1 d_LW_law_32 433 (by rw [q9]; decide) (by rw [q9]; decide) (by rw [q9]; rfl) (by decide) ?_
    exact lwc_9 X hin hI (K hin)
  by_cases q10 : t = nI 10
  · refine g_tsIn X.1 d_LW_law_32 446 (by rw [q10]; decide) (by rw [q10]; decide) (by rw [q10]; rfl) (by decide) ?_
    exact lwc_10 X hin hI (K hin)
  by_cases q11 : t = nI 11
  · refine g_tsIn X.1 d_LW_law_32 459 (by rw [q11]; decide) (by rw [q11]; decide) (by rw [q11]; rfl) (by decide) ?_
    exact lwc_11 X hin hI (K hin)
  by_cases q12 : t = nI 12
  · refine g_tsIn X.1 d_LW_law_32 472 (by rw [q12]; decide) (by rw [q12]; decide) (by rw [q12]; rfl) (by decide) ?_
    exact lwc_12 X hin hI (K hin)
  by_cases q13 : t = nI 13
  · refine g_tsIn X.1 d_LW_law_32 485 (by rw [q13]; decide) (by rw [q13]; decide) (by rw [q13]; rfl) (by decide) ?_
    exact lwc_13 X hin hI (K hin)
  by_cases q14 : t = nI 14
  · refine g_tsIn X.1 d_LW_law_32 518 (by rw [q14]; decide) (by rw [q14]; decide) (by rw [q14]; rfl) (by decide) ?_
    exact lwc_14 X hin hI (K hin)
  by_cases q15 : t = nI 15
  · refine g_tsIn X.1 d_LW_law_32 551 (by rw [q15]; decide) (by rw [q15]; decide) (by rw [q15]; rfl) (by decide) ?_
    exact lwc_15 X hin hI (K hin)
  by_cases q16 : t = nI 16
  · refine g_tsIn X.1 d_LW_law_32 584 (by rw [q16]; decide) (by rw [q16]; decide) (by rw [q16]; rfl) (by decide) ?_
    exact lwc_16 X hin hI (K hin)
  by_cases q17 : t = nI 17
  · refine g_tsIn X.1 d_LW_law_32 627 (by rw [q17]; decide) (by rw [q17]; decide) (by rw [q17]; rfl) (by decide) ?_
    exact lwc_17 X hin hI (K hin)
  by_cases q18 : t = nI 18
  · refine g_tsIn X.1 d_LW_law_32 686 (by rw [q18]; decide) (by rw [q18]; decide) (by rw [q18]; rfl) (by decide) ?_
    exact lwc_18 X hin hI (K hin)
  by_cases q19 : t = nI 19
  · refine g_tsIn X.1 d_LW_law_32 709 (by rw [q19]; decide) (by rw [q19]; decide) (by rw [q19]; rfl) (by decide) ?_
    exact lwc_19 X hin hI (K hin)
  by_cases q20 : t = nI 20
  · refine g_tsIn X.1 d_LW_law_32 742 (by rw [q20]; decide) (by rw [q20]; decide) (by rw [q20]; rfl) (by decide) ?_
    exact lwc_20 X hin hI (K hin)
  by_cases q21 : t = nI 21
  · refine g_tsIn X.1 d_LW_law_32 775 (by rw [q21]; decide) (by rw [q21]; decide) (by rw [q21]; rfl) (by decide) ?_
    exact lwc_21 X hin hI (K hin)
  by_cases q22 : t = nI 22
  · refine g_tsIn X.1 d_LW_law_32 808 (by rw [q22]; decide) (by rw [q22]; decide) (by rw [q22]; rfl) (by decide) ?_
    exact lwc_22 X hin hI (K hin)
  by_cases q23 : t = nI 23
  · refine g_tsIn X.1 d_LW_law_32 841 (by rw [q23]; decide) (by rw [q23]; decide) (by rw [q23]; rfl) (by decide) ?_
    exact lwc_23 X hin hI (K hin)
  refine g_tsOut X.1 d_LW_law_32 864 (ts_out 24 (by decide) (fun k hk => by rcases (show k = 0 ∨ k = 1 ∨ k = 2 ∨ k = 3 ∨ k = 4 ∨ k = 5 ∨ k = 6 ∨ k = 7 ∨ k = 8 ∨ k = 9 ∨ k = 10 ∨ k = 11 ∨ k = 12 ∨ k = 13 ∨ k = 14 ∨ k = 15 ∨ k = 16 ∨ k = 17 ∨ k = 18 ∨ k = 19 ∨ k = 20 ∨ k = 21 ∨ k = 22 ∨ k = 23 by omega) with rfl | rfl | rfl | rfl | rfl | rfl | rfl | rfl | rfl | rfl | rfl | rfl | rfl | rfl | rfl | rfl | rfl | rfl | rfl | rfl | rfl | rfl | rfl | rfl <;> assumption)) (by decide) ?_
  exact K hin σ hI
end LAW
