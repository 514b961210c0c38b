section LAW2
variable {Γ : Gm} {p : Program} {l : Launch} {e : Env} {s : State} {m : MethodId} {below : List Frame} {meth : Method} {c : Code} {kc ks b L : Nat} {xs : Nat → Int32}
theorem law_loop (X : LX Γ p s m c kc ks b L xs) (hr : meth.sig.returnType = ret) (hlk : meth.locks = false) (hkc : kc ≤ 600000) (hks : ks ≤ 7302250) : ∀ (n i : Nat), L ≤ n + i → i ≤ 2565 → ∀ σ : Sg, Inv σ → G Γ p l e room_1 s m #[Value.ref b] below meth c kc ks (lw_Z below #[Value.ref b] s) 4 18 (lvL Γ b i) [] σ := by
  have fin : ∀ (i : Nat) (σ : Sg), G Γ p l e room_1 s m #[Value.ref b] below meth c kc ks (lw_Z below #[Value.ref b] s) 4 870 (lvL Γ b i) [] σ := by
    intro i σ
    refine g_iconst X.1 d_LW_law_870 (v := 1) rfl ?_
    intro H locs ls hP hS hl
    refine va_forget (fun q hq => by have h := hS.2.2 q hq; rw [X.2.2.2.1] at h; exact h) ?_
    refine W.widen (k := 600000) (n := 7302250) hkc hks ?_
    exact lw_ret X.1.1 X.1.2.1 hr hlk d_LW_law_871
  intro n
  induction n with
  | zero =>
    intro i h1 h2 σ hI
    exact law_step X h2 hI (fin i σ) (fun h => absurd h (by omega))
  | succ n ih =>
    intro i h1 h2 σ hI
    refine law_step X h2 hI (fin i σ) (fun h σ1 hI1 => ?_)
    refine g_iinc X.1 d_LW_law_864 (j := 0) (v := nI (i + 5)) (lv' := lvL Γ b (i + 5)) rfl (nI_add i 5) (Nat.le_of_ble_eq_true rfl) rfl ?_
    refine g_goto X.1 d_LW_law_867 18 (by decide) ?_
    have hL := X.2.2.2.2
    exact ih (i + 5) (by omega) (by omega) σ1 hI1
end LAW2
set_option maxHeartbeats 4000000 in
set_option maxRecDepth 20000 in
/-- YOUR PART: from the entry, for every script of at most 2560 ints, the law comes to its end with true -/
theorem whole_start {p : Program} {e : Env} {s : State} {m : MethodId} {below : List Frame} {meth : Method} {c : Code} (l : Launch) (hflags : l.flags = flags0) {b L : Nat} {xs : Nat → Int32} (hL : L ≤ 2560) (C0 : lw_At p s m meth c b L xs) : W p l e room_1 s m #[Value.ref b] below meth c s.heap [] 0 0 (lw_Z below #[Value.ref b] s) (entryFrame m ([Value.ref b] : List Value).toArray 4) := by
  obtain ⟨hx, hb, hr, hml, hown, hts, hX, hbl, hlocks, hgv⟩ := id C0
  have htg : ∀ w ∈ lw_gt, w.before #[Value.ref b] s = true := fun w hw => hts w (lw_gts w hw)
  obtain ⟨c0, i0, k0⟩ := u_known (C := N_CT) (T := T_CT) (N := 12) (n := 12) htg in_CT (htg _ wv_in_CT)
  obtain ⟨c1, i1, k1⟩ := u_known (C := N_DR) (T := T_DR) (N := 2) (n := 2) htg in_DR (htg _ wv_in_DR)
  obtain ⟨c2, i2, k2⟩ := u_known (C := N_ST) (T := T_ST) (N := 13) (n := 13) htg in_ST (htg _ wv_in_ST)
  obtain ⟨c3, i3, k3⟩ := u_known (C := N_HI) (T := T_HI) (N := 2) (n := 2) htg in_HI (htg _ wv_in_HI)
  obtain ⟨c4, i4, k4⟩ := u_known (C := N_GR) (T := T_GR) (N := 3) (n := 3) htg in_GR (htg _ wv_in_GR)
  obtain ⟨c5, i5, k5⟩ := u_known (C := N_CO) (T := T_CO) (N := 3) (n := 3) htg in_CO (htg _ wv_in_CO)
  obtain ⟨c6, i6, k6⟩ := u_known (C := N_RA) (T := T_RA) (N := 3) (n := 3) htg in_RA (htg _ wv_in_RA)
  obtain ⟨c7, i7, k7⟩ := u_known (C := N_RO) (T := T_RO) (N := 7) (n := 7) htg in_RO (htg _ wv_in_RO)
  obtain ⟨c8, i8, k8⟩ := u_known (C := N_OR) (T := T_OR) (N := 4) (n := 4) htg in_OR (htg _ wv_in_OR)
  obtain ⟨c9, i9, k9⟩ := u_known (C := N_SH) (T := T_SH) (N := 2) (n := 2) htg in_SH (htg _ wv_in_SH)
  obtain ⟨c10, i10, k10⟩ := u_known (C := N_DI) (T := T_DI) (N := 2) (n := 2) htg in_DI (htg _ wv_in_DI)
  obtain ⟨c11, i11, k11⟩ := u_known (C := N_MO) (T := T_MO) (N := 24) (n := 24) htg in_MO (htg _ wv_in_MO)
  obtain ⟨D, hD0⟩ : ∃ D : va_G, ∀ (k : Nat) (q : vw_C), z_cl[k]? = some q → u_Kn s q.1 q.2.1 q.2.2 (D.1 k) (D.2 k) := by
    refine ⟨(fun k => ([c0, c1, c2, c3, c4, c5, c6, c7, c8, c9, c10, c11] : List ClassId).getD k c0, fun k => ([i0, i1, i2, i3, i4, i5, i6, i7, i8, i9, i10, i11] : List (Nat → Nat)).getD k i0), fun k q hq => ?_⟩
    have hk : k < 12 := (List.getElem?_eq_some_iff.mp hq).1
    rcases (show k = 0 ∨ k = 1 ∨ k = 2 ∨ k = 3 ∨ k = 4 ∨ k = 5 ∨ k = 6 ∨ k = 7 ∨ k = 8 ∨ k = 9 ∨ k = 10 ∨ k = 11 by omega) with rfl | rfl | rfl | rfl | rfl | rfl | rfl | rfl | rfl | rfl | rfl | rfl <;> (cases hq; assumption)
  obtain ⟨cI, aI1, aI2⟩ := v_arP (htg _ wv_aI) (fun C q => by cases q)
  obtain ⟨cZ, aZ1, aZ2⟩ := v_arP (htg _ wv_aZ) (fun C q => by cases q)
  obtain ⟨cS, aS1, aS2⟩ := v_arO (C := N_ST) (hts _ wt_aQ)
  obtain ⟨T3, hT3⟩ : ∃ T3 : C3, T3 = (cI, cZ, cS) := ⟨_, rfl⟩
  have hK : va_K D z_cl (tyI T3) s := by
    subst hT3
    refine ⟨hD0, fun k q hq => ?_⟩
    have hk : k < 3 := (List.getElem?_eq_some_iff.mp hq).1
    rcases (show k = 0 ∨ k = 1 ∨ k = 2 by omega) with rfl | rfl | rfl
    · cases hq; exact ⟨aI1, aI2⟩
    · cases hq; exact ⟨aZ1, aZ2⟩
    · cases hq; exact ⟨aS1, aS2⟩
  have hN : zN s := fun q hq => va_Nw.of rfl (hts _ (wt_all q hq))
  have X : XI D T3 (fun q : Nat => s.heap.size ≤ q) p s m #[Value.ref b] c code 4 "CaptionTalliesLaw" := ⟨hx, hb, hml, hown, htg, hK, fun _ h => h, va_AO.of (hts _ wt_aQ)⟩
  have k : VI D (fun q : Nat => s.heap.size ≤ q) p l e room_1 s m #[Value.ref b] below meth c 0 0 (lw_Z below #[Value.ref b] s) 4 0 [(0, .ref b)] [] [] := by
    refine v_new X d_LW_law_0 (ci := 0) (C := N_CT) (T := T_CT) (N := 12) (fs := [.null, .null, .null, .null, .int 0, .null, .null, .null, .null, .null, .null, .null]) rfl in_CT to_CT wv_LW_7 wv_in_CT wi_CT df_CT ⟨Nat.le_of_ble_eq_true rfl, Nat.le_of_ble_eq_true rfl⟩ (fun q1 => ?_)
    refine v_dup X d_LW_law_3 rfl ?_
    refine v_call X ctor_CT wk_CT rfl d_LW_law_4 wv_LW_9 wv_im_CT ⟨Nat.le_of_ble_eq_true rfl, Nat.le_of_ble_eq_true rfl⟩ ⟨Nat.le_of_ble_eq_true rfl, Nat.le_of_ble_eq_true rfl⟩ (Nat.le_of_ble_eq_true rfl) (ws1 := fun u => bCT T3 u) (fun _ => rfl) (fun u eu => ?_)
    subst eu
    refine v_astore_n X d_LW_law_7 rfl (lv' := [(1, .ref (u 0)), (0, .ref b)]) (Nat.le_of_ble_eq_true rfl) rfl ?_
    refine v_new X d_LW_law_8 (ci := 11) (C := N_MO) (T := T_MO) (N := 24) (fs := [.null, .null, .null, .null, .int 0, .int 0, .int 0, .null, .null, .null, .null, .null, .null, .null, .null, .null, .null, .null, .null, .null, .null, .null, .null, .int 0]) rfl in_MO to_MO wv_LW_10 wv_in_MO wi_MO df_MO ⟨Nat.le_of_ble_eq_true rfl, Nat.le_of_ble_eq_true rfl⟩ (fun q2 => ?_)
    refine v_dup X d_LW_law_11 rfl ?_
    refine v_call X ctor_MO wk_MO rfl d_LW_law_12 wv_LW_12 wv_im_MO ⟨Nat.le_of_ble_eq_true rfl, Nat.le_of_ble_eq_true rfl⟩ ⟨Nat.le_of_ble_eq_true rfl, Nat.le_of_ble_eq_true rfl⟩ (Nat.le_of_ble_eq_true rfl) (ws1 := fun v => bAll T3 u v) (fun _ => rfl) (fun v ev => ?_)
    subst ev
    refine v_astore_n X d_LW_law_15 rfl (lv' := [(2, .ref (v 0)), (1, .ref (u 0)), (0, .ref b)]) (Nat.le_of_ble_eq_true rfl) rfl ?_
    refine v_iconst X d_LW_law_16 (v := nI 0) (by decide) ?_
    refine v_istore_n X d_LW_law_17 rfl (lv' := [(3, .int (nI 0)), (2, .ref (v 0)), (1, .ref (u 0)), (0, .ref b)]) (Nat.le_of_ble_eq_true rfl) rfl ?_
    rw [bAll_eq]
    intro H locs ls hP hD hS hl
    exact law_loop (Γ := (D, T3, adW u v, s.heap.size)) ⟨⟨hx, hb, hml, hown, htg, ⟨hK, start_D hD⟩, Nat.le_refl _, Nat.le_of_ble_eq_true rfl, Nat.le_of_ble_eq_true rfl, hN⟩, hX, hbl, rfl, hL⟩ hr hlocks (Nat.le_of_ble_eq_true rfl) (Nat.le_of_ble_eq_true rfl) L 0 (by omega) (by omega) s0 inv_s0 H locs ls (start_P hP) hS hl
  rw [lg_entry_eq]
  exact k s.heap [] _ (fun k q h => by simp at h) ⟨fun i j p q h => by simp at h, fun k q h => by simp at h⟩ va_S.rf (lv_entry [.ref b] (n := 4) (Nat.le_of_ble_eq_true rfl))
