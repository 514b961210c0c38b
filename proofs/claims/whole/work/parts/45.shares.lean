/-! portions, prizes, blocks of the order; the class's shares -/
def por (a s i : Nat) : Nat := a / s + b2n (decide (i < a % s))
def pz (N : Rw) (q : Nat) : Nat := if q < stt N 1 then prz N q else 0
noncomputable def td (N : Rw) (k : Nat) : Nat := tdb N k 20
noncomputable def pot (N : Rw) (k : Nat) : Nat := sm (fun i => pz N (ahc N k + i)) (td N k)
noncomputable def ogr (N : Rw) (k : Nat) : Nat := if isHd N k = true then por (pot N k) (td N k) (tdb N k k) else 0
noncomputable def mem (N : Rw) (k c : Nat) : Bool := inn N c && decide (hd N c = k)
noncomputable def mb (N : Rw) (k b : Nat) : Nat := cnt (mem N k) b
noncomputable def ocp (N : Rw) (c : Nat) : Nat := if inn N c = true then por (ogr N (hd N c)) (mb N (hd N c) 20) (mb N (hd N c) c) else 0
theorem nz_n {s : Nat} (h0 : 0 < s) (hs : s < 2147483648) : nz (nI s) = true := by
  unfold nz
  rw [decide_eq_false (fun q => by have := (nI_eq (a := s) (b := 0) hs (by decide)).mp q; omega)]
  rfl
theorem nI_div {a s : Nat} (ha : a < 2147483648) (h0 : 0 < s) (hs : s < 2147483648) : nI a / nI s = nI (a / s) := pk_div ha h0 hs
theorem nI_rem {a s : Nat} (ha : a < 2147483648) (h0 : 0 < s) (hs : s < 2147483648) : irm (nI a) (nI s) = nI (a % s) := pk_rem ha h0 hs
theorem por_le {a s i : Nat} : por a s i ≤ a + 1 := by
  have h1 := Nat.div_le_self a s
  have h2 := b2n_le (decide (i < a % s))
  unfold por
  omega
theorem por_sum (p : Nat → Bool) (a s : Nat) : ∀ n, sm (fun c => if p c = true then por a s (cnt p c) else 0) n = cnt p n * (a / s) + min (cnt p n) (a % s) := by
  intro n
  induction n with
  | zero => rw [show cnt p 0 = 0 from rfl, Nat.zero_mul]; show 0 = 0 + min 0 _; omega
  | succ n ih =>
    rw [sm, ih, cnt_s]
    cases q : p n
    · rw [if_neg (by decide), b2n_f]; rfl
    · rw [if_pos rfl, b2n_t, Nat.add_mul, Nat.one_mul]
      unfold por
      by_cases z : cnt p n < a % s
      · rw [decide_eq_true z, b2n_t]; omega
      · rw [decide_eq_false z, b2n_f]; omega
theorem por_all (p : Nat → Bool) (a n : Nat) (h0 : 0 < cnt p n) : sm (fun c => if p c = true then por a (cnt p n) (cnt p c) else 0) n = a := by
  rw [por_sum]
  have h1 := Nat.div_add_mod a (cnt p n)
  have h2 := Nat.mod_lt a h0
  rw [Nat.min_eq_right (by omega)]
  omega
theorem cnt_pos {p : Nat → Bool} {n k : Nat} (hk : k < n) (h : p k = true) : 0 < cnt p n := by
  have h1 := sm_mono (fun i => b2n (p i)) (show k + 1 ≤ n by omega)
  have h2 : sm (fun i => b2n (p i)) (k + 1) = sm (fun i => b2n (p i)) k + b2n (p k) := rfl
  rw [h, b2n_t] at h2
  unfold cnt
  omega
theorem mb_pos {N : Rw} {k : Nat} (hk : isHd N k = true) : 0 < mb N k 20 := by
  have h := (isHd_iff N k).mp hk
  exact cnt_pos (hd_lt20 hk) (by unfold mem; rw [h.1, decide_eq_true h.2]; rfl)
theorem td_pos {N : Rw} {k : Nat} (hk : isHd N k = true) : 0 < td N k := cnt_pos (hd_lt20 hk) (by rw [hk, decide_eq_true rfl]; rfl)
theorem tdb_lt {N : Rw} {k : Nat} (hk : isHd N k = true) : tdb N k k < td N k := by
  have h1 : cnt (fun x => isHd N x && decide (kz N x = kz N k)) (k + 1) ≤ cnt (fun x => isHd N x && decide (kz N x = kz N k)) 20 := sm_mono _ (show k + 1 ≤ 20 by have := hd_lt20 hk; omega)
  rw [cnt_s, hk, decide_eq_true rfl, show b2n (true && true) = 1 from rfl] at h1
  show cnt (fun x => isHd N x && decide (kz N x = kz N k)) k < cnt (fun x => isHd N x && decide (kz N x = kz N k)) 20
  omega
theorem blk {N : Rw} {x k : Nat} (h : kz N k < kz N x) : ahc N x + td N x ≤ ahc N k := by
  unfold ahc td tdb
  rw [← cnt_or]
  · refine cnt_mono (fun i hi q => ?_)
    simp [ahd] at q ⊢
    rcases q with ⟨q1, q2⟩ | ⟨q1, q2⟩ <;> exact ⟨q1, by omega⟩
  · intro i hi q
    simp [ahd] at q
    omega
theorem blk_eq {N : Rw} {x k : Nat} (h : kz N x = kz N k) : ahc N x = ahc N k ∧ td N x = td N k ∧ pot N x = pot N k := by
  have e1 : ahc N x = ahc N k := by unfold ahc ahd; rw [h]
  have e2 : td N x = td N k := by unfold td tdb; rw [h]
  exact ⟨e1, e2, by unfold pot; rw [e1, e2]⟩
theorem blk_iff {N : Rw} {x k : Nat} (hx : isHd N x = true) (hk : isHd N k = true) : kz N x = kz N k ↔ ahc N k ≤ idx N x ∧ idx N x < ahc N k + td N k := by
  have h1 := tdb_lt hx
  constructor
  · intro h
    obtain ⟨e1, e2, -⟩ := blk_eq h
    unfold idx
    omega
  · rintro ⟨h2, h3⟩
    have e : idx N x = ahc N x + tdb N x x := rfl
    rcases Int.lt_trichotomy (kz N x) (kz N k) with q | q | q
    · have := blk q; omega
    · exact q
    · have := blk q; omega
theorem pla_iff {N : Rw} {x k : Nat} (hx : isHd N x = true) (hk : isHd N k = true) : pla N x = pla N k ↔ kz N x = kz N k := by
  have h1 := td_pos hx
  have h2 := td_pos hk
  constructor
  · intro h
    unfold pla at h
    rcases Int.lt_trichotomy (kz N x) (kz N k) with q | q | q
    · have := blk q; omega
    · exact q
    · have := blk q; omega
  · intro h
    unfold pla
    rw [(blk_eq h).1]
theorem td_le (N : Rw) (k : Nat) : td N k ≤ 20 := tdb_le N k 20
theorem mb_le (N : Rw) (k b : Nat) : mb N k b ≤ b := cnt_le _ _
theorem pz_le {N : Rw} (hN : InvN N) (q : Nat) : pz N q ≤ 999 := by
  unfold pz
  by_cases z : q < stt N 1
  · rw [if_pos z]
    have h5 : stt N 1 ≤ 5 := hN.2.2.2.2.2.2.2.2.2.2.2.1.2.1
    exact (hN.2.2.2.2.2.2.2.2.2.2.2.2 q (by omega)).2
  · rw [if_neg z]; omega
theorem pot_n {N : Rw} (hN : InvN N) (k n : Nat) : sm (fun i => pz N (ahc N k + i)) n ≤ 999 * n := sm_le (fun i _ => pz_le hN _)
theorem pot_le {N : Rw} (hN : InvN N) (k : Nat) : pot N k ≤ 19980 := by
  have h1 := pot_n hN k (td N k)
  have h2 := td_le N k
  unfold pot
  omega
theorem ogr_le {N : Rw} (hN : InvN N) (k : Nat) : ogr N k ≤ 19981 := by
  unfold ogr
  by_cases q : isHd N k = true
  · rw [if_pos q]
    have h1 := por_le (a := pot N k) (s := td N k) (i := tdb N k k)
    have h2 := pot_le hN k
    omega
  · rw [if_neg q]; omega
theorem ocp_le {N : Rw} (hN : InvN N) (c : Nat) : ocp N c ≤ 19982 := by
  unfold ocp
  by_cases q : inn N c = true
  · rw [if_pos q]
    have h1 := por_le (a := ogr N (hd N c)) (s := mb N (hd N c) 20) (i := mb N (hd N c) c)
    have h2 := ogr_le hN (hd N c)
    omega
  · rw [if_neg q]; omega
/-- all prizes are shared out among captions as among groups -/
theorem ogr_sum {N : Rw} {k : Nat} (hk : isHd N k = true) : sm (fun c => if mem N k c = true then ocp N c else 0) 20 = ogr N k := by
  have h := por_all (mem N k) (ogr N k) 20 (mb_pos hk)
  refine Eq.trans (sm_cong (fun i hi => ?_)) h
  by_cases q : mem N k i = true
  · rw [if_pos q, if_pos q]
    have q2 : inn N i = true ∧ hd N i = k := by simpa [mem] using q
    unfold ocp
    rw [if_pos q2.1, q2.2]
    rfl
  · rw [if_neg q, if_neg q]
theorem ogr_cut (N : Rw) : ∀ n, sm (fun k => sm (fun c => if mem N k c = true then ocp N c else 0) 20) n = sm (fun c => if inn N c = true ∧ hd N c < n then ocp N c else 0) 20 := by
  intro n
  induction n with
  | zero =>
    rw [sm_cong (p := fun c => if inn N c = true ∧ hd N c < 0 then ocp N c else 0) (q := fun _ => 0) (fun i hi => if_neg (fun z => absurd z.2 (Nat.not_lt_zero _)))]
    rfl
  | succ n ih =>
    rw [sm, ih, ← sm_add]
    refine sm_cong (fun i hi => ?_)
    cases q : inn N i
    · have e : mem N n i = false := by unfold mem; rw [q]; rfl
      rw [e]
      simp
    · by_cases z : hd N i = n
      · have e : mem N n i = true := by unfold mem; rw [q, decide_eq_true z]; rfl
        rw [e, if_pos rfl, if_neg (fun w => by omega), if_pos ⟨rfl, by omega⟩]; omega
      · have e : mem N n i = false := by unfold mem; rw [decide_eq_false z, Bool.and_false]
        rw [e, if_neg (show ¬ (false = true) by decide)]
        by_cases w : hd N i < n
        · rw [if_pos ⟨rfl, w⟩, if_pos ⟨rfl, by omega⟩]; rfl
        · rw [if_neg (fun u => w u.2), if_neg (fun u => by omega)]
theorem ogr_tot {N : Rw} (hN : InvN N) : sm (fun k => if isHd N k = true then ogr N k else 0) 20 = sm (fun c => ocp N c) 20 := by
  have h := ogr_cut N 20
  refine Eq.trans (sm_cong (fun i hi => ?_)) (h.trans (sm_cong (fun i hi => ?_)))
  · by_cases q : isHd N i = true
    · rw [if_pos q, ogr_sum q]
    · rw [if_neg q]
      refine ((sm_out (m := 0) (Nat.zero_le 20) (fun c _ hc => ?_)).trans rfl).symm
      refine if_neg (fun w => q ?_)
      have w2 : inn N c = true ∧ hd N c = i := by simpa [mem] using w
      rw [← w2.2]
      exact hd_isHd hN w2.1
  · cases q : inn N i
    · rw [if_neg (fun w => by cases w.1)]; unfold ocp; rw [q]; rfl
    · have := hd_le N i
      rw [if_pos ⟨rfl, by omega⟩]
section SH1
variable {σ : Sg} {N : Rw}
theorem s_portion {a s i : Nat} (ha : a < 1000000) (h0 : 0 < s) (hs : s < 1000) (hi : i < 1000) : f_CT_portion (nI a) (nI s) (nI i) σ = some (nI (por a s i), σ) := by
  have h1 := Nat.div_le_self a s
  have h2 := Nat.mod_lt a h0
  unfold f_CT_portion
  rw [if_pos ((nI_leI (by decide) (by omega)).mpr h0), nz_n h0 (by omega), gd_t, nI_rem (by omega) h0 (by omega), lt', gd_t, nI_div (by omega) h0 (by omega)]
  unfold por
  by_cases z : i < a % s
  · rw [if_neg (nI_ge z (by omega)), nI_add, decide_eq_true z]; rfl
  · rw [if_pos ((nI_leI (by omega) (by omega)).mpr (by omega)), nI_add, decide_eq_false z]; rfl
theorem s_prizeGiven (h : QS σ N) {p : Nat} (hp : p < 1000) : f_ST_prizeGivenAt (nI (p + 1)) σ = some (nI (pz N p), σ) := by
  have h5 : stt N 1 ≤ 5 := h.2.1.2.2.2.2.2.2.2.2.2.2.2.1.2.1
  unfold f_ST_prizeGivenAt
  rw [r_setting h (by decide), bd_s, mI_sub, mI_s (by omega), show p + 1 - 1 = p by omega, s_idxN _ _ _ (by omega) (by omega), bd_s]
  unfold pz
  by_cases z : p < stt N 1
  · rw [decide_eq_true z, if_neg (by decide), if_pos z]
    unfold f_ST_prizeOf
    rw [mI_sub, mI_s (by omega), show p + 1 - 1 = p by omega, s_at _ _ _ _ (by omega) (by decide), bd_s, bd_s, show σ 12 p = nI (prz N p) from (h.2.2.2.2.2.2.2.2.2.2.2.2.2.2 p (by omega)).trans (h.2.1.2.2.2.2.2.2.2.2.2.2.2.2 p (by omega)).1]
  · rw [decide_eq_false z, if_pos (by decide), if_neg z]
theorem s_together (h : QS σ N) {k : Nat} : f_SH_prizesTogether (nI (pla N k)) (nI (td N k)) σ = some (nI (pot N k), σ) := by
  have ht := td_le N k
  have ha := ahc_le N k
  unfold f_SH_prizesTogether
  refine lpS (fun n i y => f_SH_prizesTogether_5 n (nI (pla N k)) (nI (td N k)) (nI y) (nI i) σ) (td N k) (fun i => pz N (ahc N k + i)) (fun y => some (nI y, σ)) ?_ ?_ FU (by unfold FU; omega)
  · intro n i y hi hy
    show f_SH_prizesTogether_5 (n + 1) (nI (pla N k)) (nI (td N k)) (nI y) (nI i) σ = _
    rw [f_SH_prizesTogether_5, if_neg (nI_ge hi (by omega)), if_neg (nI_ge (by omega) (by decide)), nI_add, show pla N k + i = (ahc N k + i) + 1 by unfold pla; omega, s_prizeGiven h (by omega), bd_s, nI_add, lt', nI_add]
  · intro n
    show f_SH_prizesTogether_5 (n + 1) (nI (pla N k)) (nI (td N k)) _ (nI (td N k)) σ = _
    rw [f_SH_prizesTogether_5, if_pos (Int32.le_refl _)]
theorem s_placeOf (ho : OAll N σ) {k : Nat} (hk : isHd N k = true) : f_OR_placeOf (nI k) σ = some (nI (pla N k), σ) := by
  have hk20 := hd_lt20 hk
  unfold f_OR_placeOf
  rw [s_at _ _ _ _ hk20 (by decide), bd_s, ((ho.2 k hk20).1 hk).1]
theorem s_tiedWith (ho : OAll N σ) {k : Nat} (hk : isHd N k = true) : f_OR_tiedWith (nI k) σ = some (nI (td N k), σ) := by
  unfold f_OR_tiedWith
  rw [s_tiedBelow ho.1 hk (Nat.le_refl _), bd_s]
  rfl
theorem s_membersBelow (hN : InvN N) (hc : HC σ N) {k b : Nat} (hk : k < 20) (hb : b ≤ 20) : f_GR_membersBelow (nI k) (nI b) σ = some (nI (mb N k b), σ) := by
  unfold f_GR_membersBelow
  refine lpS (fun n i y => f_GR_membersBelow_5 n (nI k) (nI b) (nI y) (nI i) σ) b (fun i => b2n (mem N k i)) (fun y => some (nI y, σ)) ?_ ?_ FU (by unfold FU; omega)
  · intro n i y hi hy
    show f_GR_membersBelow_5 (n + 1) (nI k) (nI b) (nI y) (nI i) σ = _
    rw [f_GR_membersBelow_5, if_neg (nI_ge (by omega) (by decide)), if_neg (nI_ge hi (by omega)), inb_n (by omega) (by omega), gd_t, nI_clamp (by omega), hc i (by omega), nI_add, nI_add]
    unfold mem
    have hl := hd_le N i
    cases q : inn N i
    · rw [hdc_out q, if_neg (fun (w : (-5 : Int32) = nI k) => neI (z := -5) (by omega) (by decide) w.symm)]; rfl
    · rw [hdc_in q]
      by_cases z : hd N i = k
      · rw [if_pos (by rw [z]), decide_eq_true z]; rfl
      · rw [if_neg (fun w => z ((nI_eq (by omega) (by omega)).mp w)), decide_eq_false z]; rfl
  · intro n
    show f_GR_membersBelow_5 (n + 1) (nI k) (nI b) _ (nI b) σ = _
    rw [f_GR_membersBelow_5]
    by_cases z : b = 20
    · rw [z, if_pos (Int32.le_refl _)]
    · rw [if_neg (nI_ge (by omega) (by decide)), if_pos (Int32.le_refl _)]
theorem s_sizeOf (hN : InvN N) (hc : HC σ N) {k : Nat} (hk : k < 20) : f_GR_sizeOf (nI k) σ = some (nI (mb N k 20), σ) := by
  unfold f_GR_sizeOf
  rw [s_membersBelow hN hc hk (Nat.le_refl _), bd_s]
theorem OAll.fr {x : Sg} {L : List Nat} (h : OAll N σ) (hF : Fr L σ x) (hL : L.all (fun c => !(c == 101) && !(c == 102) && !(c == 103) && !(c == 104)) = true) : OAll N x := by
  have e : ∀ c, c = 101 ∨ c = 102 ∨ c = 103 ∨ c = 104 → x c = σ c := by
    intro c hc
    refine hF c (fun q => ?_)
    have := List.all_eq_true.mp hL c q
    simp at this
    omega
  exact ⟨fun k hk => by rw [e 101 (by omega), e 102 (by omega)]; exact h.1 k hk, fun k hk => by rw [e 103 (by omega), e 104 (by omega)]; exact h.2 k hk⟩
def SAll (N : Rw) (x : Sg) : Prop := (∀ k, k < 20 → x 106 k = nI (ogr N k)) ∧ ∀ c, c < 20 → x 107 c = nI (ocp N c)
theorem s_shFill (h : QS σ N) (hc : HC σ N) (ho : OAll N σ) : ∃ x, f_SH_fill σ = some (0, x) ∧ Fr [106, 107] σ x ∧ SAll N x := by
  have hN := h.2.1
  unfold f_SH_fill
  rw [s_fill _ _ _ _ (by decide), bd_s, s_fill _ _ _ _ (by decide), bd_s]
  generalize hx0 : upc (upc σ 106 (fun j => if j < 20 then nI 0 else σ 106 j)) 107 (fun j => if j < 20 then nI 0 else upc σ 106 (fun j => if j < 20 then nI 0 else σ 106 j) 107 j) = x0
  have hF0 : Fr [106, 107] σ x0 := by rw [← hx0]; exact ((Fr.rf _ _).upc _ (by decide)).upc _ (by decide)
  have h6 : ∀ j, j < 20 → x0 106 j = nI 0 := fun j hj => by rw [← hx0, upc_n _ _ (by decide), upc_s, if_pos hj]
  have h7 : ∀ j, j < 20 → x0 107 j = nI 0 := fun j hj => by rw [← hx0, upc_s, if_pos hj]
  refine Exists.elim (lpI (fun n k (x : Sg) => f_SH_fill_19 n (nI k) x) 20 (fun k x => Fr [106, 107] σ x ∧ (∀ j, j < 20 → x 106 j = nI (if j < k then ogr N j else 0)) ∧ ∀ j, j < 20 → x 107 j = nI 0) ?_ 0 FU x0 (Nat.zero_le _) (by decide) ⟨hF0, fun j hj => (h6 j hj).trans rfl, h7⟩) ?_
  · intro n k x hk hJ
    obtain ⟨hF, h1, h2⟩ := hJ
    have hh := hc.fr hF (by decide)
    have hoo := ho.fr hF (by decide)
    have hq := h.fr hF (by decide)
    show ∃ y, _ ∧ f_SH_fill_19 (n + 1) (nI k) x = _
    rw [f_SH_fill_19, if_neg (nI_ge hk (by decide)), s_isHead hh hk, bd_s, nI_add]
    cases q : isHd N k
    · rw [if_pos (by decide)]
      refine ⟨x, ⟨hF, fun j hj => ?_, h2⟩, rfl⟩
      rw [h1 j hj]
      by_cases z : j = k
      · rw [z, if_neg (Nat.lt_irrefl _), if_pos (Nat.lt_succ_self _)]; unfold ogr; rw [q]; rfl
      · by_cases w : j < k
        · rw [if_pos w, if_pos (by omega)]
        · rw [if_neg w, if_neg (by omega)]
    · have ht := td_le N k
      have htb := tdb_le N k k
      have hp := pot_le hN k
      rw [if_neg (by decide), s_placeOf hoo q, bd_s, s_tiedWith hoo q, bd_s, s_together hq, bd_s, s_tiedWith hoo q, bd_s, s_tiedBelow hoo.1 q (by omega), bd_s, s_portion (by omega) (td_pos q) (by omega) (by omega), bd_s, inb_n hk (by omega), gd_t, nI_clamp (by omega), lt']
      refine ⟨_, ⟨hF.up _ _ (by decide), fun j hj => ?_, fun j hj => by rw [up_n _ _ _ (by decide)]; exact h2 j hj⟩, rfl⟩
      rw [up_s]
      by_cases z : j = k
      · rw [z, upd_s, if_pos (Nat.lt_succ_self _)]; unfold ogr; rw [if_pos q]
      · rw [upd_n _ _ z, h1 j hj]
        by_cases w : j < k
        · rw [if_pos w, if_pos (by omega)]
        · rw [if_neg w, if_neg (by omega)]
  rintro m ⟨x1, ⟨hF1, h1, h2⟩, heq⟩
  have hq : f_SH_fill_19 (m + 1) (nI 20) x1 = f_SH_fill_88 FU (nI 0) x1 := by rw [f_SH_fill_19, if_pos (Int32.le_refl _)]
  have heq := heq.trans hq
  refine Exists.elim (lpI (fun n k (x : Sg) => f_SH_fill_88 n (nI k) x) 20 (fun k x => Fr [106, 107] σ x ∧ (∀ j, j < 20 → x 106 j = nI (ogr N j)) ∧ ∀ j, j < 20 → x 107 j = nI (if j < k then ocp N j else 0)) ?_ 0 FU x1 (Nat.zero_le _) (by decide) ⟨hF1, fun j hj => by rw [h1 j hj, if_pos hj], fun j hj => (h2 j hj).trans rfl⟩) ?_
  · intro n k x hk hJ
    obtain ⟨hF, h3, h4⟩ := hJ
    have hh := hc.fr hF (by decide)
    show ∃ y, _ ∧ f_SH_fill_88 (n + 1) (nI k) x = _
    rw [f_SH_fill_88, if_neg (nI_ge hk (by decide)), s_headN hh hk, bd_s, nI_add]
    cases q : inn N k
    · rw [hdc_out q, if_pos rfl]
      refine ⟨x, ⟨hF, h3, fun j hj => ?_⟩, rfl⟩
      rw [h4 j hj]
      by_cases z : j = k
      · rw [z, if_neg (Nat.lt_irrefl _), if_pos (Nat.lt_succ_self _)]; unfold ocp; rw [q]; rfl
      · by_cases w : j < k
        · rw [if_pos w, if_pos (by omega)]
        · rw [if_neg w, if_neg (by omega)]
    · have hl := hd_le N k
      have hm := mb_le N (hd N k) 20
      have hm2 := mb_le N (hd N k) k
      have hg := ogr_le hN (hd N k)
      rw [hdc_in q, if_neg (neI (by omega) (by decide)), s_membersBelow hN hh (by omega) (by omega), bd_s, show f_SH_ofGroup (nI (hd N k)) x = some (nI (ogr N (hd N k)), x) from by unfold f_SH_ofGroup; rw [s_at _ _ _ _ (by omega) (by decide), bd_s, h3 _ (by omega)], bd_s, s_sizeOf hN hh (by omega), bd_s, s_portion (by omega) (mb_pos (hd_isHd hN q)) (by omega) (by omega), bd_s, inb_n hk (by omega), gd_t, nI_clamp (by omega), lt']
      refine ⟨_, ⟨hF.up _ _ (by decide), fun j hj => by rw [up_n _ _ _ (by decide)]; exact h3 j hj, fun j hj => ?_⟩, rfl⟩
      rw [up_s]
      by_cases z : j = k
      · rw [z, upd_s, if_pos (Nat.lt_succ_self _)]; unfold ocp; rw [if_pos q]
      · rw [upd_n _ _ z, h4 j hj]
        by_cases w : j < k
        · rw [if_pos w, if_pos (by omega)]
        · rw [if_neg w, if_neg (by omega)]
  · rintro m2 ⟨x, ⟨hF, h3, h4⟩, heq2⟩
    refine ⟨x, heq.trans (heq2.trans ?_), hF, h3, fun c hc => by rw [h4 c hc, if_pos hc]⟩
    show f_SH_fill_88 (m2 + 1) (nI 20) x = _
    rw [f_SH_fill_88, if_pos (Int32.le_refl _)]
/-- all that the class works out -/
def WC (N : Rw) (x : Sg) : Prop := HC x N ∧ x 82 2 = nI (ng N) ∧ CAll N x ∧ RAll N x ∧ PAll N x ∧ OAll N x ∧ SAll N x
end SH1
