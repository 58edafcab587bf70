/-! ===== facts for the cases of the law ===== -/
theorem kk_s (i : Nat) : 1000 + 12 * i + 12 ≤ kk (i + 1) := by
  show _ ≤ 1000 + 12 * (i + 1)
  omega
theorem nn_7 (i : Nat) : 100000 + 2000 * i + 700 ≤ nn' (i + 1) := by
  show _ ≤ 100000 + 2000 * (i + 1)
  omega
theorem nn_20 (i : Nat) : 100000 + 2000 * i + 2000 ≤ nn' (i + 1) := by
  show _ ≤ 100000 + 2000 * (i + 1)
  omega
theorem pk_of {B : Nat} {T : SH} (hM : MP (120 * B) T) (hB : B ≤ 5000) (hV : VS T) (hS : WF T) {x lo : Int32} (hlo : 0 ≤ lo.toInt) (w : wiB x lo 120 = true) : PKs x.toNatClampNeg T := by
  have w := bI_wi w
  obtain ⟨N, hN, e⟩ := bI.nat (x := x) (b := 120) ⟨Int.le_trans hlo w.1, w.2⟩
  rw [e, nI_clamp (by omega)]
  exact (MP.ticks N hM (by omega) hV hS).2
theorem th_ng {b : Bool} {f : Nat} (h : f = if b = true then 0 else 1) : ng b = nI (thr f 1 0 0 0) := by
  subst h
  cases b <;> rfl
theorem th_ng4 {b : Bool} {f : Nat} (h : f = if b = true then 0 else 4) : ng b = nI (thr f 0 0 0 1) := by
  subst h
  cases b <;> rfl
theorem th_01 {f : Nat} (h : f = 0 ∨ f = 4) : (if f = 0 then (0 : Int32) else 1) = nI (thr f 0 0 0 1) := by
  rcases h with rfl | rfl <;> rfl
theorem b_of {b : Bool} {f q : Nat} (h : f = if b = true then 0 else q) (hq : ¬ q = 0) (e : f = 0) : b = true := by
  cases b with
  | true => rfl
  | false => exact absurd (h.symm.trans e) hq
theorem SP.tm {S T : SH} (h : SP S T) : tmI T = tmI S := by
  obtain ⟨a, b, rfl, -, -⟩ := h
  rfl
theorem fg_eq {S T : SH} (h : SP S T) (x : Int32) (L : SBB) : ∀ n, fgL T x L n = fgL S x L n
  | 0 => rfl
  | n + 1 => by
    have ih := fg_eq h x L n
    obtain ⟨a, b, rfl, -, -⟩ := h
    unfold fgL
    rw [ih]
theorem it2 {x : Int32} (h : bI x 1 50) : itL (decide (x < 0)) x.toInt.natAbs ≤ 2 := by
  obtain ⟨N, hN, e⟩ := bI.nat (x := x) (b := 50) ⟨Int.le_trans (by decide) h.1, h.2⟩
  subst e
  rw [decide_eq_false (nI_pos (by omega)), nI_toInt (by omega)]
  show sb_dg ((N : Int).natAbs) ≤ 2
  rw [Int.natAbs_natCast]
  unfold sb_dg
  split
  · omega
  · rw [if_pos (by omega)]
    omega
theorem tb_eq {a w : Int32} : ∀ (n : Nat) {S T : SH} (m : Int32) (C : CS), SP S T → tbR a w n T m C = tbR a w n S m C
  | 0, _, _, _, _, _ => rfl
  | n + 1, S, T, m, C, h => by
    have ih := tb_eq n (bS S a m C).2.2.2 (bS S a m C) (h.mov (bS S a m C).2.1 (bS S a m C).2.2.1 a).1 (a := a) (w := w)
    obtain ⟨a', b', rfl, -, -⟩ := h
    unfold tbR
    rw [← ih]
theorem fl_th {h e z : Int32} (f : FLR h e z) : (if z = -1 then (1 : Int32) else 0) = nI (thr (fFlag 4 h) 0 0 0 1) := by
  rcases f with ⟨rfl, rfl⟩ | ⟨rfl, p, hp, -, rfl⟩
  · rfl
  · rw [if_neg]
    · rfl
    · intro q
      have z := congrArg Int32.toInt q
      rw [nI_toInt (by omega)] at z
      have : (p : Int) = -1 := z
      omega
theorem fl_v {h e z : Int32} (f : FLR h e z) (h0 : fFlag 4 h = 0) : (if z = -1 then 0 else z) = e := by
  rcases f with ⟨rfl, rfl⟩ | ⟨rfl, p, hp, rfl, rfl⟩
  · exact absurd h0 (by decide)
  · rw [if_neg]
    intro q
    have z := congrArg Int32.toInt q
    rw [nI_toInt (by omega)] at z
    have : (p : Int) = -1 := z
    omega
/-- a ship of the model that agrees with the class's trial ship -/
theorem EQ.trial {B : Nat} {K : KS'} {m : MS} (h : EQ B K m) (hB : B ≤ 5000) : ∃ T, SP (cpT K) T ∧ RS T (zA m) ∧ WF T ∧ VS T ∧ MP (120 * B) T ∧ GS B (cpT K) := by
  obtain ⟨T, sp, rs⟩ := h.2.1.cp (kT K)
  have g : GS B (cpT K) := GS_cp h.1.2.1 (kT K)
  exact ⟨T, sp, rs, sp.wf g.2.1, sp.vs g.1, sp.mp g.2.2.1, g⟩
theorem full_of {S : SH} (hV : VB S) : ∀ i, i < gc S → 0 ≤ gl S i ∧ 0 ≤ gcp S i - gw S i := fun i hi => by
  obtain ⟨b1, b2, b3, b4, b5, b6⟩ := hV.1 i hi
  refine ⟨Int32.le_iff_toInt_le.mpr b5.1, Int32.le_iff_toInt_le.mpr ?_⟩
  have b4 := bI_le b4
  have e0 : (0 : Int32).toInt = 0 := rfl
  obtain ⟨x1, x2⟩ := b2
  obtain ⟨y1, y2⟩ := b3
  rw [e0, Int32.toInt_sub, Int.bmod_eq_of_le (by omega) (by omega)]
  omega
/-- the trial's answers -/
theorem tbT_eq {B : Nat} {K : KS'} {T : SH} (sp : SP (cpT K) T) (a : Int32) (C : CS) (hC : C = kC K) : tbM T a C = tbK K a := by
  subst hC
  unfold tbM tbK
  have e1 : tmI T = tmI (kS K) := sp.tm
  have e2 : twI T = twI (kS K) := by
    obtain ⟨a', b', rfl, -, -⟩ := sp
    rfl
  rw [e1, e2]
  exact tb_eq _ _ _ sp
theorem fms_eq {S T : SH} (sp : SP S T) : fMS T = fMS S := by
  unfold fMS
  rw [(SP_tks 120 sp).sk]
theorem tb_th {B : Nat} {K : KS'} {T : SH} (sp : SP (cpT K) T) (a : Int32) : nI (thB T a (kC K)) = nI (thr (fTB K a) 0 1 0 2) := by
  unfold thB fTB fAmt
  rw [tbT_eq (B := B) sp a (kC K) rfl]
  by_cases w : wiB a 1 200 = true
  · rw [if_pos w, if_pos w, if_pos rfl]
    by_cases q : (tbK K a).isSome = true
    · rw [if_pos q, if_pos q]; rfl
    · rw [if_neg q, if_neg q]; rfl
  · rw [if_neg w, if_neg w, if_neg (by decide)]; rfl
theorem tb_v {B : Nat} {K : KS'} {T : SH} (sp : SP (cpT K) T) (a : Int32) (h0 : fTB K a = 0) : (if wiB a 1 200 = true then nI ((tbM T a (kC K)).getD 0) else 0) = nI ((tbK K a).getD 0) := by
  rw [tbT_eq (B := B) sp a (kC K) rfl]
  by_cases w : wiB a 1 200 = true
  · rw [if_pos w]
  · unfold fTB fAmt at h0
    rw [if_neg w, if_neg (by decide)] at h0
    cases h0
theorem tx_fin {i f : Nat} {b : Bool} {K : KS'} {m m' : MS} {L : SBB} {U : SH} (h : EQ (8 * i) K m) (hf : f = if b = true then 0 else 1) (c : FTx b L m m') (hl : LC L) (hU : WF U) (C : CS) : EQ (8 * (i + 1)) (scr (if f = 0 then stLn K L else K) U C) m' ∧ zT m' = nI (thr f 1 0 0 0) := by
  subst hf
  cases b with
  | true =>
    obtain ⟨z1, z2⟩ := h.txt hl c
    exact ⟨(z1.le (by omega)).scr hU C, z2⟩
  | false =>
    have e : m' = wT m 1 := c
    subst e
    have h2 : EQ (8 * i) K (wT m 1) := h
    exact ⟨(h2.le (by omega)).scr hU C, rfl⟩
theorem ap_fin {i : Nat} {x : Int32} {K : KS'} {m m' : MS} {U : SH} (h : EQ (8 * i) K m) (c : APP (kI K) x m m') (hU : WF U) (C : CS) : EQ (8 * (i + 1)) (scr (if fApp (kI K) x = 0 then stIn K (pC (kI K) x.toNatClampNeg) else K) U C) m' ∧ zT m' = nI (thr (fApp (kI K) x) 0 1 2 0) := by
  by_cases hf : fApp (kI K) x = 0
  · rw [if_pos hf]
    obtain ⟨z1, z2⟩ := h.app hf c
    exact ⟨(z1.le (by omega)).scr hU C, by rw [z2, hf]; rfl⟩
  · rw [if_neg hf]
    unfold APP at c
    rw [if_neg hf] at c
    subst c
    have h2 : EQ (8 * i) K (wT m (nI (thr (fApp (kI K) x) 0 1 2 0))) := h
    exact ⟨(h2.le (by omega)).scr hU C, rfl⟩
theorem un_fin {i : Nat} {K : KS'} {m : MS} {U : SH} (h : EQ (8 * i) K m) (hU : WF U) (C : CS) : EQ (8 * (i + 1)) (scr (if fUnd (kH K) = 0 then eUnd K else K) U C) (if (kH K).2.1 = 0 then wT m 1 else wN (wT (wA m (cpF (zA m) (kH K).2.1 0)) 0) (nI ((kH K).2.1 - 1))) ∧ zT (if (kH K).2.1 = 0 then wT m 1 else wN (wT (wA m (cpF (zA m) (kH K).2.1 0)) 0) (nI ((kH K).2.1 - 1))) = nI (thr (fUnd (kH K)) 0 0 1 0) := by
  unfold fUnd
  by_cases hz : (kH K).2.1 = 0
  · rw [if_pos hz, if_pos hz, if_neg (by decide)]
    have h2 : EQ (8 * i) K (wT m 1) := h
    exact ⟨(h2.le (by omega)).scr hU C, rfl⟩
  · rw [if_neg hz, if_neg hz, if_pos rfl]
    exact ⟨((h.undo hz).le (by omega)).scr hU C, rfl⟩
theorem un_v {H : Nat × Nat × (Nat → SH)} (h0 : fUnd H = 0) : (if H.2.1 = 0 then 0 else nI (H.2.1 - 1)) = nI (H.2.1 - 1) := by
  unfold fUnd at h0
  by_cases hz : H.2.1 = 0
  · rw [if_pos hz] at h0; cases h0
  · rw [if_neg hz]
theorem re_fin {i : Nat} {b : Bool} {K : KS'} {m : MS} {U : SH} (h : EQ (8 * i) K m) (hb : zV m = b2 b) (hk : (kF K).1 = b2 b) (hU : WF U) (C : CS) : EQ (8 * (i + 1)) (scr (if fFlag 3 (kF K).1 = 0 then stH (stS K (cpS (kS K) (kV K))) ((kH K).1, 0, (kH K).2.2) else K) U C) (if b = true then wN (wT (wA m (cpF (zA m) 9 0)) 0) 0 else wT m 1) ∧ zT (if b = true then wN (wT (wA m (cpF (zA m) 9 0)) 0) 0 else wT m 1) = nI (thr (fFlag 3 (kF K).1) 0 0 1 0) := by
  rw [hk]
  cases b with
  | true =>
    rw [if_pos (show fFlag 3 (b2 true) = 0 from rfl), if_pos rfl]
    exact ⟨(((h.restore hb).1).le (by omega)).scr hU C, rfl⟩
  | false =>
    rw [if_neg (show ¬ fFlag 3 (b2 false) = 0 from by decide), if_neg (by decide)]
    have h2 : EQ (8 * i) K (wT m 1) := h
    exact ⟨(h2.le (by omega)).scr hU C, rfl⟩
theorem re_v {i : Nat} {b : Bool} {K : KS'} {m : MS} (h : EQ (8 * i) K m) (hb : zV m = b2 b) (hk : (kF K).1 = b2 b) (h0 : fFlag 3 (kF K).1 = 0) : (if b = true then zA m (116 * 9 + 1) else 0) = nI (gc (kV K)) := by
  cases b with
  | true => exact (h.restore hb).2
  | false =>
    rw [hk] at h0
    exact absurd h0 (by decide)
theorem hi_eq {S T : SH} (h : SP S T) (k : Nat) (C : CS) : ∀ n, hIn T k C n = hIn S k C n
  | 0 => rfl
  | n + 1 => by
    have ih := hi_eq h k C n
    obtain ⟨a, b, rfl, -, -⟩ := h
    unfold hIn
    rw [ih]
    rfl
theorem ho_eq {S T : SH} (h : SP S T) (C : CS) : ∀ n, hOut T C n = hOut S C n
  | 0 => rfl
  | n + 1 => by
    have ih := ho_eq h C n
    unfold hOut
    rw [ih, hi_eq h]
    obtain ⟨a, b, rfl, -, -⟩ := h
    rfl
theorem bH_eq {S T : SH} (h : SP S T) (C : CS) : bstH T C = bstH S C := by
  unfold bstH
  rw [ho_eq h]
  obtain ⟨a, b, rfl, -, -⟩ := h
  rfl
theorem fBS_eq {S T : SH} (h : SP S T) (C : CS) : fBS T C = fBS S C := by
  unfold fBS
  rw [bH_eq h]
