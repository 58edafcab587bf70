/-! ===== the model: a minute ===== -/
theorem minI_alt (x y : Int32) : (if x < y then x else y) = minI x y := by
  unfold minI
  by_cases h : x < y
  · rw [if_pos h, if_neg (Int32.not_lt.mpr (Int32.le_of_lt h))]
  · rw [if_neg h]
    by_cases h2 : y < x
    · rw [if_pos h2]
    · rw [if_neg h2]
      exact Int32.le_antisymm (Int32.not_lt.mp h) (Int32.not_lt.mp h2)
/-- a row of bits -/
def mkI (p : Nat → Bool) : Nat → Int32
  | 0 => 0
  | n + 1 => mkI p n ||| (if p n = true then (1 : Int32) <<< (nI n &&& 31) else 0)
theorem and_or1 (a b c : Int32) : (a ||| b) &&& c = (a &&& c) ||| (b &&& c) := by
  apply Int32.toBitVec_inj.mp
  simp only [Int32.toBitVec_and, Int32.toBitVec_or]
  ext i hi
  simp [Bool.and_or_distrib_right]
theorem or_bit (a b s : Int32) : ((a ||| b) >>> s) &&& 1 = ((a >>> s) &&& 1) ||| ((b >>> s) &&& 1) := by
  rw [Int32.shiftRight_or, and_or1]
theorem one_bit : ∀ j, j < 8 → ∀ k, k < 8 → (((1 : Int32) <<< (nI j &&& 31)) >>> (nI k &&& 31)) &&& 1 = if j = k then 1 else 0 := by decide +kernel
theorem zero_bit : ∀ k, k < 8 → ((0 : Int32) >>> (nI k &&& 31)) &&& 1 = 0 := by decide +kernel
theorem mk_bit (p : Nat → Bool) {k : Nat} (hk : k < 8) : ∀ n, n ≤ 8 → (mkI p n >>> (nI k &&& 31)) &&& 1 = if k < n ∧ p k = true then 1 else 0
  | 0, _ => by
    rw [if_neg (fun h => by omega)]
    exact zero_bit k hk
  | n + 1, h => by
    show ((mkI p n ||| _) >>> _) &&& 1 = _
    rw [or_bit, mk_bit p hk n (by omega)]
    by_cases e : n = k
    · subst e
      rw [if_neg (fun h => by omega)]
      cases hp : p n with
      | true =>
        rw [if_pos rfl, one_bit n (by omega) n hk, if_pos rfl, if_pos ⟨Nat.lt_succ_self _, rfl⟩]; rfl
      | false =>
        rw [if_neg (by decide), zero_bit n hk, if_neg (fun h => by cases h.2)]; rfl
    · have e2 : ((if p n = true then (1 : Int32) <<< (nI n &&& 31) else 0) >>> (nI k &&& 31)) &&& 1 = 0 := by
        cases hp : p n with
        | true => rw [if_pos rfl, one_bit n (by omega) k hk, if_neg e]
        | false => rw [if_neg (by decide), zero_bit k hk]
      rw [e2, Int32.or_zero]
      by_cases h3 : k < n ∧ p k = true
      · rw [if_pos h3, if_pos ⟨by omega, h3.2⟩]
      · rw [if_neg h3, if_neg (fun w => h3 ⟨by omega, w.2⟩)]
/-- before the pumps run -/
abbrev tkA (T : SH) : SH := leakS (strike (stM T (gmn T + 1)))
/-- what the pumps give fits -/
def PK (T : SH) : Prop := ∃ N o : Nat, N + o < 2 ^ 31 ∧ gpu T = lN N ∧ sumI (outI (gu (tkA T)) (gw (tkA T)) (gc (tkA T)) (gpw (tkA T))) (gc (tkA T)) = nI o
theorem PK.add {T : SH} (h : PK T) {x : Int32} (hx : x.toInt64 = gpu T) : (x + sumI (outI (gu (tkA T)) (gw (tkA T)) (gc (tkA T)) (gpw (tkA T))) (gc (tkA T))).toInt64 = gpu T + (sumI (outI (gu (tkA T)) (gw (tkA T)) (gc (tkA T)) (gpw (tkA T))) (gc (tkA T))).toInt64 := by
  obtain ⟨N, o, h1, h2, h3⟩ := h
  rw [h2] at hx
  have e : x = nI N := by
    rw [← nI_l (by omega)] at hx
    have := congrArg Int64.toInt hx
    rw [Int32.toInt_toInt64, Int32.toInt_toInt64] at this
    exact Int32.toInt_inj.mp this
  rw [e, h3, nI_add, nI_l h1, h2, nI_l (by omega)]
  apply Int64.toInt_inj.mp
  rw [Int64.toInt_add, lN_toInt (by omega), lN_toInt (by omega), lN_toInt (by omega)]
  rw [Int.bmod_eq_of_le (by omega) (by omega)]
  omega
theorem fill_same {i : Nat} (f g : Nat → Int32) (h : f i = g i) : fill (i + 1) f g = fill i f g := by
  funext j
  unfold fill
  by_cases e : j = i
  · subst e
    rw [if_pos (Nat.lt_succ_self _), if_neg (Nat.lt_irrefl _), h]
  · by_cases e2 : j < i
    · rw [if_pos e2, if_pos (by omega)]
    · rw [if_neg e2, if_neg (by omega)]
section NT
variable {m : MS} {T : SH}
abbrev pmT (T : SH) (i : Nat) : SH := stW T (fill i (pmI (gu T) (gw T) (gc T) (gpw T)) (gw T))
theorem n_ticks (r : RS T (zA m)) (hT : WF T) (h0 : gsk T = 0) (hp : PK T) : Sp 4 0 0 mX11_ticks [vR 0 0] (mdl m) (PoE none (fun m' => CH m m' (tick T))) := by
  refine Sp.of' false (fun h => by cases h) (by decide) rfl rfl (Nat.le_of_ble_eq_true rfl) fun γ σ B => ?_
  have F : Fit γ 0 0 0 0 0 := fiW B (by decide) (Nat.zero_le _) (Nat.zero_le _)
  have F3 : Fit γ 0 0 3 0 0 := fiW B (by decide) (Nat.zero_le _) (Nat.zero_le _)
  have hc8 := hT.1
  -- the end: has it sunk?
  have fin : ∀ (m3 : MS) (T3 : SH), CH m m3 T3 → WF T3 → gsk T3 = 0 → (∀ f, RS (sinkS T3) f → RS (tick T) f) → At γ σ 0 0 218 [(0, vR 0 0)] [] (mdl m3) := by
    intro m3 T3 hc3 hT3 hz hs
    refine B.run okX11_ticks [] 60 ?_
    refine At.mI [] [] B.1 (n_total hc3.1 hT3) kX11_total ln_X11_91 F3 (dcV okX11_ticks rfl) ?_
    refine B.run okX11_ticks [] 60 ?_
    constructor
    · intro h
      refine rE (m' := m3) ⟨hs _ ?_, hc3.2⟩ rfl
      unfold sinkS
      rw [if_neg (Int32.not_lt.mpr h), ← hz]
      exact hc3.1
    · intro h
      refine ⟨vk, ?_⟩
      refine rE (m' := wA m3 (upd (zA m3) 6 1)) ⟨hs _ ?_, fun j hj => (upd_ne _ _ (by omega)).trans (hc3.2.1 j hj), hc3.2.2⟩ rfl
      unfold sinkS
      rw [if_pos (Int32.not_le.mp h)]
      exact hc3.1.setSk hT3 1
  obtain ⟨T1, hT1e⟩ : ∃ T1, T1 = stM T (gmn T + 1) := ⟨_, rfl⟩
  have hT1 : WF T1 := by rw [hT1e]; exact hT
  have hT2 : WF (strike T1) := WF_strike hT1
  obtain ⟨T2, hT2e⟩ : ∃ T2, T2 = strike T1 := ⟨_, rfl⟩
  rw [← hT2e] at hT2
  have g2 : gpu T2 = gpu T ∧ gsk T2 = 0 := by
    rw [hT2e, hT1e]
    unfold strike
    split
    · split
      · exact ⟨rfl, h0⟩
      · exact ⟨rfl, h0⟩
    · exact ⟨rfl, h0⟩
  have hA : tkA T = leakS T2 := by rw [hT2e, hT1e]
  obtain ⟨T3, hT3e⟩ : ∃ T3, T3 = leakS T2 := ⟨_, rfl⟩
  have hT3 : WF T3 := by rw [hT3e]; exact hT2
  have hA3 : tkA T = T3 := by rw [hA, hT3e]
  have g3 : gpu T3 = gpu T ∧ gsk T3 = 0 := by rw [hT3e]; exact g2
  have tk : tick T = sinkS (pumpS T3) := by rw [← hA3]; rfl
  have hc3 := hT3.1
  -- the pumps
  have pump : ∀ (m3 : MS), CH m m3 T3 → ∀ (j i : Nat), i + j = gc T3 → ∀ m', CH m m' (puT (pmT T3 i) (zA m' 9).toInt64) → zA m' 9 = zA m3 9 + sumI (outI (gu T3) (gw T3) (gc T3) (gpw T3)) i → At γ σ 0 0 135 [(0, vR 0 0), (1, vI (mkI (rnB (gu T3) (gw T3) (gc T3) (gpw T3)) (gc T3))), (2, vI (nI i))] [] (mdl m') := by
    intro m3 hm3 j
    induction j with
    | zero =>
      intro i hi m' hm' h9
      have hi : i = gc T3 := by omega
      subst hi
      have e1 : zA m' 1 = nI (gc T3) := hm'.1.1.2.1
      refine B.run okX11_ticks [(218, [0])] 60 ?_
      refine ⟨vk, ?_⟩
      constructor
      · intro _
        refine fin m' _ hm' hT3 g3.2 fun f hf => ?_
        rw [tk]
        have ep : (zA m' 9).toInt64 = gpu T3 + (sumI (outI (gu T3) (gw T3) (gc T3) (gpw T3)) (gc T3)).toInt64 := by
          rw [h9, g3.1]
          have := hp.add (x := zA m3 9) (hm3.1.1.2.2.2.2.2.2.2.2.2.trans g3.1)
          rw [hA3] at this
          exact this
        rw [ep] at hf
        exact hf
      · intro h
        have h : ¬ zA m' 1 ≤ nI (gc T3) := h
        rw [e1] at h
        exact absurd (nI_le (Nat.le_refl _) (by omega)) h
    | succ j ih =>
      intro i hi m' hm' h9
      have hi3 : i < gc T3 := by omega
      have e1 : zA m' 1 = nI (gc T3) := hm'.1.1.2.1
      have eb := hm'.1.2.1 i hi3
      have ew : zA m' (10 + 5 * i + 2) = gw T3 i := eb.2.2.1.trans (fill_at _ _ (Nat.le_refl _))
      have bit := mk_bit (rnB (gu T3) (gw T3) (gc T3) (gpw T3)) (k := i) (by omega) (gc T3) hc3
      refine B.run okX11_ticks [(135, [0, 1, 2])] 60 ?_
      refine ⟨vk, ?_⟩
      constructor
      · intro h
        have h : zA m' 1 ≤ nI i := h
        rw [e1] at h
        exact absurd h (nI_ge (by omega) (by omega))
      · intro _
        cases hb : rnB (gu T3) (gw T3) (gc T3) (gpw T3) i with
        | false =>
          rw [if_neg (fun w => by rw [hb] at w; cases w.2)] at bit
          constructor
          · intro _
            have z := ih (i + 1) (by omega) m' (by
              have e : pmT T3 (i + 1) = pmT T3 i := by
                show stW T3 _ = stW T3 _
                congr 1
                refine fill_same _ _ ?_
                unfold pmI
                rw [if_neg (by rw [hb]; decide)]
              rw [e]; exact hm') (by
              rw [h9]
              show _ = _ + (sumI _ i + outI _ _ _ _ i)
              have : outI (gu T3) (gw T3) (gc T3) (gpw T3) i = 0 := by unfold outI; rw [if_neg (by rw [hb]; decide)]
              rw [this, Int32.add_zero])
            rw [← nI_1] at z
            exact z
          · intro h
            exact absurd bit h
        | true =>
          rw [if_pos ⟨hi3, hb⟩] at bit
          have hout : outI (gu T3) (gw T3) (gc T3) (gpw T3) i = minI (gu T3 i) (gw T3 i) := by unfold outI; rw [if_pos hb]
          constructor
          · intro h
            have h : (mkI (rnB (gu T3) (gw T3) (gc T3) (gpw T3)) (gc T3) >>> (nI i &&& 31)) &&& 1 = 0 := h
            rw [bit] at h
            exact absurd h (by decide)
          · intro _
            have tail : ∀ y : Int32, y = minI (gu T3 i) (gw T3 i) → At γ σ 0 0 186 [(0, vR 0 0), (1, vI (mkI (rnB (gu T3) (gw T3) (gc T3) (gpw T3)) (gc T3))), (2, vI (nI i))] [vI y] (mdl m') := by
              intro y hy
              refine B.run okX11_ticks [(135, [0, 1, 2])] 60 ?_
              refine At.mI [vI (nI i), vI 2] [vI 2, vI (nI i), vR 0 0] B.1 (n_c m' i 2 (by omega)) kX11_c ln_X11_57 F (dcV okX11_ticks rfl) ?_
              rw [ew]
              refine B.run okX11_ticks [(135, [0, 1, 2])] 60 ?_
              refine At.mV [vI (nI i), vI 2, vI (gw T3 i - y)] [] B.1 (n_set m' i 2 (gw T3 i - y) (by omega)) kX11_set ln_X11_77 F (dcV okX11_ticks rfl) ?_
              refine B.run okX11_ticks [(135, [0, 1, 2])] 60 ?_
              refine ⟨vk, vk, ?_⟩
              have R1 := (hm'.1.setW (i := i) hT3 (by omega) (gw T3 i - y))
              have R2 := R1.setPu hT3 (zA m' 9 + y)
              have ef : upd (fill i (pmI (gu T3) (gw T3) (gc T3) (gpw T3)) (gw T3)) i (gw T3 i - y) = fill (i + 1) (pmI (gu T3) (gw T3) (gc T3) (gpw T3)) (gw T3) := fill_upd _ _ _ _ (by unfold pmI; rw [if_pos hb, hy])
              have z := ih (i + 1) (by omega) (wA m' (upd (upd (zA m') (10 + 5 * i + 2) (gw T3 i - y)) 9 (zA m' 9 + y))) ⟨by
                show RS (puT (stW T3 (fill (i + 1) _ _)) (zA m' 9 + y).toInt64) _
                rw [← ef]
                exact R2, fun j hj => (upd_ne _ _ (by omega)).trans ((upd_ne _ _ (by omega)).trans (hm'.2.1 j hj)), hm'.2.2⟩ (by
                show zA m' 9 + y = _ + (sumI _ i + outI _ _ _ _ i)
                rw [h9, hout, hy, Int32.add_assoc])
              rw [← nI_1] at z
              have e9 : upd (zA m') (10 + 5 * i + 2) (gw T3 i - y) 9 = zA m' 9 := upd_ne _ _ (by omega)
              rw [← e9] at z
              exact z
            refine B.run okX11_ticks [(135, [0, 1, 2]), (186, [0, 1, 2])] 60 ?_
            refine At.mI [vI (nI i), vI 4] [] B.1 (n_c m' i 4 (by omega)) kX11_c ln_X11_57 F (dcV okX11_ticks rfl) ?_
            rw [show zA m' (10 + 5 * i + 4) = gu T3 i from eb.2.2.2.2]
            refine B.run okX11_ticks [(135, [0, 1, 2]), (186, [0, 1, 2])] 60 ?_
            refine At.mI [vI (nI i), vI 2] [vI (gu T3 i)] B.1 (n_c m' i 2 (by omega)) kX11_c ln_X11_57 F (dcV okX11_ticks rfl) ?_
            rw [ew]
            refine B.run okX11_ticks [(135, [0, 1, 2]), (186, [0, 1, 2])] 60 ?_
            constructor
            · intro h
              refine B.run okX11_ticks [(135, [0, 1, 2]), (186, [0, 1, 2])] 60 ?_
              refine At.mI [vI (nI i), vI 2] [] B.1 (n_c m' i 2 (by omega)) kX11_c ln_X11_57 F (dcV okX11_ticks rfl) ?_
              rw [ew]
              exact tail _ (by rw [← minI_alt, if_neg (Int32.not_lt.mpr h)])
            · intro h
              refine B.run okX11_ticks [(135, [0, 1, 2]), (186, [0, 1, 2])] 60 ?_
              refine At.mI [vI (nI i), vI 4] [] B.1 (n_c m' i 4 (by omega)) kX11_c ln_X11_57 F (dcV okX11_ticks rfl) ?_
              rw [show zA m' (10 + 5 * i + 4) = gu T3 i from eb.2.2.2.2]
              refine B.run okX11_ticks [(135, [0, 1, 2]), (186, [0, 1, 2])] 60 ?_
              exact tail _ (by rw [← minI_alt, if_pos (Int32.not_le.mp h)])
  -- which pumps run
  have mask : ∀ (m3 : MS), CH m m3 T3 → ∀ (j i : Nat), i + j = gc T3 → At γ σ 0 0 99 [(0, vR 0 0), (1, vI (mkI (rnB (gu T3) (gw T3) (gc T3) (gpw T3)) i)), (2, vI (nI i))] [] (mdl m3) := by
    intro m3 hm3 j
    have e1 : zA m3 1 = nI (gc T3) := hm3.1.1.2.1
    induction j with
    | zero =>
      intro i hi
      have hi : i = gc T3 := by omega
      subst hi
      refine B.run okX11_ticks [(135, [0, 1, 2])] 60 ?_
      refine ⟨vk, ?_⟩
      constructor
      · intro _
        have z := pump m3 hm3 (gc T3) 0 (by omega) m3 (by
          have e : puT (pmT T3 0) (zA m3 9).toInt64 = T3 := by
            show puT (stW T3 (fill 0 _ _)) _ = _
            rw [fill_0, show (zA m3 9).toInt64 = gpu T3 from hm3.1.1.2.2.2.2.2.2.2.2.2]; rfl
          rw [e]; exact hm3) (by show _ = _ + 0; rw [Int32.add_zero])
        exact z
      · intro h
        have h : ¬ zA m3 1 ≤ nI (gc T3) := h
        rw [e1] at h
        exact absurd (nI_le (Nat.le_refl _) (by omega)) h
    | succ j ih =>
      intro i hi
      refine B.run okX11_ticks [(99, [0, 1, 2])] 60 ?_
      refine ⟨vk, ?_⟩
      constructor
      · intro h
        have h : zA m3 1 ≤ nI i := h
        rw [e1] at h
        exact absurd h (nI_ge (by omega) (by omega))
      · intro _
        refine At.mI [vI (nI i)] [vI (mkI (rnB (gu T3) (gw T3) (gc T3) (gpw T3)) i)] B.1 (n_runs hm3.1 hT3 i (by omega)) kX11_runs ln_X11_88 F3 (dcV okX11_ticks rfl) ?_
        have z := ih (i + 1) (by omega)
        unfold mkI at z
        rw [← nI_1] at z
        refine B.run okX11_ticks [(99, [0, 1, 2])] 60 ?_
        constructor
        · intro h
          rw [if_neg (by rw [b2_eq0.mp h]; decide)] at z
          exact z
        · intro h
          rw [if_pos (b2_ne0.mp h)] at z
          exact z
  -- the leaks
  have leaks : ∀ (j i : Nat), i + j = gc T2 → ∀ m', CH m m' (stW T2 (fill i (lkI (gcp T2) (gw T2) (gl T2)) (gw T2))) → At γ σ 0 0 39 [(0, vR 0 0), (1, vI (nI i))] [] (mdl m') := by
    intro j
    have hc2 := hT2.1
    induction j with
    | zero =>
      intro i hi m' hm'
      have hi : i = gc T2 := by omega
      subst hi
      have e1 : zA m' 1 = nI (gc T2) := hm'.1.1.2.1
      refine B.run okX11_ticks [(99, [0, 1, 2])] 60 ?_
      refine ⟨vk, ?_⟩
      constructor
      · intro _
        have z := mask m' (by rw [hT3e]; exact hm') (gc T3) 0 (by omega)
        exact z
      · intro h
        have h : ¬ zA m' 1 ≤ nI (gc T2) := h
        rw [e1] at h
        exact absurd (nI_le (Nat.le_refl _) (by omega)) h
    | succ j ih =>
      intro i hi m' hm'
      have e1 : zA m' 1 = nI (gc T2) := hm'.1.1.2.1
      have eb := hm'.1.2.1 i (show i < gc T2 by omega)
      have ew : zA m' (10 + 5 * i + 2) = gw T2 i := eb.2.2.1.trans (fill_at _ _ (Nat.le_refl _))
      have tail : ∀ y : Int32, y = minI (gw T2 i + gl T2 i) (gcp T2 i) → At γ σ 0 0 86 [(0, vR 0 0), (1, vI (nI i))] [vI y, vI 2, vI (nI i), vR 0 0] (mdl m') := by
        intro y hy
        refine At.mV [vI (nI i), vI 2, vI y] [] B.1 (n_set m' i 2 y (by omega)) kX11_set ln_X11_77 F (dcV okX11_ticks rfl) ?_
        have R1 := hm'.1.setW (i := i) hT2 (by omega) y
        have ef : upd (fill i (lkI (gcp T2) (gw T2) (gl T2)) (gw T2)) i y = fill (i + 1) (lkI (gcp T2) (gw T2) (gl T2)) (gw T2) := fill_upd _ _ _ _ hy
        have z := ih (i + 1) (by omega) (wA m' (upd (zA m') (10 + 5 * i + 2) y)) ⟨by
          rw [← ef]; exact R1, fun j hj => (upd_ne _ _ (by omega)).trans (hm'.2.1 j hj), hm'.2.2⟩
        rw [← nI_1] at z
        refine B.run okX11_ticks [(39, [0, 1])] 60 ?_
        exact z
      refine B.run okX11_ticks [(39, [0, 1]), (86, [0, 1])] 60 ?_
      refine ⟨vk, ?_⟩
      constructor
      · intro h
        have h : zA m' 1 ≤ nI i := h
        rw [e1] at h
        exact absurd h (nI_ge (by omega) (by omega))
      · intro _
        refine At.mI [vI (nI i), vI 2] [] B.1 (n_c m' i 2 (by omega)) kX11_c ln_X11_57 F (dcV okX11_ticks rfl) ?_
        rw [ew]
        refine B.run okX11_ticks [(39, [0, 1]), (86, [0, 1])] 60 ?_
        refine At.mI [vI (nI i), vI 3] [vI (gw T2 i)] B.1 (n_c m' i 3 (by omega)) kX11_c ln_X11_57 F (dcV okX11_ticks rfl) ?_
        rw [show zA m' (10 + 5 * i + 3) = gl T2 i from eb.2.2.2.1]
        refine B.run okX11_ticks [(39, [0, 1]), (86, [0, 1])] 60 ?_
        refine At.mI [vI (nI i), vI 1] [vI (gw T2 i + gl T2 i), vI 2, vI (nI i), vR 0 0] B.1 (n_c m' i 1 (by omega)) kX11_c ln_X11_57 F (dcV okX11_ticks rfl) ?_
        rw [show zA m' (10 + 5 * i + 1) = gcp T2 i from eb.2.1]
        refine B.run okX11_ticks [(39, [0, 1]), (86, [0, 1])] 60 ?_
        constructor
        · intro h
          exact tail _ (by unfold minI; rw [if_neg (Int32.not_lt.mpr h)])
        · intro h
          refine B.run okX11_ticks [(39, [0, 1]), (86, [0, 1])] 60 ?_
          refine At.mI [vI (nI i), vI 1] [vI 2, vI (nI i), vR 0 0] B.1 (n_c m' i 1 (by omega)) kX11_c ln_X11_57 F (dcV okX11_ticks rfl) ?_
          rw [show zA m' (10 + 5 * i + 1) = gcp T2 i from eb.2.1]
          refine B.run okX11_ticks [(39, [0, 1]), (86, [0, 1])] 60 ?_
          exact tail _ (by unfold minI; rw [if_pos (Int32.not_le.mp h)])
  have from37 : ∀ m2, CH m m2 T2 → At γ σ 0 0 37 [(0, vR 0 0)] [] (mdl m2) := by
    intro m2 hm2
    refine B.run okX11_ticks [(39, [0, 1])] 60 ?_
    have z := leaks (gc T2) 0 (by omega) m2 (by rw [fill_0]; exact hm2)
    exact z
  have e0 : zA m 0 = gmn T := r.1.1
  obtain ⟨f1, hf1⟩ : ∃ f1, f1 = upd (zA m) 0 (zA m 0 + 1) := ⟨_, rfl⟩
  have R1 : RS T1 f1 := by rw [hf1, hT1e, e0]; exact r.setM hT (gmn T + 1)
  have hk1 : ∀ j, 116 ≤ j → f1 j = zA m j := fun j hj => by rw [hf1]; exact upd_ne _ _ (by omega)
  refine B.run okX11_ticks [(37, [0])] 60 ?_
  refine ⟨vk, vk, vk, ?_⟩
  show At γ σ 0 0 17 [(0, vR 0 0)] [vI (upd (zA m) 0 (zA m 0 + 1) 0), vR 0 0] (mdl (wA m (upd (zA m) 0 (zA m 0 + 1))))
  rw [← hf1]
  refine At.mI [vI (f1 0)] [] B.1 (n_storm (m := wA m f1) R1 hT1 (f1 0)) kX11_storm ln_X11_81 F (dcV okX11_ticks rfl) ?_
  rw [show f1 0 = gmn T1 from R1.1.1]
  refine B.run okX11_ticks [(37, [0])] 60 ?_
  constructor
  · intro h
    have hn := fnd_none (by have := hT1.2.2.1; omega) h
    have z := from37 (wA m f1) ⟨by rw [hT2e]; unfold strike; rw [if_neg hn.1]; exact R1, hk1, rfl⟩
    exact z
  · intro h
    obtain ⟨hq, eq⟩ := fnd_some (by have := hT1.2.2.1; omega) h
    refine ⟨vk, ?_⟩
    refine At.mI [vI (f1 0)] [vR 0 0] B.1 (n_storm (m := wA m f1) R1 hT1 (f1 0)) kX11_storm ln_X11_81 F (dcV okX11_ticks rfl) ?_
    rw [show f1 0 = gmn T1 from R1.1.1, eq]
    refine B.run okX11_ticks [(37, [0])] 60 ?_
    refine At.mE [vI (nI (fst (eqB (gmi T1) (gmn T1)) (gsc T1)))] [] B.1 (n_strikes (m := wA m f1) R1 hT1 _ hq) kX11_strikes ln_X11_84 F3 (dcV okX11_ticks rfl) fun m2 h2 => ?_
    have z := from37 m2 ⟨by
      have e : strT T1 (fst (eqB (gmi T1) (gmn T1)) (gsc T1)) = T2 := by rw [hT2e]; unfold strike strT; rw [if_pos hq]
      rw [← e]; exact h2.1, fun j hj => (h2.2.1 j hj).trans (hk1 j hj), h2.2.2⟩
    exact z
end NT
