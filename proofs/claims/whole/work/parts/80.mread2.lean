/-! ===== the model: ranks, the heaviest, the next storm ===== -/
section NR2
variable {m : MS} {T : SH}
theorem n_minutesUntilFull (r : RS T (zA m)) (hT : WF T) (hv : ∀ i, i < gc T → 0 ≤ gl T i ∧ 0 ≤ gcp T i - gw T i) (x : Int32) : Sp 2 0 0 mX11_minutesUntilFull [vR 0 0, vI x] (mdl m) (PoI (if fFul T x = 0 then vFul T x else 0) (mdl (wT m (nI (thr (fFul T x) 1 0 0 2))))) := by
  refine Sp.of' false (fun h => by cases h) (by decide) rfl rfl (Nat.le_of_ble_eq_true rfl) fun γ σ B => ?_
  have F : Fit γ 0 0 0 0 0 := fiW B (by decide) (Nat.zero_le _) (Nat.zero_le _)
  have F1 : Fit γ 0 0 1 0 0 := fiW B (by decide) (Nat.zero_le _) (Nat.zero_le _)
  have hc := hT.1
  refine B.run okX11_minutesUntilFull [] 60 ?_
  refine At.mI [vI x] [vR 0 0] B.1 (n_isTank r hT x) kX11_isTank ln_X11_114 F1 (dcV okX11_minutesUntilFull rfl) ?_
  refine B.run okX11_minutesUntilFull [] 60 ?_
  refine At.mI [vI (b2 (hsB (gc T) x))] [] B.1 (n_isFine m (hsB (gc T) x)) kX11_isFine ln_X11_167 F (dcV okX11_minutesUntilFull rfl) ?_
  refine B.run okX11_minutesUntilFull [] 60 ?_
  constructor
  · intro h
    have h0 := b2_eq0.mp h
    have ef : fFul T x = 1 := by unfold fFul; rw [if_neg (by rw [h0]; decide)]
    exact rI (by rw [ef]; rfl) (by rw [ef, h0]; rfl)
  · intro h
    have h1 := b2_ne0.mp h
    obtain ⟨i, hi, rfl⟩ := hs_of (by omega) h1
    have eb := r.2.1 i hi
    have ec : (nI i).toNatClampNeg = i := nI_clamp (by omega)
    have ef : fFul T (nI i) = (if gcp T i - gw T i = 0 then 0 else if gl T i ≤ 0 then 4 else 0) := by unfold fFul; rw [if_pos h1, ec]
    have evv : vFul T (nI i) = (if gcp T i - gw T i = 0 then 0 else (gcp T i - gw T i + gl T i - 1) / gl T i) := by unfold vFul; rw [ec]
    obtain ⟨v1, v2⟩ := hv i hi
    rw [h1]
    refine B.run okX11_minutesUntilFull [] 60 ?_
    refine At.mI [vI (nI i), vI 1] [] B.1 (n_c (wT m (ng true)) i 1 (by omega)) kX11_c ln_X11_57 F (dcV okX11_minutesUntilFull rfl) ?_
    rw [show zA (wT m (ng true)) (10 + 5 * i + 1) = gcp T i from eb.2.1]
    refine B.run okX11_minutesUntilFull [] 60 ?_
    refine At.mI [vI (nI i), vI 2] [vI (gcp T i)] B.1 (n_c (wT m (ng true)) i 2 (by omega)) kX11_c ln_X11_57 F (dcV okX11_minutesUntilFull rfl) ?_
    rw [show zA (wT m (ng true)) (10 + 5 * i + 2) = gw T i from eb.2.2.1]
    refine B.run okX11_minutesUntilFull [] 60 ?_
    refine At.mI [vI (nI i), vI 3] [] B.1 (n_c (wT m (ng true)) i 3 (by omega)) kX11_c ln_X11_57 F (dcV okX11_minutesUntilFull rfl) ?_
    rw [show zA (wT m (ng true)) (10 + 5 * i + 3) = gl T i from eb.2.2.2.1]
    generalize gcp T i - gw T i = lf at ef evv v2
    generalize gl T i = lk at ef evv v1
    refine B.run okX11_minutesUntilFull [] 60 ?_
    constructor
    · intro h2
      have hl0 : lf = 0 := Int32.le_antisymm h2 v2
      rw [if_pos hl0] at ef evv
      refine ⟨trivial, ?_⟩
      constructor
      · intro _
        exact rI (by rw [ef, evv]; rfl) (by rw [ef]; rfl)
      · intro h3
        exact absurd hl0 h3
    · intro h2
      have hl0 : ¬ lf = 0 := fun z => h2 (by rw [z]; exact Int32.le_refl _)
      rw [if_neg hl0] at ef evv
      constructor
      · intro h3
        have h3 : lk = 0 := h3
        rw [if_pos (by rw [h3]; exact Int32.le_refl _)] at ef
        refine ⟨trivial, ?_⟩
        constructor
        · intro h4
          exact absurd h4 hl0
        · intro _
          constructor
          · intro h5
            exact absurd h5 (by decide)
          · intro _
            exact rI (by rw [ef]; rfl) (by rw [ef]; rfl)
      · intro h3
        have h3 : ¬ lk = 0 := h3
        rw [if_neg (fun z => h3 (Int32.le_antisymm z v1))] at ef
        refine ⟨trivial, ?_⟩
        constructor
        · intro h4
          exact absurd h4 hl0
        · intro _
          constructor
          · intro _
            exact ⟨h3, rI (by rw [ef, evv]; rfl) (by rw [ef]; rfl)⟩
          · intro h5
            exact absurd rfl h5
theorem fFst0 {p : Nat → Bool} {n i : Nat} (hi : p i = true) (hn : ∀ k, k < i → p k = false) (h : i < n) : fFst p n = 0 ∧ fst p n = i := by
  have e := fst_some hi hn h
  unfold fFst
  rw [e, if_pos h]
  exact ⟨rfl, rfl⟩
theorem fFst4 {p : Nat → Bool} {n : Nat} (hn : ∀ k, k < n → p k = false) : fFst p n = 4 := by
  unfold fFst
  rw [fst_none hn, if_neg (Nat.lt_irrefl _)]
theorem n_pumpAt (r : RS T (zA m)) (hT : WF T) (x : Int32) : Sp 3 0 0 mX11_pumpAt [vR 0 0, vI x] (mdl m) (PoI (if fFst (pAt T x) (gc T) = 0 then nI (fst (pAt T x) (gc T)) else 0) (mdl (wT m (if fFst (pAt T x) (gc T) = 0 then 0 else 1)))) := by
  refine Sp.of' false (fun h => by cases h) (by decide) rfl rfl (Nat.le_of_ble_eq_true rfl) fun γ σ B => ?_
  have F : Fit γ 0 0 0 0 0 := fiW B (by decide) (Nat.zero_le _) (Nat.zero_le _)
  have F1 : Fit γ 0 0 1 0 0 := fiW B (by decide) (Nat.zero_le _) (Nat.zero_le _)
  have F2 : Fit γ 0 0 2 0 0 := fiW B (by decide) (Nat.zero_le _) (Nat.zero_le _)
  have hc := hT.1
  have e1 : zA m 1 = nI (gc T) := r.1.2.1
  have loop : ∀ (j i : Nat), i + j = gc T → (∀ k, k < i → pAt T x k = false) → ∀ t, At γ σ 0 0 2 [(0, vR 0 0), (1, vI x), (2, vI (nI i))] [] (mdl (wT m t)) := by
    intro j
    induction j with
    | zero =>
      intro i hi hno t
      have hi : i = gc T := by omega
      have ef := fFst4 (n := gc T) (by rw [← hi]; exact hno)
      refine B.run okX11_pumpAt [] 60 ?_
      refine ⟨vk, ?_⟩
      constructor
      · intro _
        exact ⟨trivial, rI (by rw [ef]; rfl) (by rw [ef]; rfl)⟩
      · intro h
        have h : ¬ zA m 1 ≤ nI i := h
        rw [e1] at h
        exact absurd (nI_le (by omega) (by omega)) h
    | succ j ih =>
      intro i hi hno t
      have hic : i < gc T := by omega
      have tail : ∀ b : Bool, b = pAt T x i → At γ σ 0 0 35 [(0, vR 0 0), (1, vI x), (2, vI (nI i))] [vI (b2 b), vR 0 0] (mdl (wT m t)) := by
        intro b hb
        refine At.mI [vI (b2 b)] [] B.1 (n_isFine (wT m t) b) kX11_isFine ln_X11_167 F (dcV okX11_pumpAt rfl) ?_
        refine B.run okX11_pumpAt [(2, [0, 1, 2])] 60 ?_
        constructor
        · intro h
          have z := ih (i + 1) (by omega) (fun k hk => by
            rcases Nat.lt_or_ge k i with q | q
            · exact hno k q
            · have e : k = i := by omega
              rw [e, ← hb]; exact b2_eq0.mp h) (ng b)
          rw [← nI_1] at z
          exact z
        · intro h
          have hp : pAt T x i = true := by rw [← hb]; exact b2_ne0.mp h
          obtain ⟨ef, es⟩ := fFst0 hp hno hic
          exact rI (by rw [if_pos ef, es]) (by rw [if_pos ef, b2_ne0.mp h]; rfl)
      refine B.run okX11_pumpAt [(35, [0, 1, 2])] 60 ?_
      refine ⟨vk, ?_⟩
      constructor
      · intro h
        have h : zA m 1 ≤ nI i := h
        rw [e1] at h
        exact absurd h (nI_ge (by omega) (by omega))
      · intro _
        refine B.run okX11_pumpAt [(35, [0, 1, 2])] 60 ?_
        refine At.mI [vI (nI i)] [vR 0 0] B.1 (n_isPumped (m := wT m t) r hT i hic) kX11_isPumped ln_X11_67 F1 (dcV okX11_pumpAt rfl) ?_
        refine B.run okX11_pumpAt [(35, [0, 1, 2])] 60 ?_
        constructor
        · intro h
          exact tail false (by unfold pAt; rw [b2_eq0.mp h]; rfl)
        · intro h
          refine B.run okX11_pumpAt [(35, [0, 1, 2])] 60 ?_
          refine At.mI [vI (nI i)] [vR 0 0] B.1 (n_ahead (m := wT m t) r hT i hic) kX11_ahead ln_X11_71 F2 (dcV okX11_pumpAt rfl) ?_
          refine B.run okX11_pumpAt [(35, [0, 1, 2])] 60 ?_
          constructor
          · intro h2
            exact tail true (by unfold pAt; rw [b2_ne0.mp h, decide_eq_true h2]; rfl)
          · intro h2
            exact tail false (by unfold pAt; rw [decide_eq_false h2, Bool.and_false])
  refine B.run okX11_pumpAt [(2, [0, 1, 2])] 60 ?_
  have z := loop (gc T) 0 (by omega) (fun k hk => absurd hk (Nat.not_lt_zero _)) (zT m)
  exact z
theorem n_compartmentByLoad (r : RS T (zA m)) (hT : WF T) (x : Int32) : Sp 3 0 0 mX11_compartmentByLoad [vR 0 0, vI x] (mdl m) (PoI (if fFst (lAt T x) (gc T) = 0 then nI (fst (lAt T x) (gc T)) else 0) (mdl (wT m (if fFst (lAt T x) (gc T) = 0 then 0 else 1)))) := by
  refine Sp.of' false (fun h => by cases h) (by decide) rfl rfl (Nat.le_of_ble_eq_true rfl) fun γ σ B => ?_
  have F : Fit γ 0 0 0 0 0 := fiW B (by decide) (Nat.zero_le _) (Nat.zero_le _)
  have F2 : Fit γ 0 0 2 0 0 := fiW B (by decide) (Nat.zero_le _) (Nat.zero_le _)
  have hc := hT.1
  have e1 : zA m 1 = nI (gc T) := r.1.2.1
  have loop : ∀ (j i : Nat), i + j = gc T → (∀ k, k < i → lAt T x k = false) → ∀ t, At γ σ 0 0 2 [(0, vR 0 0), (1, vI x), (2, vI (nI i))] [] (mdl (wT m t)) := by
    intro j
    induction j with
    | zero =>
      intro i hi hno t
      have hi : i = gc T := by omega
      have ef := fFst4 (n := gc T) (by rw [← hi]; exact hno)
      refine B.run okX11_compartmentByLoad [(17, [0, 1, 2, 3, 4])] 60 ?_
      refine ⟨vk, ?_⟩
      constructor
      · intro _
        exact ⟨trivial, rI (by rw [ef]; rfl) (by rw [ef]; rfl)⟩
      · intro h
        have h : ¬ zA m 1 ≤ nI i := h
        rw [e1] at h
        exact absurd (nI_le (by omega) (by omega)) h
    | succ j ih =>
      intro i hi hno t
      have hic : i < gc T := by omega
      have tail : At γ σ 0 0 98 [(0, vR 0 0), (1, vI x), (2, vI (nI i)), (3, vI (nI (ctB (fun k => lbB T k i) (gc T))))] [] (mdl (wT m t)) := by
        have fin : ∀ b : Bool, b = lAt T x i → At γ σ 0 0 109 [(0, vR 0 0), (1, vI x), (2, vI (nI i))] [vI (b2 b), vR 0 0] (mdl (wT m t)) := by
          intro b hb
          refine At.mI [vI (b2 b)] [] B.1 (n_isFine (wT m t) b) kX11_isFine ln_X11_167 F (dcV okX11_compartmentByLoad rfl) ?_
          refine B.run okX11_compartmentByLoad [(2, [0, 1, 2])] 60 ?_
          constructor
          · intro h
            have z := ih (i + 1) (by omega) (fun k hk => by
              rcases Nat.lt_or_ge k i with q | q
              · exact hno k q
              · have e : k = i := by omega
                rw [e, ← hb]; exact b2_eq0.mp h) (ng b)
            rw [← nI_1] at z
            exact z
          · intro h
            have hp : lAt T x i = true := by rw [← hb]; exact b2_ne0.mp h
            obtain ⟨ef, es⟩ := fFst0 hp hno hic
            exact rI (by rw [if_pos ef, es]) (by rw [if_pos ef, b2_ne0.mp h]; rfl)
        refine B.run okX11_compartmentByLoad [(109, [0, 1, 2])] 60 ?_
        constructor
        · intro h
          exact fin true (by unfold lAt; rw [decide_eq_true h])
        · intro h
          exact fin false (by unfold lAt; rw [decide_eq_false h])
      have inner : ∀ (j2 q : Nat), q + j2 = gc T → At γ σ 0 0 17 [(0, vR 0 0), (1, vI x), (2, vI (nI i)), (3, vI (nI (ctB (fun k => lbB T k i) q))), (4, vI (nI q))] [] (mdl (wT m t)) := by
        intro j2
        induction j2 with
        | zero =>
          intro q hq
          have hq : q = gc T := by omega
          subst hq
          refine B.run okX11_compartmentByLoad [(98, [0, 1, 2, 3])] 60 ?_
          refine ⟨vk, ?_⟩
          constructor
          · intro _
            exact tail
          · intro h
            have h : ¬ zA m 1 ≤ nI (gc T) := h
            rw [e1] at h
            exact absurd (nI_le (Nat.le_refl _) (by omega)) h
        | succ j2 ih2 =>
          intro q hq
          have hqc : q < gc T := by omega
          have z := ih2 (q + 1) (by omega)
          have ez : ctB (fun k => lbB T k i) (q + 1) = ctB (fun k => lbB T k i) q + (if lbB T q i = true then 1 else 0) := rfl
          rw [ez, ← nI_1] at z
          generalize ctB (fun k => lbB T k i) q = c at z ⊢
          have yes : lbB T q i = true → At γ σ 0 0 85 [(0, vR 0 0), (1, vI x), (2, vI (nI i)), (3, vI (nI c)), (4, vI (nI q))] [vI (nI c)] (mdl (wT m t)) := fun hb => by
            rw [if_pos hb, ← nI_1] at z
            refine B.run okX11_compartmentByLoad [(17, [0, 1, 2, 3, 4])] 60 ?_
            exact z
          have no : lbB T q i = false → At γ σ 0 0 89 [(0, vR 0 0), (1, vI x), (2, vI (nI i)), (3, vI (nI c)), (4, vI (nI q))] [vI (nI c)] (mdl (wT m t)) := fun hb => by
            rw [if_neg (by rw [hb]; decide), Nat.add_zero] at z
            rw [← Int32.add_zero (nI c)] at z
            refine B.run okX11_compartmentByLoad [(17, [0, 1, 2, 3, 4])] 60 ?_
            exact z
          refine B.run okX11_compartmentByLoad [(85, [0, 1, 2, 3, 4]), (89, [0, 1, 2, 3, 4])] 60 ?_
          refine ⟨vk, ?_⟩
          constructor
          · intro h
            have h : zA m 1 ≤ nI q := h
            rw [e1] at h
            exact absurd h (nI_ge (by omega) (by omega))
          · intro _
            refine B.run okX11_compartmentByLoad [(85, [0, 1, 2, 3, 4]), (89, [0, 1, 2, 3, 4])] 60 ?_
            refine At.mI [vI (nI q)] [] B.1 (n_laden (m := wT m t) r hT q hqc) kX11_laden ln_X11_64 F2 (dcV okX11_compartmentByLoad rfl) ?_
            refine B.run okX11_compartmentByLoad [(85, [0, 1, 2, 3, 4]), (89, [0, 1, 2, 3, 4])] 60 ?_
            refine At.mI [vI (nI i)] [vI (ldI T q)] B.1 (n_laden (m := wT m t) r hT i hic) kX11_laden ln_X11_64 F2 (dcV okX11_compartmentByLoad rfl) ?_
            refine B.run okX11_compartmentByLoad [(85, [0, 1, 2, 3, 4]), (89, [0, 1, 2, 3, 4])] 60 ?_
            refine At.mI [vI (nI q), vI 2] [] B.1 (n_c (wT m t) q 2 (by omega)) kX11_c ln_X11_57 F (dcV okX11_compartmentByLoad rfl) ?_
            rw [show zA (wT m t) (10 + 5 * q + 2) = gw T q from (r.2.1 q hqc).2.2.1]
            refine B.run okX11_compartmentByLoad [(85, [0, 1, 2, 3, 4]), (89, [0, 1, 2, 3, 4])] 60 ?_
            refine At.mI [vI (nI i), vI 2] [vI (gw T q)] B.1 (n_c (wT m t) i 2 (by omega)) kX11_c ln_X11_57 F (dcV okX11_compartmentByLoad rfl) ?_
            rw [show zA (wT m t) (10 + 5 * i + 2) = gw T i from (r.2.1 i hic).2.2.1]
            refine B.run okX11_compartmentByLoad [(85, [0, 1, 2, 3, 4]), (89, [0, 1, 2, 3, 4])] 60 ?_
            have el : lbB T q i = (decide (0 < (if ldI T q - ldI T i = 0 then gw T q - gw T i else ldI T q - ldI T i)) || (decide ((if ldI T q - ldI T i = 0 then gw T q - gw T i else ldI T q - ldI T i) = 0) && decide (q < i))) := rfl
            generalize ldI T q - ldI T i = d at el
            constructor
            · intro h
              refine yes ?_
              rw [el, if_neg (fun z => by rw [z] at h; exact absurd h (by decide)), decide_eq_true h]; rfl
            · intro h
              constructor
              · intro h2
                have h2 : d = 0 := h2
                rw [if_pos h2] at el
                constructor
                · intro h3
                  refine yes ?_
                  rw [el, decide_eq_true h3]; rfl
                · intro h3
                  constructor
                  · intro h4
                    have h4 : gw T q - gw T i = 0 := h4
                    constructor
                    · intro h5
                      refine no ?_
                      rw [el, decide_eq_false h3, decide_eq_false (show ¬ q < i from fun z => absurd h5 (nI_ge z (by omega))), Bool.and_false]; rfl
                    · intro h5
                      refine yes ?_
                      rw [el, decide_eq_true h4, decide_eq_true (show q < i from Nat.not_le.mp fun z => h5 (nI_le z (by omega))), Bool.or_comm]; rfl
                  · intro h4
                    have h4 : ¬ gw T q - gw T i = 0 := h4
                    refine no ?_
                    rw [el, decide_eq_false h3, decide_eq_false h4]; rfl
              · intro h2
                have h2 : ¬ d = 0 := h2
                rw [if_neg h2] at el
                refine no ?_
                rw [el, decide_eq_false h, decide_eq_false h2]; rfl
      refine B.run okX11_compartmentByLoad [(17, [0, 1, 2, 3, 4])] 60 ?_
      refine ⟨vk, ?_⟩
      constructor
      · intro h
        have h : zA m 1 ≤ nI i := h
        rw [e1] at h
        exact absurd h (nI_ge (by omega) (by omega))
      · intro _
        exact inner (gc T) 0 (by omega)
  refine B.run okX11_compartmentByLoad [(2, [0, 1, 2])] 60 ?_
  have z := loop (gc T) 0 (by omega) (fun k hk => absurd hk (Nat.not_lt_zero _)) (zT m)
  exact z
theorem n_heaviestPiece (r : RS T (zA m)) (hT : WF T) : Sp 1 0 0 mX11_heaviestPiece [vR 0 0] (mdl m) (PoI (if fHvy T = 0 then gid T (fuN (gwt T) (gp T)) else 0) (mdl (wT m (if fHvy T = 0 then 0 else 1)))) := by
  refine Sp.of' false (fun h => by cases h) (by decide) rfl rfl (Nat.le_of_ble_eq_true rfl) fun γ σ B => ?_
  have F : Fit γ 0 0 0 0 0 := fiW B (by decide) (Nat.zero_le _) (Nat.zero_le _)
  have hp := hT.2.1
  have e2 : zA m 2 = nI (gp T) := r.1.2.2.1
  have tail : ∀ b, (0 < gp T → b = fuN (gwt T) (gp T)) → At γ σ 0 0 39 [(0, vR 0 0), (1, vI (nI b))] [] (mdl m) := by
    intro b hb
    refine B.run okX11_heaviestPiece [] 60 ?_
    refine ⟨vk, ?_⟩
    constructor
    · intro h
      have h : zA m 2 ≤ 0 := h
      rw [e2] at h
      have h0 : gp T = 0 := by
        rcases Nat.eq_zero_or_pos (gp T) with z | z
        · exact z
        · exact absurd h (nI_nle z (by omega))
      have ef : fHvy T = 4 := by unfold fHvy; rw [if_pos h0]
      refine B.run okX11_heaviestPiece [] 60 ?_
      refine At.mI [vI 0] [] B.1 (n_isFine m false) kX11_isFine ln_X11_167 F (dcV okX11_heaviestPiece rfl) ?_
      refine B.run okX11_heaviestPiece [] 60 ?_
      constructor
      · intro _
        exact rI (by rw [ef]; rfl) (by rw [ef]; rfl)
      · intro h2
        exact absurd rfl h2
    · intro h
      have h : ¬ zA m 2 ≤ 0 := h
      rw [e2] at h
      have h0 : 0 < gp T := by
        rcases Nat.eq_zero_or_pos (gp T) with z | z
        · rw [z] at h; exact absurd (show nI 0 ≤ 0 by decide) h
        · exact z
      have ef : fHvy T = 0 := by unfold fHvy; rw [if_neg (by omega)]
      have hbl : b < gp T := by
        rw [hb h0]
        cases hh : gp T with
        | zero => omega
        | succ n => exact fuN_lt (gwt T) n
      refine B.run okX11_heaviestPiece [] 60 ?_
      refine At.mI [vI 1] [] B.1 (n_isFine m true) kX11_isFine ln_X11_167 F (dcV okX11_heaviestPiece rfl) ?_
      refine B.run okX11_heaviestPiece [] 60 ?_
      constructor
      · intro h2
        exact absurd h2 (by decide)
      · intro _
        refine B.run okX11_heaviestPiece [] 60 ?_
        refine At.mI [vI (nI b)] [] B.1 (n_idOf (wT m 0) b (by omega)) kX11_idOf ln_X11_47 F (dcV okX11_heaviestPiece rfl) ?_
        refine B.run okX11_heaviestPiece [] 60 ?_
        exact rI (by rw [if_pos ef, ← hb h0]; exact (r.2.2.1 b hbl).1) (by rw [if_pos ef])
  have loop : ∀ (j i : Nat), i + j = gp T → 1 ≤ i → At γ σ 0 0 4 [(0, vR 0 0), (1, vI (nI (fuN (gwt T) i))), (2, vI (nI i))] [] (mdl m) := by
    intro j
    induction j with
    | zero =>
      intro i hi h1
      have hi : i = gp T := by omega
      refine B.run okX11_heaviestPiece [(39, [0, 1])] 60 ?_
      refine ⟨vk, ?_⟩
      constructor
      · intro _
        exact tail _ (fun _ => by rw [hi])
      · intro h
        have h : ¬ zA m 2 ≤ nI i := h
        rw [e2] at h
        exact absurd (nI_le (by omega) (by omega)) h
    | succ j ih =>
      intro i hi h1
      have hml : fuN (gwt T) i < i := by
        cases i with
        | zero => omega
        | succ n => exact fuN_lt (gwt T) n
      refine B.run okX11_heaviestPiece [(4, [0, 1, 2])] 60 ?_
      refine ⟨vk, ?_⟩
      constructor
      · intro h
        have h : zA m 2 ≤ nI i := h
        rw [e2] at h
        exact absurd h (nI_ge (by omega) (by omega))
      · intro _
        refine B.run okX11_heaviestPiece [(4, [0, 1, 2])] 60 ?_
        refine At.mI [vI (nI i)] [] B.1 (n_heavy m i (by omega)) kX11_heavy ln_X11_54 F (dcV okX11_heaviestPiece rfl) ?_
        rw [(r.2.2.1 i (by omega)).2.1]
        refine B.run okX11_heaviestPiece [(4, [0, 1, 2])] 60 ?_
        refine At.mI [vI (nI (fuN (gwt T) i))] [vI (gwt T i)] B.1 (n_heavy m (fuN (gwt T) i) (by omega)) kX11_heavy ln_X11_54 F (dcV okX11_heaviestPiece rfl) ?_
        rw [(r.2.2.1 (fuN (gwt T) i) (by omega)).2.1]
        have z := ih (i + 1) (by omega) (by omega)
        rw [← nI_1] at z
        unfold fuN at z
        refine B.run okX11_heaviestPiece [(4, [0, 1, 2])] 60 ?_
        constructor
        · intro h
          rw [if_neg (Int32.not_lt.mpr h)] at z
          exact z
        · intro h
          rw [if_pos (Int32.not_le.mp h)] at z
          exact z
  refine B.run okX11_heaviestPiece [(4, [0, 1, 2])] 60 ?_
  rcases Nat.eq_zero_or_pos (gp T) with h0 | h0
  · show At γ σ 0 0 4 [(0, vR 0 0), (1, vI 0), (2, vI 1)] [] (mdl m)
    refine B.run okX11_heaviestPiece [(39, [0, 1])] 60 ?_
    refine ⟨vk, ?_⟩
    constructor
    · intro _
      exact tail 0 (fun z => by omega)
    · intro h
      have h : ¬ zA m 2 ≤ 1 := h
      rw [e2, h0] at h
      exact absurd (show nI 0 ≤ 1 by decide) h
  · have z := loop (gp T - 1) 1 (by omega) (Nat.le_refl _)
    have e1 : fuN (gwt T) 1 = 0 := by unfold fuN; rw [if_neg (show ¬ gwt T (fuN (gwt T) 0) < gwt T 0 from Int32.lt_irrefl)]; rfl
    rw [e1] at z
    show At γ σ 0 0 4 [(0, vR 0 0), (1, vI 0), (2, vI 1)] [] (mdl m)
    exact z
/-- the least of the first n -/
def lstI (f : Nat → Int32) : Nat → Int32
  | 0 => f 0
  | n + 1 => if f (n + 1) < lstI f n then f (n + 1) else lstI f n
theorem n_nextStorm (r : RS T (zA m)) (hT : WF T) : Sp 1 0 0 mX11_nextStorm [vR 0 0] (mdl m) (PoI (if fNxt T = 0 then lstI (gmi T) (gsc T - 1) else 0) (mdl (wT m (if fNxt T = 0 then 0 else 1)))) := by
  refine Sp.of' false (fun h => by cases h) (by decide) rfl rfl (Nat.le_of_ble_eq_true rfl) fun γ σ B => ?_
  have F : Fit γ 0 0 0 0 0 := fiW B (by decide) (Nat.zero_le _) (Nat.zero_le _)
  have hp := hT.2.2.1
  have e7 : zA m 7 = nI (gsc T) := r.1.2.2.2.2.2.2.2.1
  have tail : ∀ v, (0 < gsc T → v = lstI (gmi T) (gsc T - 1)) → At γ σ 0 0 58 [(0, vR 0 0), (1, vI v)] [] (mdl m) := by
    intro v hv
    refine B.run okX11_nextStorm [] 60 ?_
    refine ⟨vk, ?_⟩
    constructor
    · intro h
      have h : zA m 7 ≤ 0 := h
      rw [e7] at h
      have h0 : gsc T = 0 := by
        rcases Nat.eq_zero_or_pos (gsc T) with z | z
        · exact z
        · exact absurd h (nI_nle z (by omega))
      have ef : fNxt T = 4 := by unfold fNxt; rw [if_pos h0]
      refine B.run okX11_nextStorm [] 60 ?_
      refine At.mI [vI 0] [] B.1 (n_isFine m false) kX11_isFine ln_X11_167 F (dcV okX11_nextStorm rfl) ?_
      refine B.run okX11_nextStorm [] 60 ?_
      constructor
      · intro _
        exact rI (by rw [ef]; rfl) (by rw [ef]; rfl)
      · intro h2
        exact absurd rfl h2
    · intro h
      have h : ¬ zA m 7 ≤ 0 := h
      rw [e7] at h
      have h0 : 0 < gsc T := by
        rcases Nat.eq_zero_or_pos (gsc T) with z | z
        · rw [z] at h; exact absurd (show nI 0 ≤ 0 by decide) h
        · exact z
      have ef : fNxt T = 0 := by unfold fNxt; rw [if_neg (by omega)]
      refine B.run okX11_nextStorm [] 60 ?_
      refine At.mI [vI 1] [] B.1 (n_isFine m true) kX11_isFine ln_X11_167 F (dcV okX11_nextStorm rfl) ?_
      refine B.run okX11_nextStorm [] 60 ?_
      constructor
      · intro h2
        exact absurd h2 (by decide)
      · intro _
        exact rI (by rw [if_pos ef, ← hv h0]) (by rw [if_pos ef]; rfl)
  have loop : ∀ (j i : Nat), i + 1 + j = gsc T → At γ σ 0 0 10 [(0, vR 0 0), (1, vI (lstI (gmi T) i)), (2, vI (nI (i + 1)))] [] (mdl m) := by
    intro j
    induction j with
    | zero =>
      intro i hi
      have hi : i + 1 = gsc T := by omega
      refine B.run okX11_nextStorm [(58, [0, 1])] 60 ?_
      refine ⟨vk, ?_⟩
      constructor
      · intro _
        exact tail _ (fun _ => by rw [← hi]; rfl)
      · intro h
        have h : ¬ zA m 7 ≤ nI (i + 1) := h
        rw [e7] at h
        exact absurd (nI_le (by omega) (by omega)) h
    | succ j ih =>
      intro i hi
      have E : (98 : Int32) + 2 * nI (i + 1) = nI (98 + 2 * (i + 1)) := ix2 98 (i + 1)
      have ed : zA m (98 + 2 * (i + 1)) = gmi T (i + 1) := (r.2.2.2.1 (i + 1) (by omega)).1
      refine B.run okX11_nextStorm [(10, [0, 1, 2])] 60 ?_
      refine ⟨vk, ?_⟩
      constructor
      · intro h
        have h : zA m 7 ≤ nI (i + 1) := h
        rw [e7] at h
        exact absurd h (nI_ge (by omega) (by omega))
      · intro _
        have z := ih (i + 1) (by omega)
        rw [← nI_1 (i + 1)] at z
        unfold lstI at z
        refine ⟨by rw [E]; exact vp_in_nI (by omega) (by decide), ?_⟩
        rw [E, nI_clamp (by omega), ed]
        constructor
        · intro h
          rw [if_neg (Int32.not_lt.mpr h)] at z
          exact z
        · intro h
          rw [if_pos (Int32.not_le.mp h)] at z
          refine ⟨by rw [E]; exact vp_in_nI (by omega) (by decide), ?_⟩
          rw [E, nI_clamp (by omega), ed]
          exact z
  refine B.run okX11_nextStorm [(10, [0, 1, 2])] 60 ?_
  refine ⟨vk, ?_⟩
  rcases Nat.eq_zero_or_pos (gsc T) with h0 | h0
  · show At γ σ 0 0 10 [(0, vR 0 0), (1, vI (zA m 98)), (2, vI 1)] [] (mdl m)
    refine B.run okX11_nextStorm [(58, [0, 1])] 60 ?_
    refine ⟨vk, ?_⟩
    constructor
    · intro _
      exact tail _ (fun z => by omega)
    · intro h
      have h : ¬ zA m 7 ≤ 1 := h
      rw [e7, h0] at h
      exact absurd (show nI 0 ≤ 1 by decide) h
  · have z := loop (gsc T - 1) 0 (by omega)
    rw [show lstI (gmi T) 0 = zA m 98 from (r.2.2.2.1 0 h0).1.symm] at z
    show At γ σ 0 0 10 [(0, vR 0 0), (1, vI (zA m 98)), (2, vI 1)] [] (mdl m)
    exact z
theorem n_errorPosition (m : MS) : Sp 1 0 0 mX11_errorPosition [vR 0 0] (mdl m) (PoI (if zEa m = -1 then 0 else zEa m) (mdl (wT m (if zEa m = -1 then 1 else 0)))) := by
  refine Sp.of' false (fun h => by cases h) (by decide) rfl rfl (Nat.le_of_ble_eq_true rfl) fun γ σ B => ?_
  have F : Fit γ 0 0 0 0 0 := fiW B (by decide) (Nat.zero_le _) (Nat.zero_le _)
  refine B.run okX11_errorPosition [] 60 ?_
  constructor
  · intro h
    have h : zEa m = -1 := h
    refine B.run okX11_errorPosition [] 60 ?_
    refine At.mI [vI 0] [] B.1 (n_isFine m false) kX11_isFine ln_X11_167 F (dcV okX11_errorPosition rfl) ?_
    refine B.run okX11_errorPosition [] 60 ?_
    constructor
    · intro _
      exact rI (by rw [if_pos h]) (by rw [if_pos h]; rfl)
    · intro h2
      exact absurd rfl h2
  · intro h
    have h : ¬ zEa m = -1 := h
    refine B.run okX11_errorPosition [] 60 ?_
    refine At.mI [vI 1] [] B.1 (n_isFine m true) kX11_isFine ln_X11_167 F (dcV okX11_errorPosition rfl) ?_
    refine B.run okX11_errorPosition [] 60 ?_
    constructor
    · intro h2
      exact absurd h2 (by decide)
    · intro _
      exact rI (by rw [if_neg h]) (by rw [if_neg h]; rfl)
theorem n_failedCommand (m : MS) : Sp 1 0 0 mX11_failedCommand [vR 0 0] (mdl m) (PoI (if zFa m = -1 then 0 else zFa m) (mdl (wT m (if zFa m = -1 then 1 else 0)))) := by
  refine Sp.of' false (fun h => by cases h) (by decide) rfl rfl (Nat.le_of_ble_eq_true rfl) fun γ σ B => ?_
  have F : Fit γ 0 0 0 0 0 := fiW B (by decide) (Nat.zero_le _) (Nat.zero_le _)
  refine B.run okX11_failedCommand [] 60 ?_
  constructor
  · intro h
    have h : zFa m = -1 := h
    refine B.run okX11_failedCommand [] 60 ?_
    refine At.mI [vI 0] [] B.1 (n_isFine m false) kX11_isFine ln_X11_167 F (dcV okX11_failedCommand rfl) ?_
    refine B.run okX11_failedCommand [] 60 ?_
    constructor
    · intro _
      exact rI (by rw [if_pos h]) (by rw [if_pos h]; rfl)
    · intro h2
      exact absurd rfl h2
  · intro h
    have h : ¬ zFa m = -1 := h
    refine B.run okX11_failedCommand [] 60 ?_
    refine At.mI [vI 1] [] B.1 (n_isFine m true) kX11_isFine ln_X11_167 F (dcV okX11_failedCommand rfl) ?_
    refine B.run okX11_failedCommand [] 60 ?_
    constructor
    · intro h2
      exact absurd h2 (by decide)
    · intro _
      exact rI (by rw [if_neg h]) (by rw [if_neg h]; rfl)
end NR2
