/-! ===== the model: the best transfer ===== -/
def fnC (C : CS) : Int32 := if C.1 = 0 then -1 else 8 * C.2.1 + C.2.2.1
def lsC (C : CS) : Int32 := if C.1 = 0 then 0 else absI C.2.2.2
theorem ix8 (s t : Nat) : (8 : Int32) * nI s + nI t = nI (8 * s + t) := by
  rw [show (8 : Int32) = nI 8 from rfl, nI_mul, nI_add]
theorem fnC_neg {c : Nat} {C : CS} (h : CIn c C) (hc : c ≤ 8) : fnC C < 0 ↔ C.1 = 0 := by
  unfold fnC
  constructor
  · intro q
    by_cases z : C.1 = 0
    · exact z
    · rw [if_neg z] at q
      obtain z' | ⟨s, t, hs, ht, e1, e2⟩ := h
      · exact z'
      · rw [e1, e2, ix8] at q
        exact absurd q (nI_pos (by omega))
  · intro z
    rw [if_pos z]
    decide
section NM
variable {m : MS} {T : SH}
theorem n_isPossible (r : RS T (zA m)) (hT : WF T) (s t : Nat) (a : Int32) (hs : s < gc T) (ht : t < gc T) : Sp 1 0 0 mX11_isPossible [vR 0 0, vI (nI s), vI (nI t), vI a] (mdl m) (PoI (b2 (mvI (gcp T) (gw T) (nI s) (nI t) a)) (mdl m)) := by
  refine Sp.of' false (fun h => by cases h) (by decide) rfl rfl (Nat.le_of_ble_eq_true rfl) fun γ σ B => ?_
  have F : Fit γ 0 0 0 0 0 := fiW B (by decide) (Nat.zero_le _) (Nat.zero_le _)
  have hc := hT.1
  have e : mvI (gcp T) (gw T) (nI s) (nI t) a = (!(decide (nI s = nI t)) && (decide (a ≤ gw T s) && decide (gw T t + a ≤ gcp T t))) := by
    unfold mvI
    rw [nI_clamp (by omega), nI_clamp (by omega)]
  refine B.run okX11_isPossible [] 60 ?_
  constructor
  · intro h
    exact rFa (by rw [e, decide_eq_true h]; rfl)
  · intro h
    refine B.run okX11_isPossible [] 60 ?_
    refine At.mI [vI (nI s), vI 2] [] B.1 (n_c m s 2 (by omega)) kX11_c ln_X11_57 F (dcV okX11_isPossible rfl) ?_
    rw [(r.2.1 s hs).2.2.1]
    refine B.run okX11_isPossible [] 60 ?_
    constructor
    · intro h2
      exact rFa (by rw [e, decide_eq_false (Int32.not_le.mpr h2), Bool.false_and, Bool.and_false])
    · intro h2
      refine B.run okX11_isPossible [] 60 ?_
      refine At.mI [vI (nI t), vI 2] [] B.1 (n_c m t 2 (by omega)) kX11_c ln_X11_57 F (dcV okX11_isPossible rfl) ?_
      rw [(r.2.1 t ht).2.2.1]
      refine B.run okX11_isPossible [] 60 ?_
      refine At.mI [vI (nI t), vI 1] [vI (gw T t + a)] B.1 (n_c m t 1 (by omega)) kX11_c ln_X11_57 F (dcV okX11_isPossible rfl) ?_
      rw [(r.2.1 t ht).2.1]
      refine B.run okX11_isPossible [] 60 ?_
      constructor
      · intro h3
        exact rFa (by rw [e, decide_eq_false (Int32.not_le.mpr h3), Bool.and_false, Bool.and_false])
      · intro h3
        exact rT (by rw [e, decide_eq_false h, decide_eq_true (Int32.not_lt.mp h2), decide_eq_true (Int32.not_lt.mp h3)]; rfl)
theorem n_best (r : RS T (zA m)) (hT : WF T) (a : Int32) (C : CS) : Sp 4 0 0 mX11_best [vR 0 0, vI a] (mdl m) (PoI (fnC (bS T a (tmI T) C)) (mdl m)) := by
  refine Sp.of' false (fun h => by cases h) (by decide) rfl rfl (Nat.le_of_ble_eq_true rfl) fun γ σ B => ?_
  have F : Fit γ 0 0 0 0 0 := fiW B (by decide) (Nat.zero_le _) (Nat.zero_le _)
  have F1 : Fit γ 0 0 1 0 0 := fiW B (by decide) (Nat.zero_le _) (Nat.zero_le _)
  have F3 : Fit γ 0 0 3 0 0 := fiW B (by decide) (Nat.zero_le _) (Nat.zero_le _)
  have e1 : zA m 1 = nI (gc T) := r.1.2.1
  have hc := hT.1
  have c0 : CIn (gc T) ((0, C.2) : CS) := Or.inl rfl
  have inner : ∀ s, s < gc T → (At γ σ 0 0 106 [(0, vR 0 0), (1, vI a), (2, vI (fnC (tIn (gcp T) (gw T) (gar T) a (tmI T) s (tOut (gcp T) (gw T) (gar T) a (tmI T) (gc T) (0, C.2) s) (gc T)))), (3, vI (lsC (tIn (gcp T) (gw T) (gar T) a (tmI T) s (tOut (gcp T) (gw T) (gar T) a (tmI T) (gc T) (0, C.2) s) (gc T)))), (4, vI (tmI T)), (5, vI (nI s))] [] (mdl m)) →
      ∀ (j t : Nat), t + j = gc T → At γ σ 0 0 27 [(0, vR 0 0), (1, vI a), (2, vI (fnC (tIn (gcp T) (gw T) (gar T) a (tmI T) s (tOut (gcp T) (gw T) (gar T) a (tmI T) (gc T) (0, C.2) s) t))), (3, vI (lsC (tIn (gcp T) (gw T) (gar T) a (tmI T) s (tOut (gcp T) (gw T) (gar T) a (tmI T) (gc T) (0, C.2) s) t))), (4, vI (tmI T)), (5, vI (nI s)), (6, vI (nI t))] [] (mdl m) := by
    intro s hs nx j
    induction j with
    | zero =>
      intro t ht
      have ht : t = gc T := by omega
      subst ht
      refine B.run okX11_best [(106, [0, 1, 2, 3, 4, 5])] 60 ?_
      refine ⟨vk, ?_⟩
      constructor
      · intro _
        exact nx
      · intro h
        have h : ¬ zA m 1 ≤ nI (gc T) := h
        rw [e1] at h
        exact absurd (nI_le (Nat.le_refl _) (by omega)) h
    | succ j ih =>
      intro t ht
      have htc : t < gc T := by omega
      have z := ih (t + 1) (by omega)
      have cin : CIn (gc T) (tIn (gcp T) (gw T) (gar T) a (tmI T) s (tOut (gcp T) (gw T) (gar T) a (tmI T) (gc T) (0, C.2) s) t) := CIn_in hs (CIn_out c0 s (by omega)) t (by omega)
      have ez : tIn (gcp T) (gw T) (gar T) a (tmI T) s (tOut (gcp T) (gw T) (gar T) a (tmI T) (gc T) (0, C.2) s) (t + 1) = if mvI (gcp T) (gw T) (nI s) (nI t) a = true then offS (tIn (gcp T) (gw T) (gar T) a (tmI T) s (tOut (gcp T) (gw T) (gar T) a (tmI T) (gc T) (0, C.2) s) t) (nI s) (nI t) (tmI T + a * (gar T t - gar T s)) else tIn (gcp T) (gw T) (gar T) a (tmI T) s (tOut (gcp T) (gw T) (gar T) a (tmI T) (gc T) (0, C.2) s) t := rfl
      rw [ez, ← nI_1] at z
      clear ez
      generalize tIn (gcp T) (gw T) (gar T) a (tmI T) s (tOut (gcp T) (gw T) (gar T) a (tmI T) (gc T) (0, C.2) s) t = X at z cin ⊢
      refine B.run okX11_best [(27, [0, 1, 2, 3, 4, 5, 6])] 60 ?_
      refine ⟨vk, ?_⟩
      constructor
      · intro h
        have h : zA m 1 ≤ nI t := h
        rw [e1] at h
        exact absurd h (nI_ge (by omega) (by omega))
      · intro _
        refine At.mI [vI (nI t), vI 0] [vI a, vI (tmI T)] B.1 (n_c m t 0 (by omega)) kX11_c ln_X11_57 F (dcV okX11_best rfl) ?_
        rw [show zA m (10 + 5 * t + 0) = gar T t from (r.2.1 t htc).1]
        refine B.run okX11_best [(27, [0, 1, 2, 3, 4, 5, 6])] 60 ?_
        refine At.mI [vI (nI s), vI 0] [vI (gar T t), vI a, vI (tmI T)] B.1 (n_c m s 0 (by omega)) kX11_c ln_X11_57 F (dcV okX11_best rfl) ?_
        rw [show zA m (10 + 5 * s + 0) = gar T s from (r.2.1 s hs).1]
        refine B.run okX11_best [(27, [0, 1, 2, 3, 4, 5, 6])] 60 ?_
        refine At.mS [vI (tmI T + a * (gar T t - gar T s))] [] B.1 (n_size (tmI T + a * (gar T t - gar T s))) kX11_size ln_X11_98 F (dcS okX11_best rfl) ?_
        generalize tmI T + a * (gar T t - gar T s) = y at z
        refine B.run okX11_best [(27, [0, 1, 2, 3, 4, 5, 6])] 60 ?_
        refine At.mI [vI (nI s), vI (nI t), vI a] [] B.1 (n_isPossible r hT s t a hs htc) kX11_isPossible ln_X11_101 F1 (dcV okX11_best rfl) ?_
        refine B.run okX11_best [(27, [0, 1, 2, 3, 4, 5, 6]), (88, [0, 1, 2, 3, 4, 5, 6, 7]), (100, [0, 1, 2, 3, 4, 5, 6])] 60 ?_
        have skip : At γ σ 0 0 27 [(0, vR 0 0), (1, vI a), (2, vI (fnC X)), (3, vI (lsC X)), (4, vI (tmI T)), (5, vI (nI s)), (6, vI (nI t + 1))] [] (mdl m) → At γ σ 0 0 100 [(0, vR 0 0), (1, vI a), (2, vI (fnC X)), (3, vI (lsC X)), (4, vI (tmI T)), (5, vI (nI s)), (6, vI (nI t))] [] (mdl m) := fun w => by
          refine B.run okX11_best [(27, [0, 1, 2, 3, 4, 5, 6])] 60 ?_
          exact w
        constructor
        · intro h
          rw [if_neg (by rw [b2_eq0.mp h]; decide)] at z
          exact skip z
        · intro h
          rw [if_pos (b2_ne0.mp h)] at z
          have take : (X.1 = 0 ∨ absI y < absI X.2.2.2) → At γ σ 0 0 88 [(0, vR 0 0), (1, vI a), (2, vI (fnC X)), (3, vI (lsC X)), (4, vI (tmI T)), (5, vI (nI s)), (6, vI (nI t)), (7, vI (absI y))] [] (mdl m) := fun w => by
            unfold offS at z
            rw [if_pos w] at z
            refine B.run okX11_best [(27, [0, 1, 2, 3, 4, 5, 6])] 60 ?_
            exact z
          constructor
          · intro h2
            exact take (Or.inl ((fnC_neg cin hc).mp h2))
          · intro h2
            have hx : ¬ X.1 = 0 := fun w => h2 ((fnC_neg cin hc).mpr w)
            have el : lsC X = absI X.2.2.2 := by unfold lsC; rw [if_neg hx]
            constructor
            · intro h3
              rw [el] at h3
              exact take (Or.inr h3)
            · intro h3
              rw [el] at h3
              unfold offS at z
              rw [if_neg (fun w => w.elim hx h3)] at z
              exact skip z
  have outer : ∀ (j s : Nat), s + j = gc T → At γ σ 0 0 13 [(0, vR 0 0), (1, vI a), (2, vI (fnC (tOut (gcp T) (gw T) (gar T) a (tmI T) (gc T) (0, C.2) s))), (3, vI (lsC (tOut (gcp T) (gw T) (gar T) a (tmI T) (gc T) (0, C.2) s))), (4, vI (tmI T)), (5, vI (nI s))] [] (mdl m) := by
    intro j
    induction j with
    | zero =>
      intro s hs
      have hs : s = gc T := by omega
      refine B.run okX11_best [(13, [0, 1, 2, 3, 4, 5])] 60 ?_
      refine ⟨vk, ?_⟩
      constructor
      · intro _
        exact rI (by rw [hs]; rfl)
      · intro h
        have h : ¬ zA m 1 ≤ nI s := h
        rw [e1] at h
        exact absurd (nI_le (by omega) (by omega)) h
    | succ j ih =>
      intro s hs
      refine B.run okX11_best [(27, [0, 1, 2, 3, 4, 5, 6])] 60 ?_
      refine ⟨vk, ?_⟩
      constructor
      · intro h
        have h : zA m 1 ≤ nI s := h
        rw [e1] at h
        exact absurd h (nI_ge (by omega) (by omega))
      · intro _
        refine inner s (by omega) ?_ (gc T) 0 (by omega)
        have z := ih (s + 1) (by omega)
        rw [← nI_1] at z
        refine B.run okX11_best [(13, [0, 1, 2, 3, 4, 5])] 60 ?_
        exact z
  refine B.run okX11_best [(13, [0, 1, 2, 3, 4, 5])] 60 ?_
  refine At.mI [] [] B.1 (n_turning r hT) kX11_turning ln_X11_95 F3 (dcV okX11_best rfl) ?_
  refine B.run okX11_best [(13, [0, 1, 2, 3, 4, 5])] 60 ?_
  exact outer (gc T) 0 (by omega)
/-- row 0 holds T now, and 'result' x; nothing else has changed -/
def CHR (m m' : MS) (T : SH) (x : Int32) : Prop := RS T (zA m') ∧ (∀ j, 116 ≤ j → zA m' j = zA m j) ∧ m'.2 = (wR m x).2
/-- a change: done (0), or not, and then row 0 and 'result' may hold anything -/
def CQ' (q : Nat) (m m' : MS) (T : SH) (x : Int32) : Prop := (∀ j, 116 ≤ j → zA m' j = zA m j) ∧ (∃ y, m'.2 = (wR m y).2) ∧ (q = 0 → RS T (zA m') ∧ zR m' = x)
theorem CHR.q {m m' : MS} {T : SH} {x : Int32} {q : Nat} (h : CHR m m' T x) : CQ' q m m' T x := ⟨h.2.1, ⟨x, h.2.2⟩, fun _ => ⟨h.1, by
  show m'.2.1.2.2.2 = x
  rw [h.2.2]⟩⟩
theorem CQ'.no {m : MS} {T : SH} {x : Int32} {q : Nat} (h : q ≠ 0) : CQ' q m m T x := ⟨fun _ _ => rfl, ⟨zR m, rfl⟩, fun z => absurd z h⟩
theorem n_moves (r : RS T (zA m)) (hT : WF T) (s t : Nat) (a : Int32) (hs : s < gc T) (ht : t < gc T) : Sp 4 0 0 mX11_moves [vR 0 0, vI (nI s), vI (nI t), vI a] (mdl m) (PoE none (fun m' => CHR m m' (eMovN T s t a) (tmI (eMovN T s t a)))) := by
  refine Sp.of' false (fun h => by cases h) (by decide) rfl rfl (Nat.le_of_ble_eq_true rfl) fun γ σ B => ?_
  have F : Fit γ 0 0 0 0 0 := fiW B (by decide) (Nat.zero_le _) (Nat.zero_le _)
  have F3 : Fit γ 0 0 3 0 0 := fiW B (by decide) (Nat.zero_le _) (Nat.zero_le _)
  have hc := hT.1
  refine B.run okX11_moves [] 60 ?_
  refine At.mI [vI (nI s), vI 2] [vI 2, vI (nI s), vR 0 0] B.1 (n_c m s 2 (by omega)) kX11_c ln_X11_57 F (dcV okX11_moves rfl) ?_
  rw [(r.2.1 s hs).2.2.1]
  refine B.run okX11_moves [] 60 ?_
  refine At.mV [vI (nI s), vI 2, vI (gw T s - a)] [] B.1 (n_set m s 2 (gw T s - a) (by omega)) kX11_set ln_X11_77 F (dcV okX11_moves rfl) ?_
  have R1 := r.setW (i := s) hT (by omega) (gw T s - a)
  refine B.run okX11_moves [] 60 ?_
  refine At.mI [vI (nI t), vI 2] [vI 2, vI (nI t), vR 0 0] B.1 (n_c (wA m (upd (zA m) (10 + 5 * s + 2) (gw T s - a))) t 2 (by omega)) kX11_c ln_X11_57 F (dcV okX11_moves rfl) ?_
  rw [show zA (wA m (upd (zA m) (10 + 5 * s + 2) (gw T s - a))) (10 + 5 * t + 2) = upd (gw T) s (gw T s - a) t from (R1.2.1 t ht).2.2.1]
  refine B.run okX11_moves [] 60 ?_
  refine At.mV [vI (nI t), vI 2, vI (upd (gw T) s (gw T s - a) t + a)] [] B.1 (n_set (wA m (upd (zA m) (10 + 5 * s + 2) (gw T s - a))) t 2 (upd (gw T) s (gw T s - a) t + a) (by omega)) kX11_set ln_X11_77 F (dcV okX11_moves rfl) ?_
  have R2 := R1.setW (i := t) hT (by omega) (upd (gw T) s (gw T s - a) t + a)
  obtain ⟨f2, hf2⟩ : ∃ f2, f2 = upd (upd (zA m) (10 + 5 * s + 2) (gw T s - a)) (10 + 5 * t + 2) (upd (gw T) s (gw T s - a) t + a) := ⟨_, rfl⟩
  have R3 : RS (eMovN T s t a) f2 := by rw [hf2]; exact R2
  show At γ σ 0 0 28 _ _ (mdl (wA m (upd (upd (zA m) (10 + 5 * s + 2) (gw T s - a)) (10 + 5 * t + 2) (upd (gw T) s (gw T s - a) t + a))))
  have hk : ∀ j, 116 ≤ j → f2 j = zA m j := fun j hj => by rw [hf2, upd_ne _ _ (by omega), upd_ne _ _ (by omega)]
  rw [← hf2]
  clear hf2
  refine B.run okX11_moves [] 60 ?_
  refine At.mI [] [vR 0 0] B.1 (n_turning (m := wA m f2) R3 hT) kX11_turning ln_X11_95 F3 (dcV okX11_moves rfl) ?_
  refine B.run okX11_moves [] 60 ?_
  exact ⟨trivial, rE (m' := wR (wA m f2) (tmI (eMovN T s t a))) (P := fun m' => CHR m m' (eMovN T s t a) (tmI (eMovN T s t a))) ⟨R3, hk, rfl⟩ rfl⟩
end NM
