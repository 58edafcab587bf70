/-! ===== the model: the best move of a piece; trials ===== -/
def gOff (p : Int32 × Int32) (f z : Int32) : Int32 × Int32 := if p.1 < 0 ∨ absI z < p.2 then (f, absI z) else p
def gIn (T : SH) (k : Nat) (p : Int32 × Int32) : Nat → Int32 × Int32
  | 0 => p
  | t + 1 => if nI t = gpl T k then gIn T k p t else gOff (gIn T k p t) (8 * nI k + nI t) (tmI T + gwt T k * (gar T t - gar T (gpl T k).toNatClampNeg))
def gOut (T : SH) : Nat → Int32 × Int32
  | 0 => (-1, 0)
  | k + 1 => gIn T k (gOut T k) (gc T)
def HC (T : SH) (C : CS) (p : Int32 × Int32) : Prop := (C.1 = 0 ∧ p = (-1, 0)) ∨ (¬ C.1 = 0 ∧ ∃ k t, k < gp T ∧ t < gc T ∧ p.1 = nI (8 * k + t) ∧ C.2.1 = gid T k ∧ C.2.2.1 = nI t ∧ p.2 = absI C.2.2.2)
theorem HC_off {T : SH} (hT : WF T) {C : CS} {p : Int32 × Int32} (h : HC T C p) {k t : Nat} (hk : k < gp T) (ht : t < gc T) (z : Int32) : HC T (offS C (gid T k) (nI t) z) (gOff p (8 * nI k + nI t) z) := by
  have hp := hT.2.1
  have hc := hT.1
  have new : HC T (1, gid T k, nI t, z) (8 * nI k + nI t, absI z) := Or.inr ⟨by show ¬ (1 : Int32) = 0; decide, k, t, hk, ht, ix8 k t, rfl, rfl, rfl⟩
  unfold offS gOff
  obtain ⟨h1, h2⟩ | ⟨h1, k', t', hk', ht', e1, e2, e3, e4⟩ := h
  · rw [if_pos (Or.inl h1), if_pos (Or.inl (by rw [h2]; decide))]
    exact new
  · have hn : ¬ p.1 < 0 := by rw [e1]; exact nI_pos (by omega)
    by_cases q : absI z < absI C.2.2.2
    · rw [if_pos (Or.inr q), if_pos (Or.inr (by rw [e4]; exact q))]
      exact new
    · rw [if_neg (fun w => w.elim h1 q), if_neg (fun w => w.elim hn (by rw [e4]; exact q))]
      exact Or.inr ⟨h1, k', t', hk', ht', e1, e2, e3, e4⟩
theorem HC_in {T : SH} (hT : WF T) {k : Nat} (hk : k < gp T) {C : CS} {p : Int32 × Int32} (h : HC T C p) : ∀ t, t ≤ gc T → HC T (hIn T k C t) (gIn T k p t)
  | 0, _ => h
  | t + 1, ht => by
    unfold hIn gIn
    by_cases q : nI t = gpl T k
    · rw [if_pos q, if_pos q]; exact HC_in hT hk h t (by omega)
    · rw [if_neg q, if_neg q]; exact HC_off hT (HC_in hT hk h t (by omega)) hk (by omega) _
theorem HC_out {T : SH} (hT : WF T) {C : CS} (h : C.1 = 0) : ∀ k, k ≤ gp T → HC T (hOut T C k) (gOut T k)
  | 0, _ => Or.inl ⟨h, rfl⟩
  | k + 1, hk => by
    unfold hOut gOut
    exact HC_in hT (by omega) (HC_out hT h k (by omega)) _ (Nat.le_refl _)
theorem HC_bst {T : SH} (hT : WF T) (C : CS) : HC T (bstH T C) (gOut T (gp T)) := HC_out hT rfl _ (Nat.le_refl _)
section NH
variable {m : MS} {T : SH}
theorem n_bestShift (r : RS T (zA m)) (hT : WF T) : Sp 4 0 0 mX11_bestShift [vR 0 0] (mdl m) (PoI (gOut T (gp T)).1 (mdl m)) := by
  refine Sp.of' false (fun h => by cases h) (by decide) rfl rfl (Nat.le_of_ble_eq_true rfl) fun γ σ B => ?_
  have F : Fit γ 0 0 0 0 0 := fiW B (by decide) (Nat.zero_le _) (Nat.zero_le _)
  have F3 : Fit γ 0 0 3 0 0 := fiW B (by decide) (Nat.zero_le _) (Nat.zero_le _)
  have e1 : zA m 1 = nI (gc T) := r.1.2.1
  have e2 : zA m 2 = nI (gp T) := r.1.2.2.1
  have hc := hT.1
  have hp := hT.2.1
  have inner : ∀ k, k < gp T → (At γ σ 0 0 112 [(0, vR 0 0), (1, vI (gIn T k (gOut T k) (gc T)).1), (2, vI (gIn T k (gOut T k) (gc T)).2), (3, vI (tmI T)), (4, vI (nI k))] [] (mdl m)) →
      ∀ (j t : Nat), t + j = gc T → At γ σ 0 0 26 [(0, vR 0 0), (1, vI (gIn T k (gOut T k) t).1), (2, vI (gIn T k (gOut T k) t).2), (3, vI (tmI T)), (4, vI (nI k)), (5, vI (nI t))] [] (mdl m) := by
    intro k hk nx j
    induction j with
    | zero =>
      intro t ht
      have ht : t = gc T := by omega
      subst ht
      refine B.run okX11_bestShift [(112, [0, 1, 2, 3, 4])] 60 ?_
      refine ⟨vk, ?_⟩
      constructor
      · intro _
        exact nx
      · intro h
        have h : ¬ zA m 1 ≤ nI (gc T) := h
        rw [e1] at h
        exact absurd (nI_le (Nat.le_refl _) (by omega)) h
    | succ j ih =>
      intro t ht
      have htc : t < gc T := by omega
      have z := ih (t + 1) (by omega)
      have ez : gIn T k (gOut T k) (t + 1) = if nI t = gpl T k then gIn T k (gOut T k) t else gOff (gIn T k (gOut T k) t) (8 * nI k + nI t) (tmI T + gwt T k * (gar T t - gar T (gpl T k).toNatClampNeg)) := rfl
      rw [ez, ← nI_1] at z
      clear ez
      generalize gIn T k (gOut T k) t = X at z ⊢
      obtain ⟨w, hw, ew⟩ := hT.2.2.2.2.2 k hk
      have ep := r.2.2.1 k hk
      rw [ew, nI_clamp (by omega)] at z
      refine B.run okX11_bestShift [(26, [0, 1, 2, 3, 4, 5])] 60 ?_
      refine ⟨vk, ?_⟩
      constructor
      · intro h
        have h : zA m 1 ≤ nI t := h
        rw [e1] at h
        exact absurd h (nI_ge (by omega) (by omega))
      · intro _
        refine B.run okX11_bestShift [(26, [0, 1, 2, 3, 4, 5])] 60 ?_
        refine At.mI [vI (nI k)] [vI (tmI T)] B.1 (n_heavy m k (by omega)) kX11_heavy ln_X11_54 F (dcV okX11_bestShift rfl) ?_
        rw [ep.2.1]
        refine B.run okX11_bestShift [(26, [0, 1, 2, 3, 4, 5])] 60 ?_
        refine At.mI [vI (nI t), vI 0] [vI (gwt T k), vI (tmI T)] B.1 (n_c m t 0 (by omega)) kX11_c ln_X11_57 F (dcV okX11_bestShift rfl) ?_
        rw [show zA m (10 + 5 * t + 0) = gar T t from (r.2.1 t htc).1]
        refine B.run okX11_bestShift [(26, [0, 1, 2, 3, 4, 5])] 60 ?_
        refine At.mI [vI (nI k)] [vR 0 0, vI (gar T t), vI (gwt T k), vI (tmI T)] B.1 (n_lies m k (by omega)) kX11_lies ln_X11_51 F (dcV okX11_bestShift rfl) ?_
        rw [ep.2.2, ew]
        refine B.run okX11_bestShift [(26, [0, 1, 2, 3, 4, 5])] 60 ?_
        refine At.mI [vI (nI w), vI 0] [vI (gar T t), vI (gwt T k), vI (tmI T)] B.1 (n_c m w 0 (by omega)) kX11_c ln_X11_57 F (dcV okX11_bestShift rfl) ?_
        rw [show zA m (10 + 5 * w + 0) = gar T w from (r.2.1 w hw).1]
        refine B.run okX11_bestShift [(26, [0, 1, 2, 3, 4, 5])] 60 ?_
        refine At.mS [vI (tmI T + gwt T k * (gar T t - gar T w))] [] B.1 (n_size (tmI T + gwt T k * (gar T t - gar T w))) kX11_size ln_X11_98 F (dcS okX11_bestShift rfl) ?_
        generalize tmI T + gwt T k * (gar T t - gar T w) = y at z
        refine B.run okX11_bestShift [(26, [0, 1, 2, 3, 4, 5])] 60 ?_
        refine At.mI [vI (nI k)] [vI (nI t)] B.1 (n_lies m k (by omega)) kX11_lies ln_X11_51 F (dcV okX11_bestShift rfl) ?_
        rw [ep.2.2, ew]
        have skip : At γ σ 0 0 26 [(0, vR 0 0), (1, vI X.1), (2, vI X.2), (3, vI (tmI T)), (4, vI (nI k)), (5, vI (nI t + 1))] [] (mdl m) → At γ σ 0 0 106 [(0, vR 0 0), (1, vI X.1), (2, vI X.2), (3, vI (tmI T)), (4, vI (nI k)), (5, vI (nI t))] [] (mdl m) := fun w => by
          refine B.run okX11_bestShift [(26, [0, 1, 2, 3, 4, 5])] 60 ?_
          exact w
        refine B.run okX11_bestShift [(94, [0, 1, 2, 3, 4, 5, 6]), (106, [0, 1, 2, 3, 4, 5])] 60 ?_
        constructor
        · intro h
          rw [if_pos h] at z
          exact skip z
        · intro h
          rw [if_neg h] at z
          have take : (X.1 < 0 ∨ absI y < X.2) → At γ σ 0 0 94 [(0, vR 0 0), (1, vI X.1), (2, vI X.2), (3, vI (tmI T)), (4, vI (nI k)), (5, vI (nI t)), (6, vI (absI y))] [] (mdl m) := fun w => by
            unfold gOff at z
            rw [if_pos w] at z
            refine B.run okX11_bestShift [(26, [0, 1, 2, 3, 4, 5])] 60 ?_
            exact z
          constructor
          · intro h2
            exact take (Or.inl h2)
          · intro h2
            constructor
            · intro h3
              exact take (Or.inr h3)
            · intro h3
              unfold gOff at z
              rw [if_neg (fun w => w.elim h2 h3)] at z
              exact skip z
  have outer : ∀ (j k : Nat), k + j = gp T → At γ σ 0 0 12 [(0, vR 0 0), (1, vI (gOut T k).1), (2, vI (gOut T k).2), (3, vI (tmI T)), (4, vI (nI k))] [] (mdl m) := by
    intro j
    induction j with
    | zero =>
      intro k hk
      have hk : k = gp T := by omega
      refine B.run okX11_bestShift [(12, [0, 1, 2, 3, 4])] 60 ?_
      refine ⟨vk, ?_⟩
      constructor
      · intro _
        exact rI (by rw [hk])
      · intro h
        have h : ¬ zA m 2 ≤ nI k := h
        rw [e2] at h
        exact absurd (nI_le (by omega) (by omega)) h
    | succ j ih =>
      intro k hk
      refine B.run okX11_bestShift [(26, [0, 1, 2, 3, 4, 5])] 60 ?_
      refine ⟨vk, ?_⟩
      constructor
      · intro h
        have h : zA m 2 ≤ nI k := h
        rw [e2] at h
        exact absurd h (nI_ge (by omega) (by omega))
      · intro _
        refine inner k (by omega) ?_ (gc T) 0 (by omega)
        have z := ih (k + 1) (by omega)
        rw [← nI_1] at z
        refine B.run okX11_bestShift [(12, [0, 1, 2, 3, 4])] 60 ?_
        exact z
  refine B.run okX11_bestShift [(12, [0, 1, 2, 3, 4])] 60 ?_
  refine At.mI [] [] B.1 (n_turning r hT) kX11_turning ln_X11_95 F3 (dcV okX11_bestShift rfl) ?_
  refine B.run okX11_bestShift [(12, [0, 1, 2, 3, 4])] 60 ?_
  exact outer (gp T) 0 (by omega)
theorem div8' : ∀ n, n < 136 → nI n / 8 = nI (n / 8) := by decide +kernel
theorem mod8' : ∀ n, n < 136 → nI n - nI n / 8 * 8 = nI (n % 8) := by decide +kernel
theorem n_bestShiftPiece (r : RS T (zA m)) (hT : WF T) (C : CS) : Sp 5 0 0 mX11_bestShiftPiece [vR 0 0] (mdl m) (PoI (if fBS T C = 0 then (bstH T C).2.1 else 0) (mdl (wT m (if fBS T C = 0 then 0 else 1)))) := by
  refine Sp.of' false (fun h => by cases h) (by decide) rfl rfl (Nat.le_of_ble_eq_true rfl) fun γ σ B => ?_
  have F : Fit γ 0 0 0 0 0 := fiW B (by decide) (Nat.zero_le _) (Nat.zero_le _)
  have F4 : Fit γ 0 0 4 0 0 := fiW B (by decide) (Nat.zero_le _) (Nat.zero_le _)
  have hp := hT.2.1
  have hc := hT.1
  refine B.run okX11_bestShiftPiece [] 60 ?_
  refine At.mI [] [] B.1 (n_bestShift r hT) kX11_bestShift ln_X11_190 F4 (dcV okX11_bestShiftPiece rfl) ?_
  refine B.run okX11_bestShiftPiece [] 60 ?_
  obtain ⟨h1, h2⟩ | ⟨h1, k, t, hk, ht, q1, q2, q3, q4⟩ := HC_bst hT C
  · have ef : fBS T C = 4 := by unfold fBS; rw [if_pos h1]
    rw [h2]
    constructor
    · intro _
      refine B.run okX11_bestShiftPiece [] 60 ?_
      refine At.mI [vI 0] [] B.1 (n_isFine m false) kX11_isFine ln_X11_167 F (dcV okX11_bestShiftPiece rfl) ?_
      refine B.run okX11_bestShiftPiece [] 60 ?_
      constructor
      · intro _
        exact rI (by rw [ef]; rfl) (by rw [ef]; rfl)
      · intro w
        exact absurd rfl w
    · intro w
      exact absurd (show (-1 : Int32) < 0 by decide) w
  · have ef : fBS T C = 0 := by unfold fBS; rw [if_neg h1]
    rw [q1]
    constructor
    · intro w
      exact absurd w (nI_pos (by omega))
    · intro _
      refine B.run okX11_bestShiftPiece [] 60 ?_
      refine At.mI [vI 1] [] B.1 (n_isFine m true) kX11_isFine ln_X11_167 F (dcV okX11_bestShiftPiece rfl) ?_
      refine B.run okX11_bestShiftPiece [] 60 ?_
      constructor
      · intro w
        exact absurd w (by decide)
      · intro _
        refine ⟨by decide, ?_⟩
        have SI : Sp 0 0 0 mX11_idOf [vR 0 0, vI (nI (8 * k + t) / 8)] (mdl (wT m 0)) (PoI (gid T k) (mdl (wT m 0))) := by
          rw [div8' _ (by omega), show (8 * k + t) / 8 = k by omega]
          have z := n_idOf (wT m 0) k (by omega)
          rw [show zA (wT m 0) (50 + 3 * k) = gid T k from (r.2.2.1 k hk).1] at z
          exact z
        refine At.mI [vI (nI (8 * k + t) / 8)] [] B.1 SI kX11_idOf ln_X11_47 F (dcV okX11_bestShiftPiece rfl) ?_
        refine B.run okX11_bestShiftPiece [] 60 ?_
        exact rI (by rw [if_pos ef, q2]) (by rw [if_pos ef])
theorem n_bestShiftCompartment (r : RS T (zA m)) (hT : WF T) (C : CS) : Sp 5 0 0 mX11_bestShiftCompartment [vR 0 0] (mdl m) (PoI (if fBS T C = 0 then (bstH T C).2.2.1 else 0) (mdl (wT m (if fBS T C = 0 then 0 else 1)))) := by
  refine Sp.of' false (fun h => by cases h) (by decide) rfl rfl (Nat.le_of_ble_eq_true rfl) fun γ σ B => ?_
  have F : Fit γ 0 0 0 0 0 := fiW B (by decide) (Nat.zero_le _) (Nat.zero_le _)
  have F4 : Fit γ 0 0 4 0 0 := fiW B (by decide) (Nat.zero_le _) (Nat.zero_le _)
  have hp := hT.2.1
  have hc := hT.1
  refine B.run okX11_bestShiftCompartment [] 60 ?_
  refine At.mI [] [] B.1 (n_bestShift r hT) kX11_bestShift ln_X11_190 F4 (dcV okX11_bestShiftCompartment rfl) ?_
  refine B.run okX11_bestShiftCompartment [] 60 ?_
  obtain ⟨h1, h2⟩ | ⟨h1, k, t, hk, ht, q1, q2, q3, q4⟩ := HC_bst hT C
  · have ef : fBS T C = 4 := by unfold fBS; rw [if_pos h1]
    rw [h2]
    constructor
    · intro _
      refine B.run okX11_bestShiftCompartment [] 60 ?_
      refine At.mI [vI 0] [] B.1 (n_isFine m false) kX11_isFine ln_X11_167 F (dcV okX11_bestShiftCompartment rfl) ?_
      refine B.run okX11_bestShiftCompartment [] 60 ?_
      constructor
      · intro _
        exact rI (by rw [ef]; rfl) (by rw [ef]; rfl)
      · intro w
        exact absurd rfl w
    · intro w
      exact absurd (show (-1 : Int32) < 0 by decide) w
  · have ef : fBS T C = 0 := by unfold fBS; rw [if_neg h1]
    rw [q1]
    constructor
    · intro w
      exact absurd w (nI_pos (by omega))
    · intro _
      refine B.run okX11_bestShiftCompartment [] 60 ?_
      refine At.mI [vI 1] [] B.1 (n_isFine m true) kX11_isFine ln_X11_167 F (dcV okX11_bestShiftCompartment rfl) ?_
      refine B.run okX11_bestShiftCompartment [] 60 ?_
      constructor
      · intro w
        exact absurd w (by decide)
      · intro _
        refine ⟨by decide, ?_⟩
        exact rI (by rw [if_pos ef, q3, mod8' _ (by omega), show (8 * k + t) % 8 = t by omega]) (by rw [if_pos ef]; rfl)
/-- a read that tries: the rows but the last are kept -/
def RD (th : Int32) (m m' : MS) : Prop := (∃ y, m'.2 = (wR (wT m th) y).2) ∧ ∀ j, j < 1276 → zA m' j = zA m j
theorem cp_back {f g : FI} (h : ∀ j, 116 ≤ j → g j = cpF f 0 11 j) : ∀ j, j < 1276 → cpF g 11 0 j = f j := fun j hj => by
  unfold cpF
  by_cases z : j < 116
  · rw [if_pos (by omega), h _ (by omega)]
    unfold cpF
    rw [if_pos (by omega)]
    exact congrArg _ (by omega)
  · rw [if_neg (by omega), h _ (by omega)]
    unfold cpF
    rw [if_neg (by omega)]
theorem cp_agree {T : SH} {f : FI} (r : RS T f) (hT : WF T) : RS T (cpF f 0 11) := r.agree (fun j hj => by
  unfold cpF
  rw [if_neg (by omega)]) hT
theorem n_momentAfter (r : RS T (zA m)) (hT : WF T) (x : Int32) (hp : wiB x 0 120 = true → PKs x.toNatClampNeg T) : Sp 5 0 0 mX11_momentAfter [vR 0 0, vI x] (mdl m) (PoE (some (vI (if fMA x = 0 then tmI (tks x.toNatClampNeg T) else 0))) (RD (nI (thr (fMA x) 0 1 0 0)) m)) := by
  refine Sp.of' false (fun h => by cases h) (by decide) rfl rfl (Nat.le_of_ble_eq_true rfl) fun γ σ B => ?_
  have F : Fit γ 0 0 0 0 0 := fiW B (by decide) (Nat.zero_le _) (Nat.zero_le _)
  have F3 : Fit γ 0 0 3 0 0 := fiW B (by decide) (Nat.zero_le _) (Nat.zero_le _)
  have F4 : Fit γ 0 0 4 0 0 := fiW B (by decide) (Nat.zero_le _) (Nat.zero_le _)
  refine B.run okX11_momentAfter [] 60 ?_
  refine At.mS [vI x, vI 0, vI 120] [vR 0 0] B.1 (n_in x 0 120) kX11_in ln_X11_43 F (dcS okX11_momentAfter rfl) ?_
  refine B.run okX11_momentAfter [] 60 ?_
  refine At.mI [vI (b2 (wiB x 0 120))] [] B.1 (n_isFine m (wiB x 0 120)) kX11_isFine ln_X11_167 F (dcV okX11_momentAfter rfl) ?_
  refine B.run okX11_momentAfter [(25, [0, 1, 2])] 60 ?_
  constructor
  · intro h
    have h0 := b2_eq0.mp h
    have ef : fMA x = 2 := by unfold fMA; rw [if_neg (by rw [h0]; decide)]
    exact rEv (m' := wT m (ng (wiB x 0 120))) (by rw [ef]; rfl) ⟨⟨zR m, by rw [ef, h0]; rfl⟩, fun _ _ => rfl⟩ rfl
  · intro h
    have h1 := b2_ne0.mp h
    have ef : fMA x = 0 := by unfold fMA; rw [if_pos h1]
    have hw : ∃ n : Nat, n ≤ 120 ∧ x = nI n := by
      unfold wiB at h1
      simp only [Bool.and_eq_true, decide_eq_true_eq] at h1
      exact nI_of2 (M := 120) (n := 120) (by decide) (Int32.not_lt.mpr h1.1) h1.2
    have e1 : (if wiB x 0 120 = true then (0 : Int32) else 1) = 0 := if_pos h1
    rw [e1]
    obtain ⟨n, hn, rfl⟩ := hw
    have ec : (nI n).toNatClampNeg = n := nI_clamp (by omega)
    have hp := hp h1
    rw [ec] at hp
    have out : ∀ (m' : MS), CH (wA (wT m 0) (cpF (zA m) 0 11)) m' (tks n T) → At γ σ 0 0 50 [(0, vR 0 0)] [] (mdl m') := fun m' hm' => by
      refine B.run okX11_momentAfter [] 60 ?_
      refine At.mI [] [] B.1 (n_turning hm'.1 (WF_tks n hT)) kX11_turning ln_X11_95 F3 (dcV okX11_momentAfter rfl) ?_
      refine B.run okX11_momentAfter [] 60 ?_
      refine At.mV [vI 11, vI 0] [] B.1 (n_copies m' 11 0 (by decide) (by decide) (by decide)) kX11_copies ln_X11_33 F (dcV okX11_momentAfter rfl) ?_
      refine B.run okX11_momentAfter [] 60 ?_
      refine rEv (m' := wA m' (cpF (zA m') 11 0)) (by rw [if_pos ef, ec]) ⟨⟨zR m, ?_⟩, cp_back hm'.2.1⟩ rfl
      rw [ef]
      exact hm'.2.2
    have loop : ∀ (j i : Nat), i + j = n → ∀ (m' : MS) (T' : SH), CH (wA (wT m 0) (cpF (zA m) 0 11)) m' T' → WF T' → PKs j T' → tks j T' = tks n T → At γ σ 0 0 25 [(0, vR 0 0), (1, vI (nI n)), (2, vI (nI i))] [] (mdl m') := by
      intro j
      induction j with
      | zero =>
        intro i hi m' T' hm' hT' _ e1
        have hi : i = n := by omega
        refine B.run okX11_momentAfter [(50, [0])] 60 ?_
        constructor
        · intro _
          exact out m' (by rw [← e1]; exact hm')
        · intro q
          exact absurd (show nI n ≤ nI i by rw [hi]; exact Int32.le_refl _) q
      | succ j ih =>
        intro i hi m' T' hm' hT' hk e1
        have e6' : zA m' 6 = gsk T' := hm'.1.1.2.2.2.2.2.2.1
        refine B.run okX11_momentAfter [(25, [0, 1, 2]), (50, [0])] 60 ?_
        constructor
        · intro q
          exact absurd q (nI_ge (by omega) (by omega))
        · intro _
          refine ⟨vk, ?_⟩
          constructor
          · intro q
            have q : zA m' 6 = 0 := q
            rw [e6'] at q
            have t1 : tks (j + 1) T' = tks j (tick T') := by
              show (if gsk T' = 0 then _ else _) = _
              rw [if_pos q]
            rw [t1] at e1
            obtain ⟨k1, k2⟩ := hk q
            refine B.run okX11_momentAfter [(25, [0, 1, 2])] 60 ?_
            refine At.mE [] [] B.1 (n_ticks hm'.1 hT' q k1) kX11_ticks ln_X11_158 F4 (dcV okX11_momentAfter rfl) fun m2 hm2 => ?_
            have z := ih (i + 1) (by omega) m2 (tick T') (hm'.tr hm2) (WF_tick hT') k2 e1
            rw [← nI_1] at z
            refine B.run okX11_momentAfter [(25, [0, 1, 2])] 60 ?_
            exact z
          · intro q
            have q : ¬ zA m' 6 = 0 := q
            rw [e6'] at q
            have t1 : tks (j + 1) T' = T' := by
              show (if gsk T' = 0 then _ else _) = _
              rw [if_neg q]
            rw [t1] at e1
            exact out m' (by rw [← e1]; exact hm')
    refine B.run okX11_momentAfter [(25, [0, 1, 2])] 60 ?_
    refine At.mV [vI 0, vI 11] [] B.1 (n_copies (wT m 0) 0 11 (by decide) (by decide) (by decide)) kX11_copies ln_X11_33 F (dcV okX11_momentAfter rfl) ?_
    have z := loop n 0 (by omega) (wA (wT m 0) (cpF (zA m) 0 11)) T (CH.rf (cp_agree r hT)) hT hp rfl
    refine B.run okX11_momentAfter [(25, [0, 1, 2])] 60 ?_
    exact z
theorem n_minutesUntilSunk (r : RS T (zA m)) (hT : WF T) (hp : PKs 120 T) : Sp 5 0 0 mX11_minutesUntilSunk [vR 0 0] (mdl m) (PoE (some (vI (if fMS T = 0 then nI (tkc 120 T) else 0))) (RD (if fMS T = 0 then 0 else 1) m)) := by
  refine Sp.of' false (fun h => by cases h) (by decide) rfl rfl (Nat.le_of_ble_eq_true rfl) fun γ σ B => ?_
  have F : Fit γ 0 0 0 0 0 := fiW B (by decide) (Nat.zero_le _) (Nat.zero_le _)
  have F4 : Fit γ 0 0 4 0 0 := fiW B (by decide) (Nat.zero_le _) (Nat.zero_le _)
  have e6 : zA m 6 = gsk T := r.1.2.2.2.2.2.2.1
  have out : ∀ (m' : MS) (T' : SH) (f : Int32), CH (wA m (cpF (zA m) 0 11)) m' T' → ((fMS T = 0 ∧ f = nI (tkc 120 T) ∧ tkc 120 T ≤ 120) ∨ (fMS T = 4 ∧ f = -1)) → At γ σ 0 0 63 [(0, vR 0 0), (1, vI f)] [] (mdl m') := by
    intro m' T' f hm' hf
    refine B.run okX11_minutesUntilSunk [] 60 ?_
    refine At.mV [vI 11, vI 0] [] B.1 (n_copies m' 11 0 (by decide) (by decide) (by decide)) kX11_copies ln_X11_33 F (dcV okX11_minutesUntilSunk rfl) ?_
    refine B.run okX11_minutesUntilSunk [] 60 ?_
    obtain ⟨ef, rfl, hl⟩ | ⟨ef, rfl⟩ := hf
    · constructor
      · intro w
        exact absurd w (nI_pos (by omega))
      · intro _
        refine B.run okX11_minutesUntilSunk [] 60 ?_
        refine At.mI [vI 1] [] B.1 (n_isFine (wA m' (cpF (zA m') 11 0)) true) kX11_isFine ln_X11_167 F (dcV okX11_minutesUntilSunk rfl) ?_
        refine B.run okX11_minutesUntilSunk [] 60 ?_
        constructor
        · intro w
          exact absurd w (by decide)
        · intro _
          refine rEv (m' := wT (wA m' (cpF (zA m') 11 0)) 0) (by rw [if_pos ef]) ⟨⟨zR m, ?_⟩, cp_back hm'.2.1⟩ rfl
          rw [if_pos ef]
          show ((0, m'.2.1.2), m'.2.2) = _
          rw [hm'.2.2]
    · constructor
      · intro _
        refine B.run okX11_minutesUntilSunk [] 60 ?_
        refine At.mI [vI 0] [] B.1 (n_isFine (wA m' (cpF (zA m') 11 0)) false) kX11_isFine ln_X11_167 F (dcV okX11_minutesUntilSunk rfl) ?_
        refine B.run okX11_minutesUntilSunk [] 60 ?_
        constructor
        · intro _
          refine rEv (m' := wT (wA m' (cpF (zA m') 11 0)) 1) (by rw [ef]; rfl) ⟨⟨zR m, ?_⟩, cp_back hm'.2.1⟩ rfl
          rw [ef]
          show ((1, m'.2.1.2), m'.2.2) = _
          rw [hm'.2.2]; rfl
        · intro w
          exact absurd rfl w
      · intro w
        exact absurd (show (-1 : Int32) < 0 by decide) w
  have loop : ∀ (j i : Nat), i + j = 120 → ∀ (m' : MS) (T' : SH), CH (wA m (cpF (zA m) 0 11)) m' T' → WF T' → gsk T' = 0 → PKs j T' → tks j T' = tks 120 T → i + tkc j T' = tkc 120 T → At γ σ 0 0 26 [(0, vR 0 0), (1, vI (-1)), (2, vI (nI (i + 1)))] [] (mdl m') := by
    intro j
    induction j with
    | zero =>
      intro i hi m' T' hm' hT' h0 _ e1 e2
      have hi : i = 120 := by omega
      subst hi
      have ef : fMS T = 4 := by
        unfold fMS
        rw [← e1]
        exact if_pos h0
      refine B.run okX11_minutesUntilSunk [(63, [0, 1])] 60 ?_
      constructor
      · intro w
        exact absurd w (by decide)
      · intro _
        constructor
        · intro _
          exact out m' T' (-1) hm' (Or.inr ⟨ef, rfl⟩)
        · intro w
          exact absurd (show (120 : Int32) < nI 121 by decide) w
    | succ j ih =>
      intro i hi m' T' hm' hT' h0 hk e1 e2
      obtain ⟨k1, k2⟩ := hk h0
      have t1 : tks (j + 1) T' = tks j (tick T') := by
        show (if gsk T' = 0 then _ else _) = _
        rw [if_pos h0]
      have t2 : tkc (j + 1) T' = tkc j (tick T') + 1 := by
        show (if gsk T' = 0 then _ else _) = _
        rw [if_pos h0]
      rw [t1] at e1
      rw [t2] at e2
      refine B.run okX11_minutesUntilSunk [(26, [0, 1, 2]), (63, [0, 1])] 60 ?_
      constructor
      · intro w
        exact absurd w (by decide)
      · intro _
        constructor
        · intro w
          exact absurd w (nI_nlt (a := 120) (b := i + 1) (by omega) (by decide))
        · intro _
          refine B.run okX11_minutesUntilSunk [(26, [0, 1, 2])] 60 ?_
          refine At.mE [] [] B.1 (n_ticks hm'.1 hT' h0 k1) kX11_ticks ln_X11_158 F4 (dcV okX11_minutesUntilSunk rfl) fun m2 hm2 => ?_
          have hm3 := hm'.tr hm2
          have hT2 := WF_tick hT'
          have e62 : zA m2 6 = gsk (tick T') := hm2.1.1.2.2.2.2.2.2.1
          refine B.run okX11_minutesUntilSunk [(26, [0, 1, 2])] 60 ?_
          refine ⟨vk, ?_⟩
          constructor
          · intro w
            have w : zA m2 6 = 1 := w
            rw [e62] at w
            have w0 : ¬ gsk (tick T') = 0 := by rw [w]; decide
            have t3 : tks j (tick T') = tick T' := by
              cases j with
              | zero => rfl
              | succ j =>
                show (if gsk (tick T') = 0 then _ else _) = _
                rw [if_neg w0]
            have t4 : tkc j (tick T') = 0 := by
              cases j with
              | zero => rfl
              | succ j =>
                show (if gsk (tick T') = 0 then _ else _) = _
                rw [if_neg w0]
            rw [t3] at e1
            rw [t4] at e2
            have ef : fMS T = 0 := by
              unfold fMS
              rw [← e1, if_neg w0]
            show At γ σ 0 0 26 [(0, vR 0 0), (1, vI (nI (i + 1))), (2, vI (nI (i + 1) + 1))] [] (mdl m2)
            refine B.run okX11_minutesUntilSunk [(63, [0, 1])] 60 ?_
            constructor
            · intro _
              exact out m2 _ _ hm3 (Or.inl ⟨ef, by rw [← e2], by omega⟩)
            · intro w2
              exact absurd (nI_pos' (n := i + 1) (by omega)) w2
          · intro w
            have w : ¬ zA m2 6 = 1 := w
            rw [e62] at w
            have w0 : gsk (tick T') = 0 := hT2.2.2.2.2.1.resolve_right w
            have z := ih (i + 1) (by omega) m2 (tick T') hm3 hT2 w0 k2 e1 (by omega)
            rw [← nI_1 (i + 1)] at z
            exact z
  have from16 : ∀ f : Int32, ((f = 0 ∧ gsk T = 1) ∨ (f = -1 ∧ gsk T = 0)) → At γ σ 0 0 16 [(0, vR 0 0)] [vI f] (mdl m) := by
    intro f hf
    refine B.run okX11_minutesUntilSunk [(26, [0, 1, 2])] 60 ?_
    refine At.mV [vI 0, vI 11] [] B.1 (n_copies m 0 11 (by decide) (by decide) (by decide)) kX11_copies ln_X11_33 F (dcV okX11_minutesUntilSunk rfl) ?_
    have c1 : CH (wA m (cpF (zA m) 0 11)) (wA m (cpF (zA m) 0 11)) T := CH.rf (cp_agree r hT)
    refine B.run okX11_minutesUntilSunk [(26, [0, 1, 2])] 60 ?_
    obtain ⟨rfl, hs⟩ | ⟨rfl, hs⟩ := hf
    · show At γ σ 0 0 26 [(0, vR 0 0), (1, vI 0), (2, vI 1)] [] (mdl (wA m (cpF (zA m) 0 11)))
      have h0 : ¬ gsk T = 0 := by rw [hs]; decide
      have t1 : tks 120 T = T := by
        show (if gsk T = 0 then _ else _) = _
        rw [if_neg h0]
      have t2 : tkc 120 T = 0 := by
        show (if gsk T = 0 then _ else _) = _
        rw [if_neg h0]
      refine B.run okX11_minutesUntilSunk [(63, [0, 1])] 60 ?_
      constructor
      · intro _
        exact out _ T 0 c1 (Or.inl ⟨by unfold fMS; rw [t1, if_neg h0], by rw [t2]; rfl, by omega⟩)
      · intro w
        exact absurd (show (0 : Int32) ≤ 0 by decide) w
    · exact loop 120 0 rfl _ T c1 hT hs hp rfl (by omega)
  refine B.run okX11_minutesUntilSunk [(16, [0])] 60 ?_
  refine ⟨vk, ?_⟩
  constructor
  · intro h
    have h : zA m 6 = 1 := h
    rw [e6] at h
    exact from16 0 (Or.inl ⟨rfl, h⟩)
  · intro h
    have h : ¬ zA m 6 = 1 := h
    rw [e6] at h
    exact from16 (-1) (Or.inr ⟨rfl, hT.2.2.2.2.1.resolve_right h⟩)
end NH
