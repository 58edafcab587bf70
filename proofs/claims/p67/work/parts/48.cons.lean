/-! ===== isConsistent ===== -/
theorem sumI_chg {F G : FI} {s : Nat} (h : ∀ i, i ≠ s → F i = G i) : ∀ n, sumI F n = sumI G n + (if s < n then F s - G s else 0)
  | 0 => by simp [sumI]
  | n + 1 => by
    have e := sumI_chg h n
    show sumI F n + F n = sumI G n + G n + _
    rw [e]
    by_cases q : n = s
    · subst q
      rw [if_neg (Nat.lt_irrefl _), if_pos (Nat.lt_succ_self _)]
      grind
    · rw [h n q]
      by_cases q2 : s < n
      · rw [if_pos q2, if_pos (by omega)]
        grind
      · rw [if_neg q2, if_neg (by omega)]
        grind
theorem upd_eq (f : Nat → Int32) (i : Nat) (x : Int32) : upd f i x i = x := by simp [upd]
theorem upd_ne (f : Nat → Int32) {i j : Nat} (x : Int32) (h : j ≠ i) : upd f i x j = f j := by simp [upd, h]
theorem tm_w (S : SH) (s : Nat) (v : Int32) (hs : s < gc S) : tmI (stW S (upd (gw S) s v)) = tmI S + (v - gw S s) * gar S s := by
  have e := sumI_chg (F := fun i => ldI (stW S (upd (gw S) s v)) i * gar S i) (G := fun i => ldI S i * gar S i) (s := s) (fun i hi => by
    show (upd (gw S) s v i + cgI (gwt S) (gpl S) (nI i) (gp S)) * gar S i = (gw S i + cgI (gwt S) (gpl S) (nI i) (gp S)) * gar S i
    rw [upd_ne _ _ hi]) (gc S)
  rw [if_pos hs] at e
  have e2 : ldI (stW S (upd (gw S) s v)) s = v + cgI (gwt S) (gpl S) (nI s) (gp S) := by
    show upd (gw S) s v s + cgI (gwt S) (gpl S) (nI s) (gp S) = _
    rw [upd_eq]
  have e3 : ldI S s = gw S s + cgI (gwt S) (gpl S) (nI s) (gp S) := rfl
  show sumI (fun i => ldI (stW S (upd (gw S) s v)) i * gar S i) (gc S) = sumI (fun i => ldI S i * gar S i) (gc S) + _
  rw [e]
  simp only [e2, e3]
  grind
theorem tm_mov (S : SH) (s t : Nat) (a : Int32) (hs : s < gc S) (ht : t < gc S) : tmI (eMovN S s t a) = tmI S + a * (gar S t - gar S s) := by
  have e1 := tm_w S s (gw S s - a) hs
  have e2 : tmI (stW (stW S (upd (gw S) s (gw S s - a))) (upd (upd (gw S) s (gw S s - a)) t (upd (gw S) s (gw S s - a) t + a))) = tmI (stW S (upd (gw S) s (gw S s - a))) + (upd (gw S) s (gw S s - a) t + a - upd (gw S) s (gw S s - a) t) * gar S t := tm_w (stW S (upd (gw S) s (gw S s - a))) t (upd (gw S) s (gw S s - a) t + a) ht
  have e3 : eMovN S s t a = stW (stW S (upd (gw S) s (gw S s - a))) (upd (upd (gw S) s (gw S s - a)) t (upd (gw S) s (gw S s - a) t + a)) := rfl
  rw [e3, e2, e1]
  grind
def CIm (S : SH) (a bf : Int32) (C : CS) : Prop := C.1 = 0 ∨ ∃ s t, s < gc S ∧ t < gc S ∧ C.2.1 = nI s ∧ C.2.2.1 = nI t ∧ C.2.2.2 = bf + a * (gar S t - gar S s)
theorem CIm_in {S : SH} {a bf : Int32} {s : Nat} (hs : s < gc S) {C : CS} (h : CIm S a bf C) : ∀ t, t ≤ gc S → CIm S a bf (tIn (gcp S) (gw S) (gar S) a bf s C t)
  | 0, _ => h
  | t + 1, ht => by
    unfold tIn
    split
    · unfold offS
      split
      · exact Or.inr ⟨s, t, hs, by omega, rfl, rfl, rfl⟩
      · exact CIm_in hs h t (by omega)
    · exact CIm_in hs h t (by omega)
theorem CIm_out {S : SH} {a bf : Int32} {C : CS} (h : CIm S a bf C) : ∀ s, s ≤ gc S → CIm S a bf (tOut (gcp S) (gw S) (gar S) a bf (gc S) C s)
  | 0, _ => h
  | s + 1, hs => by
    unfold tOut
    exact CIm_in (by omega) (CIm_out h s (by omega)) _ (Nat.le_refl _)
theorem CIm_bst (S : SH) (a bf : Int32) (C : CS) : CIm S a bf (bS S a bf C) := CIm_out (Or.inl rfl) _ (Nat.le_refl _)
def adX (S : SH) (X : SH × CS) : Nat → SH × CS
  | 0 => X
  | n + 1 => if (bS S (nI (n + 1)) (tmI S) (adX S X n).2).1 = 0 then ((adX S X n).1, bS S (nI (n + 1)) (tmI S) (adX S X n).2)
    else (eMov (cpS (adX S X n).1 S) (bS S (nI (n + 1)) (tmI S) (adX S X n).2).2.1 (bS S (nI (n + 1)) (tmI S) (adX S X n).2).2.2.1 (nI (n + 1)), bS S (nI (n + 1)) (tmI S) (adX S X n).2)
theorem WF_adX {S : SH} (hS : WF S) {X : SH × CS} (hX : WF X.1) : ∀ n, WF (adX S X n).1
  | 0 => hX
  | n + 1 => by
    unfold adX
    split
    · exact WF_adX hS hX n
    · exact hS
theorem s_adviceHolds (K : KS') (hK : WK K) : Sp 7 0 0 mX10_adviceHolds [vR 0 0] (world K) (PoF 0 (some (vI 1)) (world (scr K (adX (kS K) (kT K, kC K)  20).1 (adX (kS K) (kT K, kC K)  20).2))) := by
  refine Sp.of' false (fun h => by cases h) (by decide) rfl rfl (Nat.le_of_ble_eq_true rfl) fun γ σ B => ?_
  have hS := hK.1
  have hc8 := hK.1.1
  have loop : ∀ (m j : Nat), j + m = 20 → At γ σ 0 0 10 [(0, vR 0 0), (1, vI (tmI (kS K))), (2, vI (nI (j + 1)))] [] (world (scr K (adX (kS K) (kT K, kC K)  j).1 (adX (kS K) (kT K, kC K)  j).2)) := by
    intro m
    induction m with
    | zero =>
      intro j hj
      have hj : j = 20 := by omega
      subst hj
      refine B.run okX10_adviceHolds [(10, [0, 1, 2])] 60 ?_
      constructor
      · intro _
        exact ⟨Or.inr rfl, rCF rfl rfl⟩
      · intro h
        exact absurd (show nI 20 < nI 21 from nI_lt (by decide) (by decide)) h
    | succ m ih =>
      intro j hj
      have hx := ih (j + 1) (by omega)
      generalize eY : adX (kS K) (kT K, kC K) j = Y
      obtain ⟨T, C⟩ := Y
      generalize eD : bS (kS K) (nI (j + 1)) (tmI (kS K)) C = D
      have hD : CIm (kS K) (nI (j + 1)) (tmI (kS K)) D := by rw [← eD]; exact CIm_bst _ _ _ _
      have con : Sp 2 0 0 mX2_searchTransfers [vR 0 0, vR 1 0, vI (nI (j + 1)), vI (tmI (kS K))] [rX C, hoG 1 (kS K)] (PoQ none [rX D, hoG 1 (kS K)]) := by
        rw [← eD]
        exact s_searchT C (gc (kS K)) hc8 _ _ _ _ _ _ (nI (j + 1)) (tmI (kS K))
      have eX : adX (kS K) (kT K, kC K) (j + 1) = if D.1 = 0 then (T, D) else (eMov (cpS T (kS K)) D.2.1 D.2.2.1 (nI (j + 1)), D) := by
        show (if (bS (kS K) (nI (j + 1)) (tmI (kS K)) (adX (kS K) (kT K, kC K) j).2).1 = 0 then _ else _) = _
        rw [eY, eD]
      refine B.run okX10_adviceHolds [(10, [0, 1, 2])] 60 ?_
      constructor
      · intro h
        exact absurd h (nI_nlt (b := j + 1) (a := 20) (by omega) (by decide))
      · intro _
        refine At.wV (fe_CS (scr K T C) D) [vR 1 0, vI (nI (j + 1)), vI (tmI (kS K))] [] B.1 con kX2_searchTransfers ln_X10_126 (B.fit (by decide) (by decide) (by decide)) (dcV okX10_adviceHolds rfl) ?_
        refine B.run okX10_adviceHolds [(10, [0, 1, 2])] 60 ?_
        constructor
        · intro h
          rw [eX, if_pos h] at hx
          show At γ σ 0 0 10 [(0, vR 0 0), (1, vI (tmI (kS K))), (2, vI (nI (j + 1) + 1))] [] (world (scr K T D))
          rw [nI_1]
          exact hx
        · intro h
          have h : ¬ D.1 = 0 := h
          rw [eX, if_neg h] at hx
          rcases hD with q | ⟨s, t, hs, ht, es, et, em⟩
          · exact absurd q h
          have e4 : eMov (cpS T (kS K)) D.2.1 D.2.2.1 (nI (j + 1)) = eMovN (cpS T (kS K)) s t (nI (j + 1)) := by
            rw [es, et]; exact eMov_n (by omega) (by omega)
          have e5 : tmI (eMovN (cpS T (kS K)) s t (nI (j + 1))) = D.2.2.2 := by
            rw [em]; exact tm_mov (cpS T (kS K)) s t (nI (j + 1)) hs ht
          rw [e4] at hx
          refine B.run okX10_adviceHolds [(10, [0, 1, 2])] 60 ?_
          refine At.wV (fe_TS (scr K T D) (cpS T (kS K))) [vR 4 0] [] B.1 (s_scopy T (kS K) hS.2.2.2.2.1) kX8_copyFrom ln_X10_275 (B.fit (by decide) (by decide) (by decide)) (dcV okX10_adviceHolds rfl) ?_
          refine B.run okX10_adviceHolds [(10, [0, 1, 2])] 60 ?_
          show At γ σ _ _ 75 [(0, vR 0 0), (1, vI (tmI (kS K))), (2, vI (nI (j + 1)))] [vI (nI (j + 1)), vI D.2.2.1, vI D.2.1, vR 6 0] (world (scr K (cpS T (kS K)) D))
          rw [es, et]
          refine At.wV (fe_hT (scr K (cpS T (kS K)) D) (eMovN (cpS T (kS K)) s t (nI (j + 1))).1) [vI (nI s), vI (nI t), vI (nI (j + 1))] [] B.1 (s_move (nI (gc (kS K))) _ _ _ _ _ _ s t (by omega) (by omega) (nI (j + 1))) kX5_move ln_X10_115 (B.fit (by decide) (by decide) (by decide)) (dcV okX10_adviceHolds rfl) ?_
          refine B.run okX10_adviceHolds [(10, [0, 1, 2])] 60 ?_
          refine At.wV (fe_T (scr K (eMovN (cpS T (kS K)) s t (nI (j + 1))) D) (eMovN (cpS T (kS K)) s t (nI (j + 1)))) [] [] B.1 (s_totalMoment (eMovN (cpS T (kS K)) s t (nI (j + 1))) hS) kX8_totalMoment ln_X10_119 (B.fit (by decide) (by decide) (by decide)) (dcV okX10_adviceHolds rfl) ?_
          show At γ σ _ _ 85 [(0, vR 0 0), (1, vI (tmI (kS K))), (2, vI (nI (j + 1)))] [vI (tmI (eMovN (cpS T (kS K)) s t (nI (j + 1))))] (world (scr K (eMovN (cpS T (kS K)) s t (nI (j + 1))) D))
          rw [e5]
          refine B.run okX10_adviceHolds [(10, [0, 1, 2])] 60 ?_
          constructor
          · intro _
            show At γ σ 0 0 10 [(0, vR 0 0), (1, vI (tmI (kS K))), (2, vI (nI (j + 1) + 1))] [] (world (scr K (eMovN (cpS T (kS K)) s t (nI (j + 1))) D))
            rw [nI_1]
            exact hx
          · intro h9
            exact absurd rfl h9
  refine B.run okX10_adviceHolds [(10, [0, 1, 2])] 60 ?_
  refine At.wV (fe_S K (kS K)) [] [] B.1 (s_totalMoment (kS K) hS) kX8_totalMoment ln_X10_119 (B.fit (by decide) (by decide) (by decide)) (dcV okX10_adviceHolds rfl) ?_
  refine B.run okX10_adviceHolds [(10, [0, 1, 2])] 60 ?_
  exact loop 20 0 rfl
def csB (S : SH) : Bool := decide (twI S = sumI (gw S) (gc S) + sumI (gwt S) (gp S)) && decide (tmI S = mpI S) && !(ovB (gcp S) (gw S) (gc S))
theorem m_isConsistent (K : KS') (hK : WK K) : Sp 12 12 700 mX10_isConsistent [vR 0 0] (world K) (PoC (0) (some (vI (b2 (csB (kS K))))) (K) (K)) := by
  refine Sp.of' false (fun h => by cases h) (by decide) rfl rfl (Nat.le_of_ble_eq_true rfl) fun γ σ B => ?_
  refine B.run okX10_isConsistent [] 60 ?_
  refine At.wV (fe_S K (kS K)) [] [] B.1 (s_totalWeight (kS K) hK.1) kX8_totalWeight ln_X10_250 (B.fit (by decide) (by decide) (by decide)) (dcV okX10_isConsistent rfl) ?_
  refine B.run okX10_isConsistent [] 60 ?_
  refine At.wV (fe_S K (kS K)) [] [vI (twI (kS K))] B.1 (s_weightOfParts (kS K) hK.1) kX8_weightOfParts ln_X10_253 (B.fit (by decide) (by decide) (by decide)) (dcV okX10_isConsistent rfl) ?_
  refine B.run okX10_isConsistent [(58, [0])] 60 ?_
  have bad : csB (kS K) = false → ∀ (T : SH) (C : CS), WF T → At γ σ 0 0 58 [(0, vR 0 0)] [] (world (scr K T C)) := by
    intro hb T C hT
    refine B.run okX10_isConsistent [] 60 ?_
    exact ⟨Or.inl rfl, rCo rfl (by rw [hb]; rfl) T C hT⟩
  constructor
  · intro h1
    refine B.run okX10_isConsistent [(58, [0])] 60 ?_
    refine At.wV (fe_S K (kS K)) [] [] B.1 (s_totalMoment (kS K) hK.1) kX8_totalMoment ln_X10_119 (B.fit (by decide) (by decide) (by decide)) (dcV okX10_isConsistent rfl) ?_
    refine B.run okX10_isConsistent [(58, [0])] 60 ?_
    refine At.wV (fe_S K (kS K)) [] [vI (tmI (kS K))] B.1 (s_momentOfParts (kS K) hK.1) kX8_momentOfParts ln_X10_256 (B.fit (by decide) (by decide) (by decide)) (dcV okX10_isConsistent rfl) ?_
    refine B.run okX10_isConsistent [(58, [0])] 60 ?_
    constructor
    · intro h2
      refine B.run okX10_isConsistent [(58, [0])] 60 ?_
      refine At.fI [] [] B.1 B.2.1 (s_adviceHolds K hK) kX10_adviceHolds ln_X10_324 (B.fit (by decide) (by decide) (by decide)) (by decide) (by decide) (dcV okX10_isConsistent rfl) (fun _ => ?_) (fun hf => absurd rfl hf)
      refine B.run okX10_isConsistent [(58, [0])] 60 ?_
      constructor
      · intro h3
        exact absurd h3 (by decide)
      · intro _
        refine B.run okX10_isConsistent [(58, [0])] 60 ?_
        refine At.wV (fe_hS (scr K (adX (kS K) (kT K, kC K)  20).1 (adX (kS K) (kT K, kC K)  20).2) (kS K).1) [] [] B.1 (s_overflows (gc (kS K)) hK.1.1 _ _ _ _ _ _) kX5_overflows ln_X10_328 (B.fit (by decide) (by decide) (by decide)) (dcV okX10_isConsistent rfl) ?_
        refine B.run okX10_isConsistent [(58, [0])] 60 ?_
        constructor
        · intro h4
          have h4 := b2_eq0.mp h4
          exact ⟨Or.inr rfl, rCo rfl (by unfold csB; rw [decide_eq_true h1, decide_eq_true h2, h4]; rfl) _ _ (WF_adX hK.1 hK.2.1 20)⟩
        · intro h4
          have h4 := b2_ne0.mp h4
          exact bad (by unfold csB; rw [h4, Bool.not_true, Bool.and_false]) _ _ (WF_adX hK.1 hK.2.1 20)
    · intro h2
      exact bad (by unfold csB; rw [decide_eq_false h2, Bool.and_false, Bool.false_and]) (kT K) (kC K) hK.2.1
  · intro h1
    exact bad (by unfold csB; rw [decide_eq_false h1, Bool.false_and, Bool.false_and]) (kT K) (kC K) hK.2.1
