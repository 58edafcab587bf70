/-! ===== the model: it reads the whole program ===== -/
theorem nd_ge (I : SBB) (c : Nat) (s : PQ) : s.1 ≤ (nd I c s).1 := by
  unfold nd
  split
  · exact Nat.le_refl _
  · split
    · exact Nat.le_succ _
    · exact Nat.le_refl _
theorem dgt_ge (I : SBB) (k : Nat) (s : PQ) : s.1 ≤ (dgt I k s).2.1 := by
  unfold dgt
  split
  · exact Nat.le_refl _
  · split
    · exact Nat.le_add_right _ _
    · exact Nat.le_refl _
theorem nmb_ge (I : SBB) (k : Nat) (s : PQ) : s.1 ≤ (nmb I k s).2.1 := Nat.le_trans (nd_ge I 32 s) (dgt_ge I k _)
theorem sgd_ge (I : SBB) (s : PQ) : s.1 ≤ (sgd I s).2.1 := by
  unfold sgd
  have h := nd_ge I 32 s
  split
  · have := dgt_ge I 1 ((nd I 32 s).1 + 1, none)
    exact Nat.le_trans h (Nat.le_trans (Nat.le_succ _) this)
  · exact Nat.le_trans h (dgt_ge I 1 _)
theorem lt3_ge (I : SBB) (a b c : Nat) (s : PQ) : s.1 ≤ (lt3 I a b c s).1 := Nat.le_trans (nd_ge I a s) (Nat.le_trans (nd_ge I b _) (nd_ge I c _))
theorem wd_ge (I : SBB) (f : Nat) (s : PQ) : s.1 ≤ (wd I f s).2.1 := by
  unfold wd
  repeat' split
  all_goals first
    | exact lt3_ge I _ _ _ s
    | exact Nat.le_trans (lt3_ge I _ _ _ s) (nd_ge I _ _)
    | exact Nat.le_trans (lt3_ge I _ _ _ s) (Nat.le_trans (nd_ge I _ _) (nd_ge I _ _))
    | exact Nat.le_trans (lt3_ge I _ _ _ s) (lt3_ge I _ _ _ _)
theorem arg_ge (I : SBB) (k n : Nat) (C : FI) (s : PQ) : s.1 ≤ (argF I k n C s).2.1 := by
  unfold argF
  repeat' split
  all_goals first
    | exact Nat.le_trans (sgd_ge I s) (nmb_ge I _ _)
    | exact nmb_ge I _ s
    | exact Nat.le_trans (nmb_ge I _ s) (nmb_ge I _ _)
    | exact Nat.le_trans (nmb_ge I _ s) (Nat.le_trans (nmb_ge I _ _) (nmb_ge I _ _))
theorem cm_ge (I : SBB) (n : Nat) (C : FI) (s : PQ) : s.1 ≤ (cm I n C s).2.1 := by
  unfold cm
  split
  · exact Nat.le_trans (Nat.le_succ _) (Nat.le_trans (wd_ge I _ (s.1 + 1, none)) (arg_ge I _ _ _ _))
  · exact Nat.le_refl _
def semB (I : SBB) (s : PQ) : Bool := s.2.isNone && atB I s.1 59
def plF (I : SBB) : Nat → Nat → FI → PQ → FI × Nat × PQ
  | 0, n, C, s => (C, n, s)
  | f + 1, n, C, s => if semB I s = true then plF I f (n + 1) (cm I n C (s.1 + 1, none)).1 (cm I n C (s.1 + 1, none)).2 else (C, n, s)
def endB (I : SBB) (s : PQ) : Bool := s.2.isNone && decide (s.1 < I.1)
def psE (I : SBB) (r : FI × Nat × PQ) : FI × Nat × PQ := if endB I r.2.2 = true then (r.1, r.2.1, (r.2.2.1, some r.2.2.1)) else r
def psF (I : SBB) (C : FI) : FI × Nat × PQ := psE I (plF I 60 1 (cm I 0 C (0, none)).1 (cm I 0 C (0, none)).2)
section NPP
variable {m : MS} {I : SBB}
theorem n_parse (hI : IR I m) : Sp 5 0 0 mX11_parse [vR 0 0] (mdl m) (PoV (mdl (wK m (psF I (zC m)).1 (psF I (zC m)).2.1 (psF I (zC m)).2.2))) := by
  refine Sp.of' false (fun h => by cases h) (by decide) rfl rfl (Nat.le_of_ble_eq_true rfl) fun γ σ B => ?_
  have F : Fit γ 0 0 0 0 0 := fiW B (by decide) (Nat.zero_le _) (Nat.zero_le _)
  have F4 : Fit γ 0 0 4 0 0 := fiW B (by decide) (Nat.zero_le _) (Nat.zero_le _)
  have hl := hI.2.1
  have hch : ∀ j, j < I.1 → I.2.2 j < 256 := fun j hj => (hI.2.2 j hj).2
  have out : ∀ (C : FI) (n : Nat) (s : PQ), okQ s → psE I (C, n, s) = psF I (zC m) → At γ σ 0 0 52 [(0, vR 0 0)] [] (mdl (wK m C n s)) := by
    intro C n s hs e
    obtain ⟨q, er⟩ := s
    refine B.run okX11_parse [] 60 ?_
    cases er with
    | some p =>
      have hp := hs.2 p rfl
      have e2 : psE I (C, n, (q, some p)) = (C, n, (q, some p)) := rfl
      rw [e2] at e
      constructor
      · intro _
        exact rV (by rw [← e])
      · intro w
        exact absurd (nI_pos' (n := p) (by omega)) w
    | none =>
      have hq : q ≤ 60 := hs.1
      constructor
      · intro w
        exact absurd w (show ¬ (0 : Int32) ≤ -1 by decide)
      · intro _
        constructor
        · intro w
          have w : zTy m ≤ nI q := w
          rw [hI.1] at w
          have hn : ¬ q < I.1 := fun z => absurd w (nI_ge z (by omega))
          have e2 : psE I (C, n, (q, none)) = (C, n, (q, none)) := by
            unfold psE endB
            rw [if_neg]
            show ¬ (true && decide (q < I.1)) = true
            rw [decide_eq_false hn]; decide
          rw [e2] at e
          exact rV (by rw [← e])
        · intro w
          have w : ¬ zTy m ≤ nI q := w
          rw [hI.1] at w
          have hn : q < I.1 := Nat.not_le.mp fun z => w (nI_le z (by omega))
          have e2 : psE I (C, n, (q, none)) = (C, n, (q, some q)) := by
            unfold psE endB
            rw [if_pos]
            show (true && decide (q < I.1)) = true
            rw [decide_eq_true hn]; rfl
          rw [e2] at e
          exact ⟨trivial, rV (by rw [← e]; rfl)⟩
  have loop : ∀ (f n : Nat) (C : FI) (s : PQ), okQ s → n ≤ s.1 + 1 → I.1 - s.1 ≤ f → psE I (plF I f n C s) = psF I (zC m) → At γ σ 0 0 19 [(0, vR 0 0)] [] (mdl (wK m C n s)) := by
    intro f
    have exit : ∀ (n : Nat) (C : FI) (s : PQ), okQ s → semB I s = false → psE I (C, n, s) = psF I (zC m) → At γ σ 0 0 19 [(0, vR 0 0)] [] (mdl (wK m C n s)) := by
      intro n C s hs hb e
      have z := out C n s hs e
      obtain ⟨q, er⟩ := s
      refine B.run okX11_parse [(52, [0])] 60 ?_
      cases er with
      | some p =>
        have hp := hs.2 p rfl
        constructor
        · intro _
          exact z
        · intro w
          exact absurd (nI_pos' (n := p) (by omega)) w
      | none =>
        constructor
        · intro w
          exact absurd w (show ¬ (0 : Int32) ≤ -1 by decide)
        · intro _
          refine B.run okX11_parse [(52, [0])] 60 ?_
          refine At.mI [] [] B.1 (n_sign (m := wK m C n (0, none)) hI (q, none) hs) kX11_sign ln_X11_217 F (dcV okX11_parse rfl) ?_
          refine B.run okX11_parse [(52, [0])] 60 ?_
          constructor
          · intro w
            have ha := (sg_at hch (c := 59) (by decide)).mp w
            unfold semB at hb
            rw [show atB I (q, (none : Option Nat)).1 59 = true from ha] at hb
            cases hb
          · intro _
            exact z
    induction f with
    | zero =>
      intro n C s hs hn hf e
      refine exit n C s hs ?_ e
      unfold semB atB
      rw [decide_eq_false (show ¬ s.1 < I.1 by omega), Bool.false_and, Bool.and_false]
    | succ f ih =>
      intro n C s hs hn hf e
      cases hb : semB I s with
      | false =>
        refine exit n C s hs hb ?_
        have e2 : plF I (f + 1) n C s = (C, n, s) := if_neg (by rw [hb]; decide)
        rw [e2] at e
        exact e
      | true =>
        have e2 : plF I (f + 1) n C s = plF I f (n + 1) (cm I n C (s.1 + 1, none)).1 (cm I n C (s.1 + 1, none)).2 := if_pos hb
        rw [e2] at e
        obtain ⟨q, er⟩ := s
        cases er with
        | some p => cases hb
        | none =>
          have ha : atB I q 59 = true := hb
          have hq := atB_lt ha
          have ok1 : okQ (q + 1, none) := ⟨by show q + 1 ≤ 60; omega, fun p hp => by cases hp⟩
          have hn : n ≤ q + 1 := hn
          refine B.run okX11_parse [(19, [0]), (52, [0])] 60 ?_
          constructor
          · intro w
            exact absurd w (show ¬ (0 : Int32) ≤ -1 by decide)
          · intro _
            refine B.run okX11_parse [(19, [0]), (52, [0])] 60 ?_
            refine At.mI [] [] B.1 (n_sign (m := wK m C n (0, none)) hI (q, none) hs) kX11_sign ln_X11_217 F (dcV okX11_parse rfl) ?_
            refine B.run okX11_parse [(19, [0]), (52, [0])] 60 ?_
            constructor
            · intro _
              have SC := n_command (m := m) hI n (by omega) C (q + 1) (by omega)
              have ez : wK m C n (q + 1, none) = (m.1, m.2.1, m.2.2.1, (m.2.2.2.1.1, m.2.2.2.1.2.1, nI q + 1, -1, m.2.2.2.1.2.2.2.2), (C, nI n)) := by rw [nI_1]; rfl
              rw [ez] at SC
              refine ⟨trivial, ?_⟩
              refine At.mV [] [] B.1 SC kX11_command ln_X11_241 F4 (dcV okX11_parse rfl) ?_
              have hg := cm_ge I n C (q + 1, none)
              have z := ih (n + 1) _ _ (okQ_cm hl (n := n) (C := C) ok1) (by have hg : q + 1 ≤ (cm I n C (q + 1, none)).2.1 := hg; omega) (by have hg : q + 1 ≤ (cm I n C (q + 1, none)).2.1 := hg; have hf : I.1 - q ≤ f + 1 := hf; omega) e
              refine B.run okX11_parse [(19, [0])] 60 ?_
              exact z
            · intro w
              exact absurd ((sg_at hch (c := 59) (by decide)).mpr ha) w
  refine B.run okX11_parse [(19, [0])] 60 ?_
  refine ⟨trivial, trivial, trivial, ?_⟩
  refine At.mV [] [] B.1 (n_command (m := m) hI 0 (by decide) (zC m) 0 (by decide)) kX11_command ln_X11_241 F4 (dcV okX11_parse rfl) ?_
  exact loop 60 1 _ _ (okQ_cm hl ⟨by show 0 ≤ 60; omega, fun p hp => by cases hp⟩) (by omega) (by omega) rfl
end NPP
