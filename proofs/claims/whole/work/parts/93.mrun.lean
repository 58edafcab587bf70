/-! ===== the model: it carries a program out ===== -/
def fKm (k : Nat) (S : SH) (a b c : Int32) : Nat := match k with
  | 116 => fAdd S a b | 108 => fLoad S a b | 117 => fUnl S a | 105 => fShf S a b | 107 => fRat S a b | 109 => fRat S a b | 118 => fMov S a b c | 119 => fPow a | 111 => fSch S a b | _ => fPas S a
def eKm (k : Nat) (S : SH) (a b c : Int32) : SH := match k with
  | 116 => eAdd S a b | 108 => ePut S a b | 117 => eRem S a | 105 => eCar S a b | 107 => eLk S a b | 109 => eGu S a b | 118 => eMov S a b c | 119 => ePow S a | 111 => schT S a b | _ => ePas S a
/-- what one command wants -/
def PR1 (k : Nat) (S : SH) (a : Int32) : Prop := WF S ∧ (∃ N : Nat, N < 1073741824 ∧ gmn S = nI N) ∧ (k = 110 → wiB a 1 120 = true → PKs a.toNatClampNeg S)
section NDO
variable {m : MS} {T : SH}
theorem n_does (r : RS T (zA m)) (i : Nat) (hi : i < 61) (k : Nat) (hk : knd k) (hC : zC m (4 * i) = nI k) (hp : PR1 k T (zC m (4 * i + 1))) : Sp 6 0 0 mX11_does [vR 0 0, vI (nI (4 * i))] (mdl m)
    (PoE (some (vI (nI (fKm k T (zC m (4 * i + 1)) (zC m (4 * i + 2)) (zC m (4 * i + 3)))))) (fun m' => ∃ x, CQ' (fKm k T (zC m (4 * i + 1)) (zC m (4 * i + 2)) (zC m (4 * i + 3))) m m' (eKm k T (zC m (4 * i + 1)) (zC m (4 * i + 2)) (zC m (4 * i + 3))) x)) := by
  refine Sp.of' false (fun h => by cases h) (by decide) rfl rfl (Nat.le_of_ble_eq_true rfl) fun γ σ B => ?_
  have F : Fit γ 0 0 0 0 0 := fiW B (by decide) (Nat.zero_le _) (Nat.zero_le _)
  have F1 : Fit γ 0 0 1 0 0 := fiW B (by decide) (Nat.zero_le _) (Nat.zero_le _)
  have F2 : Fit γ 0 0 2 0 0 := fiW B (by decide) (Nat.zero_le _) (Nat.zero_le _)
  have F4 : Fit γ 0 0 4 0 0 := fiW B (by decide) (Nat.zero_le _) (Nat.zero_le _)
  have F5 : Fit γ 0 0 5 0 0 := fiW B (by decide) (Nat.zero_le _) (Nat.zero_le _)
  obtain ⟨hT, ⟨N, hN, hM⟩, hP⟩ := hp
  have E : ∀ j : Nat, nI (4 * i) + nI j = nI (4 * i + j) := fun j => nI_add _ _
  have E1 : nI (4 * i) + 1 = nI (4 * i + 1) := E 1
  have E2 : nI (4 * i) + 2 = nI (4 * i + 2) := E 2
  have E3 : nI (4 * i) + 3 = nI (4 * i + 3) := E 3
  obtain ⟨len, dsw⟩ := dcSw okX11_does (pc := 24) (df := 151) (lo := 105) (hi := 119) (offs := #[96, 151, 103, 83, 111, 151, 144, 151, 151, 151, 151, 76, 90, 119, 134]) rfl
  refine B.run okX11_does [] 60 ?_
  refine ⟨by rw [E1]; exact vp_in_nI (by omega) (by decide), by rw [E2]; exact vp_in_nI (by omega) (by decide), vp_in_nI (by omega) (by decide), ?_⟩
  rw [E1, E2, nI_clamp (show 4 * i + 1 < 2 ^ 31 by omega), nI_clamp (show 4 * i + 2 < 2 ^ 31 by omega), nI_clamp (show 4 * i < 2 ^ 31 by omega), hC]
  have ec3 : zC m (nI (4 * i + 3)).toNatClampNeg = zC m (4 * i + 3) := by rw [nI_clamp (by omega)]
  rcases hk with rfl | rfl | rfl | rfl | rfl | rfl | rfl | rfl | rfl | rfl
  · refine At.swIn B.1 dsw (x := 116) (by decide) (by decide) (off := 76) (by decide) (t := 100) (by decide) ?_
    refine B.run okX11_does [] 60 ?_
    refine At.mE [vI (zC m (4 * i + 1)), vI (zC m (4 * i + 2))] [] B.1 (n_adds r hT (zC m (4 * i + 1)) (zC m (4 * i + 2))) kX11_adds ln_X11_107 F1 (dcV okX11_does rfl) fun m' h => ?_
    refine B.run okX11_does [] 60 ?_
    exact rEv (m' := m') rfl ⟨_, h⟩ rfl
  · refine At.swIn B.1 dsw (x := 117) (by decide) (by decide) (off := 90) (by decide) (t := 114) (by decide) ?_
    refine B.run okX11_does [] 60 ?_
    refine At.mE [vI (zC m (4 * i + 1))] [] B.1 (n_unloads r hT (zC m (4 * i + 1))) kX11_unloads ln_X11_123 F2 (dcV okX11_does rfl) fun m' h => ?_
    refine B.run okX11_does [] 60 ?_
    exact rEv (m' := m') rfl ⟨_, h⟩ rfl
  · refine At.swIn B.1 dsw (x := 107) (by decide) (by decide) (off := 103) (by decide) (t := 127) (by decide) ?_
    refine B.run okX11_does [] 60 ?_
    refine At.mE [vI (zC m (4 * i + 1)), vI 3, vI (zC m (4 * i + 2))] [] B.1 (n_ratesL r hT (zC m (4 * i + 1)) (zC m (4 * i + 2))) kX11_rates ln_X11_129 F2 (dcV okX11_does rfl) fun m' h => ?_
    refine B.run okX11_does [] 60 ?_
    exact rEv (m' := m') rfl ⟨_, h⟩ rfl
  · refine At.swIn B.1 dsw (x := 108) (by decide) (by decide) (off := 83) (by decide) (t := 107) (by decide) ?_
    refine B.run okX11_does [] 60 ?_
    refine At.mE [vI (zC m (4 * i + 1)), vI (zC m (4 * i + 2))] [] B.1 (n_loads r hT (zC m (4 * i + 1)) (zC m (4 * i + 2))) kX11_loads ln_X11_117 F4 (dcV okX11_does rfl) fun m' h => ?_
    refine B.run okX11_does [] 60 ?_
    exact rEv (m' := m') rfl ⟨_, h⟩ rfl
  · refine At.swIn B.1 dsw (x := 111) (by decide) (by decide) (off := 144) (by decide) (t := 168) (by decide) ?_
    refine B.run okX11_does [] 60 ?_
    refine At.mE [vI (zC m (4 * i + 1)), vI (zC m (4 * i + 2))] [] B.1 (n_plans r hT hM hN (zC m (4 * i + 1)) (zC m (4 * i + 2))) kX11_plans ln_X11_152 F1 (dcV okX11_does rfl) fun m' h => ?_
    refine B.run okX11_does [] 60 ?_
    exact rEv (m' := m') rfl ⟨_, h⟩ rfl
  · refine At.swIn B.1 dsw (x := 105) (by decide) (by decide) (off := 96) (by decide) (t := 120) (by decide) ?_
    refine B.run okX11_does [] 60 ?_
    refine At.mE [vI (zC m (4 * i + 1)), vI (zC m (4 * i + 2))] [] B.1 (n_shifts r hT (zC m (4 * i + 1)) (zC m (4 * i + 2))) kX11_shifts ln_X11_126 F2 (dcV okX11_does rfl) fun m' h => ?_
    refine B.run okX11_does [] 60 ?_
    exact rEv (m' := m') rfl ⟨_, h⟩ rfl
  · refine At.swIn B.1 dsw (x := 119) (by decide) (by decide) (off := 134) (by decide) (t := 158) (by decide) ?_
    refine B.run okX11_does [] 60 ?_
    refine At.mE [vI 4, vI (zC m (4 * i + 1)), vI 0, vI 8] [] B.1 (n_turnsP r hT (zC m (4 * i + 1))) kX11_turns ln_X11_148 F1 (dcV okX11_does rfl) fun m' h => ?_
    refine B.run okX11_does [] 60 ?_
    exact rEv (m' := m') rfl ⟨_, h⟩ rfl
  · refine At.swIn B.1 dsw (x := 109) (by decide) (by decide) (off := 111) (by decide) (t := 135) (by decide) ?_
    refine B.run okX11_does [] 60 ?_
    refine At.mE [vI (zC m (4 * i + 1)), vI 4, vI (zC m (4 * i + 2))] [] B.1 (n_ratesG r hT (zC m (4 * i + 1)) (zC m (4 * i + 2))) kX11_rates ln_X11_129 F2 (dcV okX11_does rfl) fun m' h => ?_
    refine B.run okX11_does [] 60 ?_
    exact rEv (m' := m') rfl ⟨_, h⟩ rfl
  · refine At.swIn B.1 dsw (x := 110) (by decide) (by decide) (off := 151) (by decide) (t := 175) (by decide) ?_
    refine B.run okX11_does [] 60 ?_
    refine At.mE [vI (zC m (4 * i + 1))] [] B.1 (n_passes r hT (zC m (4 * i + 1)) (hP rfl)) kX11_passes ln_X11_161 F5 (dcV okX11_does rfl) fun m' h => ?_
    refine B.run okX11_does [] 60 ?_
    exact rEv (m' := m') rfl ⟨_, h⟩ rfl
  · refine At.swIn B.1 dsw (x := 118) (by decide) (by decide) (off := 119) (by decide) (t := 143) (by decide) ?_
    refine B.run okX11_does [] 60 ?_
    refine ⟨by rw [E3]; exact vp_in_nI (by omega) (by decide), ?_⟩
    rw [E3, ec3]
    refine At.mE [vI (zC m (4 * i + 1)), vI (zC m (4 * i + 2)), vI (zC m (4 * i + 3))] [] B.1 (n_transfers r hT (zC m (4 * i + 1)) (zC m (4 * i + 2)) (zC m (4 * i + 3))) kX11_transfers ln_X11_139 F5 (dcV okX11_does rfl) fun m' h => ?_
    refine B.run okX11_does [] 60 ?_
    exact rEv (m' := m') rfl ⟨_, h⟩ rfl
end NDO
def rnM (C : FI) (kd : Nat → Nat) : Nat → Nat → SH → Option Nat × SH
  | 0, _, S => (none, S)
  | n + 1, i, S => if fKm (kd i) S (C (4 * i + 1)) (C (4 * i + 2)) (C (4 * i + 3)) = 0 then rnM C kd n (i + 1) (eKm (kd i) S (C (4 * i + 1)) (C (4 * i + 2)) (C (4 * i + 3))) else (some i, S)
def PRm (C : FI) (kd : Nat → Nat) : Nat → Nat → SH → Prop
  | 0, _, _ => True
  | n + 1, i, S => knd (kd i) ∧ C (4 * i) = nI (kd i) ∧ PR1 (kd i) S (C (4 * i + 1)) ∧ (fKm (kd i) S (C (4 * i + 1)) (C (4 * i + 2)) (C (4 * i + 3)) = 0 → PRm C kd n (i + 1) (eKm (kd i) S (C (4 * i + 1)) (C (4 * i + 2)) (C (4 * i + 3))))
/-- behind the parse, the input empty -/
abbrev mPr (m : MS) (R : FI × Nat × PQ) : MS := (m.1, m.2.1, m.2.2.1, (zI m, 0, nI R.2.2.1, erI R.2.2.2, zEa m, zFa m), (R.1, nI R.2.1))
abbrev wFa (m : MS) (x : Int32) : MS := (m.1, m.2.1, m.2.2.1, (m.2.2.2.1.1, m.2.2.2.1.2.1, m.2.2.2.1.2.2.1, m.2.2.2.1.2.2.2.1, m.2.2.2.1.2.2.2.2.1, x), m.2.2.2.2)
abbrev wEa (m : MS) (x : Int32) : MS := (m.1, m.2.1, m.2.2.1, (m.2.2.2.1.1, m.2.2.2.1.2.1, m.2.2.2.1.2.2.1, m.2.2.2.1.2.2.2.1, x, m.2.2.2.1.2.2.2.2.2), m.2.2.2.2)
def thR (R : FI × Nat × PQ) (Q : Option Nat × SH) : Nat := if R.2.2.2.isSome = true then 1 else if Q.1.isSome = true then 2 else 0
/-- what run leaves -/
def RUN (m : MS) (R : FI × Nat × PQ) (Q : Option Nat × SH) (n : Nat) (m' : MS) : Prop := match R.2.2.2 with
  | some p => m' = wT (wEa (mPr m R) (nI p)) 1
  | none => match Q.1 with
    | some i => PCh 2 n (wFa (mPr m R) (nI i)) m' Q.2
    | none => PCh 0 n (mPr m R) m' Q.2
section NRU
variable {m : MS} {T : SH} {I : SBB}
theorem n_run (hI : IR I m) (r : RS T (zA m)) (hT : WF T) {n : Nat} (hN : zN m = nI n) (hn : n ≤ 8) (R : FI × Nat × PQ) (hR : psF I (zC m) = R) (kd : Nat → Nat) (Q : Option Nat × SH) (hQ : rnM R.1 kd R.2.1 0 T = Q) (hP : PRm R.1 kd R.2.1 0 T) (h61 : R.2.1 ≤ 61) (hE : ∀ p, R.2.2.2 = some p → p ≤ 60) (hW : Q.1 = none → WF Q.2) :
    Sp 7 0 0 mX11_run [vR 0 0] (mdl m) (PoE (some (vI (if thR R Q = 0 then nI R.2.1 else 0))) (RUN m R Q n)) := by
  refine Sp.of' false (fun h => by cases h) (by decide) rfl rfl (Nat.le_of_ble_eq_true rfl) fun γ σ B => ?_
  have F : Fit γ 0 0 0 0 0 := fiW B (by decide) (Nat.zero_le _) (Nat.zero_le _)
  have F1 : Fit γ 0 0 1 0 0 := fiW B (by decide) (Nat.zero_le _) (Nat.zero_le _)
  have F5 : Fit γ 0 0 5 0 0 := fiW B (by decide) (Nat.zero_le _) (Nat.zero_le _)
  have F6 : Fit γ 0 0 6 0 0 := fiW B (by decide) (Nat.zero_le _) (Nat.zero_le _)
  have SP := n_parse hI
  rw [hR] at SP
  obtain ⟨C, nn, q, e⟩ := R
  refine B.run okX11_run [] 60 ?_
  refine At.mV [] [] B.1 SP kX11_parse ln_X11_244 F5 (dcV okX11_run rfl) ?_
  refine B.run okX11_run [(37, [0, 1])] 60 ?_
  refine ⟨trivial, ?_⟩
  cases e with
  | some p =>
    have hp := hE p rfl
    constructor
    · intro w
      exact absurd w (nI_pos (by omega))
    · intro _
      exact ⟨trivial, trivial, rEv (P := RUN m (C, nn, q, some p) Q n) (m' := wT (wEa (mPr m (C, nn, q, some p)) (nI p)) 1) (by unfold thR; rfl) (show RUN m (C, nn, q, some p) Q n _ from rfl) rfl⟩
  | none =>
    constructor
    · intro _
      refine B.run okX11_run [(37, [0, 1])] 60 ?_
      have SB := n_begins (mPr m (C, nn, q, none))
      refine At.mV [] [] B.1 SB kX11_begins ln_X11_104 F1 (dcV okX11_run rfl) ?_
      -- the end: i done of nn
      have fin : ∀ (i : Nat) (m' : MS) (S : SH), i ≤ nn → (∀ j, 116 ≤ j → zA m' j = cpF (zA m) 0 10 j) → (∃ y, m'.2 = (wR (wA (mPr m (C, nn, q, none)) (cpF (zA m) 0 10)) y).2) → ((i = nn ∧ Q = (none, S) ∧ RS S (zA m')) ∨ (i < nn ∧ Q = (some i, S))) → At γ σ 0 0 61 [(0, vR 0 0), (1, vI (nI i))] [] (mdl m') := by
        intro i m' S hi hk hy hq
        obtain ⟨y, hy⟩ := hy
        have eCn : zCn m' = nI nn := by
          show m'.2.2.2.2.2 = _
          rw [hy]
        have eFa : zFa m' = zFa m := by
          show m'.2.2.2.1.2.2.2.2.2 = _
          rw [hy]
        have eN : zN m' = nI n := by
          show m'.2.1.2.1 = _
          rw [hy]
          exact hN
        have main : ∀ (b : Bool), ((b = true ∧ i = nn ∧ Q = (none, S) ∧ RS S (zA m')) ∨ (b = false ∧ i < nn ∧ Q = (some i, S))) → At γ σ 0 0 74 [(0, vR 0 0), (1, vI (nI i))] [vI (b2 b)] (mdl m') := by
          intro b hb
          have last : ∀ (fa : Int32) (z : Nat), z ≤ 4 → fa = (if b = true then zFa m else nI i) → z = (if b = true then 0 else 3) → At γ σ 0 0 109 [(0, vR 0 0)] [vI (nI z), vR 0 0] (mdl (wR (wFa m' fa) (nI nn))) := by
            intro fa z hz hfa hzz
            refine B.run okX11_run [] 60 ?_
            refine At.mE [vI (nI z), vI (nI 0), vI (nI 0), vI (nI 2), vI (nI 0)] [] B.1 (n_ends (wR (wFa m' fa) (nI nn)) z 0 0 2 0 n hz (by decide) eN hn) kX11_ends ln_X11_110 F1 (dcV okX11_run rfl) fun m3 h3 => ?_
            refine B.run okX11_run [] 60 ?_
            obtain ⟨rfl, hin, hQ2, hrs⟩ | ⟨rfl, hin, hQ2⟩ := hb
            · have hfa : fa = zFa m := hfa
              have hzz : z = 0 := hzz
              subst hzz
              refine rEv (m' := m3) ?_ ?_ rfl
              · rw [hQ2]; rfl
              · rw [hQ2]
                show PCh 0 n (mPr m (C, nn, q, none)) m3 S
                have hw : WF S := by
                  have := hW (by rw [hQ2])
                  rw [hQ2] at this
                  exact this
                refine PCh.of (q := 0) (a := 0) (b := 0) (c := 2) (d := 0) (x := nI nn) (m2 := wR (wFa m' fa) (nI nn)) (fun _ => hw) hn (fun _ => rfl) ⟨hk, ⟨nI nn, ?_⟩, fun _ => ⟨hrs, rfl⟩⟩ h3
                rw [hfa]
                show ((m'.2.1.1, m'.2.1.2.1, m'.2.1.2.2.1, nI nn), m'.2.2.1, (m'.2.2.2.1.1, m'.2.2.2.1.2.1, m'.2.2.2.1.2.2.1, m'.2.2.2.1.2.2.2.1, m'.2.2.2.1.2.2.2.2.1, zFa m), m'.2.2.2.2) = _
                rw [hy] <;> rfl
            · have hfa : fa = nI i := hfa
              have hzz : z = 3 := hzz
              subst hzz
              refine rEv (m' := m3) ?_ ?_ rfl
              · rw [hQ2]; rfl
              · rw [hQ2]
                show PCh 2 n (wFa (mPr m (C, nn, q, none)) (nI i)) m3 S
                refine PCh.of (q := 3) (a := 0) (b := 0) (c := 2) (d := 0) (x := nI nn) (m2 := wR (wFa m' fa) (nI nn)) (fun w => by cases w) hn (fun w => by cases w) ⟨hk, ⟨nI nn, ?_⟩, fun w => by cases w⟩ h3
                rw [hfa]
                show ((m'.2.1.1, m'.2.1.2.1, m'.2.1.2.2.1, nI nn), m'.2.2.1, (m'.2.2.2.1.1, m'.2.2.2.1.2.1, m'.2.2.2.1.2.2.1, m'.2.2.2.1.2.2.2.1, m'.2.2.2.1.2.2.2.2.1, nI i), m'.2.2.2.2) = _
                rw [hy] <;> rfl
          refine B.run okX11_run [(109, [0])] 60 ?_
          rcases Bool.eq_false_or_eq_true b with hbb | hbb
          · subst hbb
            constructor
            · intro w
              exact absurd w (by decide)
            · intro _
              refine ⟨trivial, trivial, ?_⟩
              constructor
              · intro w
                exact absurd w (by decide)
              · intro _
                have z := last (zFa m') 0 (by decide) eFa rfl
                rw [← eCn] at z
                exact z
          · subst hbb
            constructor
            · intro _
              refine ⟨trivial, trivial, ?_⟩
              constructor
              · intro _
                have z := last (nI i) 3 (by decide) rfl rfl
                rw [← eCn] at z
                exact z
              · intro w
                exact absurd rfl w
            · intro w
              exact absurd rfl w
        refine B.run okX11_run [(74, [0, 1])] 60 ?_
        obtain ⟨h1, h2, h3⟩ | ⟨h1, h2⟩ := hq
        · constructor
          · intro _
            exact main true (Or.inl ⟨rfl, h1, h2, h3⟩)
          · intro w
            have w : ¬ nI i = zCn m' := w
            rw [eCn, h1] at w
            exact absurd rfl w
        · constructor
          · intro w
            have w : nI i = zCn m' := w
            rw [eCn] at w
            have hn61 : nn ≤ 61 := h61
            have := (nI_eq (by omega) (by omega)).mp w
            omega
          · intro _
            exact main false (Or.inr ⟨rfl, h1, h2⟩)
      have loop : ∀ (j i : Nat) (m' : MS) (S : SH), i + j = nn → (∀ j, 116 ≤ j → zA m' j = cpF (zA m) 0 10 j) → (∃ y, m'.2 = (wR (wA (mPr m (C, nn, q, none)) (cpF (zA m) 0 10)) y).2) → RS S (zA m') → rnM C kd j i S = Q → PRm C kd j i S → At γ σ 0 0 37 [(0, vR 0 0), (1, vI (nI i))] [] (mdl m') := by
        intro j
        have h61 : nn ≤ 61 := h61
        induction j with
        | zero =>
          intro i m' S hi hk hy hr hq _
          have hi : i = nn := by omega
          have eCn : zCn m' = nI nn := by
            obtain ⟨y, hy⟩ := hy
            show m'.2.2.2.2.2 = _
            rw [hy]
          refine B.run okX11_run [(61, [0, 1])] 60 ?_
          constructor
          · intro _
            exact fin i m' S (by omega) hk hy (Or.inl ⟨hi, hq.symm, hr⟩)
          · intro w
            have w : ¬ zCn m' ≤ nI i := w
            rw [eCn, hi] at w
            exact absurd (Int32.le_refl _) w
        | succ j ih =>
          intro i m' S hi hk hy hr hq hp
          obtain ⟨p1, p2, p3, p4⟩ := hp
          have eCn : zCn m' = nI nn := by
            obtain ⟨y, hy⟩ := hy
            show m'.2.2.2.2.2 = _
            rw [hy]
          have eC : zC m' = C := by
            obtain ⟨y, hy⟩ := hy
            show m'.2.2.2.2.1 = _
            rw [hy]
          have SD := n_does hr i (by omega) (kd i) p1 (by rw [eC]; exact p2) (by rw [eC]; exact p3)
          rw [eC, ← show (4 : Int32) * nI i = nI (4 * i) from by rw [show (4 : Int32) = nI 4 from rfl, nI_mul]] at SD
          refine B.run okX11_run [(37, [0, 1]), (61, [0, 1])] 60 ?_
          constructor
          · intro w
            have w : zCn m' ≤ nI i := w
            rw [eCn] at w
            exact absurd w (nI_ge (by omega) (by omega))
          · intro _
            refine B.run okX11_run [(37, [0, 1]), (61, [0, 1])] 60 ?_
            refine At.mE [vI (4 * nI i)] [] B.1 SD kX11_does ln_X11_247 F6 (dcV okX11_run rfl) fun m2 h2 => ?_
            obtain ⟨x, q1, ⟨y2, q2⟩, q3⟩ := h2
            have hk2 : ∀ j, 116 ≤ j → zA m2 j = cpF (zA m) 0 10 j := fun j hj => (q1 j hj).trans (hk j hj)
            have hy2 : ∃ y, m2.2 = (wR (wA (mPr m (C, nn, q, none)) (cpF (zA m) 0 10)) y).2 := by
              obtain ⟨y, hy⟩ := hy
              refine ⟨y2, ?_⟩
              rw [q2]
              show ((m'.2.1.1, m'.2.1.2.1, m'.2.1.2.2.1, y2), m'.2.2) = _
              rw [hy] <;> rfl
            have hf4 : fKm (kd i) S (C (4 * i + 1)) (C (4 * i + 2)) (C (4 * i + 3)) < 100 := by
              unfold fKm fAdd fLoad fUnl fShf fRat fMov fPow fSch fPas
              repeat' split
              all_goals decide
            have ern : rnM C kd (j + 1) i S = if fKm (kd i) S (C (4 * i + 1)) (C (4 * i + 2)) (C (4 * i + 3)) = 0 then rnM C kd j (i + 1) (eKm (kd i) S (C (4 * i + 1)) (C (4 * i + 2)) (C (4 * i + 3))) else (some i, S) := rfl
            rw [ern] at hq
            generalize fKm (kd i) S (C (4 * i + 1)) (C (4 * i + 2)) (C (4 * i + 3)) = f at hq q3 p4 hf4 ⊢
            refine B.run okX11_run [(37, [0, 1]), (61, [0, 1])] 60 ?_
            constructor
            · intro w
              have h0 : f = 0 := (nI_eq (by omega) (by decide)).mp (show nI f = nI 0 from w)
              rw [if_pos h0] at hq
              have z := ih (i + 1) m2 _ (by omega) hk2 hy2 (q3 h0).1 hq (p4 h0)
              rw [← nI_1] at z
              exact z
            · intro w
              have h0 : ¬ f = 0 := fun v => w (by rw [v]; rfl)
              rw [if_neg h0] at hq
              exact fin i m2 S (by omega) hk2 hy2 (Or.inr ⟨by omega, hq.symm⟩)
      have z := loop nn 0 (wA (mPr m (C, nn, q, none)) (cpF (zA m) 0 10)) T (by omega) (fun _ _ => rfl) ⟨zR m, rfl⟩ (r.agree (cp0_agree (zA m)) hT) hQ hP
      refine B.run okX11_run [(37, [0, 1])] 60 ?_
      exact z
    · intro w
      exact absurd (show (-1 : Int32) < 0 by decide) w
end NRU
