/-! ===== Ship: what changes it ===== -/
def stW (S : SH) (w : FI) : SH := ((S.1.1, S.1.2.1, S.1.2.2.1, w, S.1.2.2.2.2), S.2)
def stL (S : SH) (l : FI) : SH := ((S.1.1, S.1.2.1, S.1.2.2.1, S.1.2.2.2.1, l, S.1.2.2.2.2.2), S.2)
def stM (S : SH) (mn : Int32) : SH := (S.1, S.2.1, S.2.2.1, (mn, S.2.2.2.2))
/-- the storm at place q strikes: gone, in the log -/
def stQ (S : SH) (q : Nat) : SH := (S.1, S.2.1, (gsc S - 1, shl (gmi S) q (gsc S - 1), shl (gsg S) q (gsc S - 1), lgN (glc S), upd (shr (glg S) 0 (lgN (glc S) - 1)) 0 (gmn S)), S.2.2.2)
def strike (S : SH) : SH :=
  if fst (eqB (gmi S) (gmn S)) (gsc S) < gsc S then
    (if 0 < gc S then stL (stQ S (fst (eqB (gmi S) (gmn S)) (gsc S))) (upd (gl S) (fuN (ldI S) (gc S)) (minI (gl S (fuN (ldI S) (gc S)) + gsg S (fst (eqB (gmi S) (gmn S)) (gsc S))) 20)) else stQ S (fst (eqB (gmi S) (gmn S)) (gsc S)))
  else S
theorem WF_stQ {S : SH} (h : WF S) (q : Nat) : WF (stQ S q) := ⟨h.1, h.2.1, Nat.le_trans (Nat.sub_le _ _) h.2.2.1, by show lgN _ ≤ 6; unfold lgN; split <;> omega, h.2.2.2.2.1, h.2.2.2.2.2⟩
theorem WF_stL {S : SH} (h : WF S) (l : FI) : WF (stL S l) := h
theorem WF_stW {S : SH} (h : WF S) (l : FI) : WF (stW S l) := h
theorem WF_stM {S : SH} (h : WF S) (l : Int32) : WF (stM S l) := h
theorem WF_strike {S : SH} (h : WF S) : WF (strike S) := by
  unfold strike
  split
  · split
    · exact WF_stL (WF_stQ h _) _
    · exact WF_stQ h _
  · exact h
theorem s_strike (S : SH) (hS : WF S) : Sp 3 0 0 mX8_strikeIfScheduled [vR 0 0] (ship S) (PoV (ship (strike S))) := by
  refine Sp.of' false (fun h => by cases h) (by decide) rfl rfl (Nat.le_of_ble_eq_true rfl) fun γ σ B => ?_
  generalize hq : fst (eqB (gmi S) (gmn S)) (gsc S) = q
  have hst : strike S = if q < gsc S then (if 0 < gc S then stL (stQ S q) (upd (gl S) (fuN (ldI S) (gc S)) (minI (gl S (fuN (ldI S) (gc S)) + gsg S q) 20)) else stQ S q) else S := by unfold strike; rw [hq]
  refine B.run okX8_strikeIfScheduled [] 60 ?_
  refine At.cVI [3] [vI (gmn S)] [] B.1 (s_tfind (gsc S) hS.2.2.1 (gmi S) (gsg S) (glg S) (nI (glc S)) (gmn S)) kX9_find ln_X8_105 ⟨rfl, trivial⟩ (B.fit (by decide) (Nat.zero_le _) (Nat.zero_le _)) (dcV okX8_strikeIfScheduled rfl) ?_
  by_cases hf : q < gsc S
  · have e : fnd (gmi S) (gmn S) (gsc S) = nI q := by unfold fnd; rw [hq, if_pos hf]
    rw [e]
    have hsc := hS.2.2.1
    refine B.run okX8_strikeIfScheduled [] 60 ?_
    constructor
    · intro _
      refine At.cVI [3] [vI (nI q)] [] B.1 (s_removeAt (gsc S) hS.2.2.1 (gmi S) (gsg S) (glg S) (nI (glc S)) q hf) kX9_removeAt ln_X8_116 ⟨rfl, trivial⟩ (B.fit (by decide) (Nat.zero_le _) (Nat.zero_le _)) (dcV okX8_strikeIfScheduled rfl) ?_
      refine B.run okX8_strikeIfScheduled [] 60 ?_
      refine At.cVV [3] [vI (gmn S)] [] B.1 (s_enter (nI (gsc S - 1)) (shl (gmi S) q (gsc S - 1)) (shl (gsg S) q (gsc S - 1)) (glg S) (glc S) hS.2.2.2.1 (gmn S)) kX9_enterIntoLog ln_X8_119 ⟨rfl, trivial⟩ (B.fit (by decide) (Nat.zero_le _) (Nat.zero_le _)) (dcV okX8_strikeIfScheduled rfl) ?_
      show At γ σ 0 0 37 [(0, vR 0 0), (1, vI (nI q)), (2, vI (gsg S q))] [] (ship (stQ S q))
      refine B.run okX8_strikeIfScheduled [] 60 ?_
      constructor
      · intro h
        have h0 : ¬ 0 < gc S := fun z => nI_nle z (by have := hS.1; omega) h
        exact rV (by rw [hst, if_pos hf, if_neg h0])
      · intro h
        have h0 : 0 < gc S := by
          rcases Nat.eq_zero_or_pos (gc S) with z | z
          · exfalso
            have h : ¬ nI (gc S) ≤ 0 := h
            rw [z] at h
            exact h (by decide)
          · exact z
        refine At.cVI [0, 1, 2, 3] [] [] B.1 (s_fullest (stQ S q) (WF_stQ hS q) h0) kX8_fullestCompartment ln_X8_123 ⟨rfl, rfl, rfl, rfl, trivial⟩ (B.fit (by decide) (Nat.zero_le _) (Nat.zero_le _)) (dcV okX8_strikeIfScheduled rfl) ?_
        show At γ σ 0 0 51 [(0, vR 0 0), (1, vI (nI q)), (2, vI (gsg S q))] [vI (nI (fuN (ldI S) (gc S)))] (ship (stQ S q))
        have hl : fuN (ldI S) (gc S) < 8 := by
          have := hS.1
          obtain ⟨c', hc'⟩ : ∃ c', gc S = c' + 1 := ⟨gc S - 1, by omega⟩
          have := fuN_lt (ldI S) c'
          rw [hc']
          omega
        have hv := le8 hl (Nat.le_refl _)
        refine B.run okX8_strikeIfScheduled [] 60 ?_
        refine ⟨hv, ?_⟩
        rw [nI_clamp (by omega)]
        refine At.mmin B.1 kmin ln_X8_129 (B.fit (by decide) (Nat.zero_le _) (Nat.zero_le _)) (Nat.le_of_ble_eq_true rfl) (dcS okX8_strikeIfScheduled rfl) ?_
        refine B.run okX8_strikeIfScheduled [] 60 ?_
        refine ⟨hv, ?_⟩
        rw [nI_clamp (by omega)]
        exact rV (by rw [hst, if_pos hf, if_pos h0]; rfl)
    · intro h
      exact absurd (nI_pos' (n := q) (by omega)) h
  · have e : fnd (gmi S) (gmn S) (gsc S) = -1 := by unfold fnd; rw [hq, if_neg hf]
    rw [e]
    refine B.run okX8_strikeIfScheduled [] 60 ?_
    constructor
    · intro h
      exact absurd h (by decide)
    · intro _
      exact rV (by rw [hst, if_neg hf]; rfl)
def leakS (S : SH) : SH := stW S (fill (gc S) (lkI (gcp S) (gw S) (gl S)) (gw S))
def pumpS (S : SH) : SH := ((gc S, gar S, gcp S, fill (gc S) (pmI (gu S) (gw S) (gc S) (gpw S)) (gw S), gl S, gu S, fill (gc S) (fun j => b2 (rnB (gu S) (gw S) (gc S) (gpw S) j)) (gg S)), S.2.1, S.2.2.1, (gmn S, gpw S, glm S, gsk S, gpu S + (sumI (outI (gu S) (gw S) (gc S) (gpw S)) (gc S)).toInt64))
def sinkS (S : SH) : SH := (S.1, S.2.1, S.2.2.1, (gmn S, gpw S, glm S, (if 900 < twI S then 1 else 0), gpu S))
def tick (S : SH) : SH := sinkS (pumpS (leakS (strike (stM S (gmn S + 1)))))
def tks : Nat → SH → SH
  | 0, S => S
  | n + 1, S => if gsk S = 0 then tks n (tick S) else S
def tkc : Nat → SH → Nat
  | 0, _ => 0
  | n + 1, S => if gsk S = 0 then tkc n (tick S) + 1 else 0
theorem tkc_s (n : Nat) (S : SH) : tkc (n + 1) S = if gsk S = 0 then tkc n (tick S) + 1 else 0 := rfl
theorem tks_s (n : Nat) (S : SH) : tks (n + 1) S = if gsk S = 0 then tks n (tick S) else S := rfl
theorem WF_pumpS {S : SH} (h : WF S) : WF (pumpS S) := h
theorem WF_leakS {S : SH} (h : WF S) : WF (leakS S) := h
theorem WF_sinkS {S : SH} (h : WF S) : WF (sinkS S) := ⟨h.1, h.2.1, h.2.2.1, h.2.2.2.1, by show (if 900 < twI S then (1 : Int32) else 0) = 0 ∨ (if 900 < twI S then (1 : Int32) else 0) = 1; split; exact Or.inr rfl; exact Or.inl rfl, h.2.2.2.2.2⟩
theorem WF_tick {S : SH} (h : WF S) : WF (tick S) := WF_sinkS (WF_pumpS (WF_leakS (WF_strike (WF_stM h _))))
theorem WF_tks : ∀ (n : Nat) {S : SH}, WF S → WF (tks n S)
  | 0, _, h => h
  | n + 1, S, h => by
    unfold tks
    split
    · exact WF_tks n (WF_tick h)
    · exact h
theorem tkc_le : ∀ (n : Nat) (S : SH), tkc n S ≤ n
  | 0, _ => Nat.le_refl _
  | n + 1, S => by
    unfold tkc
    split
    · have := tkc_le n (tick S); omega
    · omega
theorem s_letPass (S0 : SH) (hS0 : WF S0) (N : Nat) (hN : N ≤ 120) : Sp 4 0 0 mX8_letPass [vR 0 0, vI (nI N)] (ship S0) (PoI (nI (tkc N S0)) (ship (tks N S0))) := by
  refine Sp.of' false (fun h => by cases h) (by decide) rfl rfl (Nat.le_of_ble_eq_true rfl) fun γ σ B => ?_
  have loop : ∀ (m i : Nat) (S : SH), WF S → i + m = N → i + tkc m S = tkc N S0 → tks m S = tks N S0 → At γ σ 0 0 2 [(0, vR 0 0), (1, vI (nI N)), (2, vI (nI i))] [] (ship S) := by
    intro m
    induction m with
    | zero =>
      intro i S hS hi he1 he2
      refine B.run okX8_letPass [(2, [0, 1, 2])] 60 ?_
      constructor
      · intro _
        exact rI (by rw [← he1]; rfl) (by rw [← he2]; rfl)
      · intro h
        exact absurd (nI_le (by omega) (by omega)) h
    | succ m ih =>
      intro i S hS hi he1 he2
      refine B.run okX8_letPass [(2, [0, 1, 2])] 60 ?_
      constructor
      · intro h
        exact absurd h (nI_ge (by omega) (by omega))
      · intro _
        constructor
        · intro hk
          have hk : gsk S = 0 := hk
          rw [tkc_s, if_pos hk] at he1
          rw [tks_s, if_pos hk] at he2
          refine ⟨trivial, ?_⟩
          show At γ σ 0 0 28 [(0, vR 0 0), (1, vI (nI N)), (2, vI (nI i + 1))] [vR 0 0] (ship (stM S (gmn S + 1)))
          rw [nI_1]
          refine At.cVV [0, 1, 2, 3] [] [] B.1 (s_strike (stM S (gmn S + 1)) (WF_stM hS _)) kX8_strikeIfScheduled ln_X8_107 ⟨rfl, rfl, rfl, rfl, trivial⟩ (B.fit (by decide) (Nat.zero_le _) (Nat.zero_le _)) (dcV okX8_letPass rfl) ?_
          show At γ σ 0 0 31 [(0, vR 0 0), (1, vI (nI N)), (2, vI (nI (i + 1)))] [] (ship (strike (stM S (gmn S + 1))))
          have h2 : WF (strike (stM S (gmn S + 1))) := WF_strike (WF_stM hS _)
          have htk : tick S = sinkS (pumpS (leakS (strike (stM S (gmn S + 1))))) := rfl
          generalize strike (stM S (gmn S + 1)) = S2 at h2 htk ⊢
          refine B.run okX8_letPass [(2, [0, 1, 2])] 60 ?_
          refine At.cVV [1] [] [] B.1 (s_takeInLeaks (gc S2) h2.1 (gar S2) (gcp S2) (gw S2) (gl S2) (gu S2) (gg S2)) kX5_takeInLeaks ln_X8_110 ⟨rfl, trivial⟩ (B.fit (by decide) (Nat.zero_le _) (Nat.zero_le _)) (dcV okX8_letPass rfl) ?_
          show At γ σ 0 0 38 [(0, vR 0 0), (1, vI (nI N)), (2, vI (nI (i + 1)))] [] (ship (leakS S2))
          have h3 : WF (leakS S2) := WF_leakS h2
          generalize leakS S2 = S3 at h3 htk ⊢
          refine B.run okX8_letPass [(2, [0, 1, 2])] 60 ?_
          refine At.cVI [1] [vI (gpw S3)] [vL (gpu S3), vR 0 0] B.1 (s_pumpOut (gc S3) h3.1 (gar S3) (gcp S3) (gw S3) (gl S3) (gu S3) (gg S3) (gpw S3)) kX5_pumpOut ln_X8_113 ⟨rfl, trivial⟩ (B.fit (by decide) (Nat.zero_le _) (Nat.zero_le _)) (dcV okX8_letPass rfl) ?_
          refine B.run okX8_letPass [(2, [0, 1, 2])] 60 ?_
          refine ⟨trivial, ?_⟩
          show At γ σ 0 0 61 [(0, vR 0 0), (1, vI (nI N)), (2, vI (nI (i + 1)))] [vR 0 0, vR 0 0] (ship (pumpS S3))
          have h4 : WF (pumpS S3) := WF_pumpS h3
          generalize pumpS S3 = S4 at h4 htk ⊢
          refine At.cVI [0, 1, 2, 3] [] [vR 0 0] B.1 (s_totalWeight S4 h4) kX8_totalWeight ln_X8_87 ⟨rfl, rfl, rfl, rfl, trivial⟩ (B.fit (by decide) (Nat.zero_le _) (Nat.zero_le _)) (dcV okX8_letPass rfl) ?_
          have h5 : WF (sinkS S4) := WF_sinkS h4
          have go := ih (i + 1) (sinkS S4) h5 (by omega) (by rw [htk] at he1; omega) (by rw [htk] at he2; exact he2)
          refine B.run okX8_letPass [(2, [0, 1, 2])] 60 ?_
          constructor
          · intro hw
            refine ⟨Or.inl rfl, ?_⟩
            have e : sinkS S4 = (S4.1, S4.2.1, S4.2.2.1, (gmn S4, gpw S4, glm S4, 0, gpu S4)) := by unfold sinkS; rw [if_neg (Int32.not_lt.mpr hw)]
            rw [e] at go
            exact go
          · intro hw
            refine ⟨Or.inr rfl, ?_⟩
            have e : sinkS S4 = (S4.1, S4.2.1, S4.2.2.1, (gmn S4, gpw S4, glm S4, 1, gpu S4)) := by unfold sinkS; rw [if_pos (Int32.not_le.mp hw)]
            rw [e] at go
            exact go
        · intro hk
          have hk : ¬ gsk S = 0 := hk
          rw [tkc_s, if_neg hk] at he1
          rw [tks_s, if_neg hk] at he2
          exact rI (by rw [← he1]; rfl) (by rw [← he2])
  refine B.run okX8_letPass [(2, [0, 1, 2])] 60 ?_
  exact loop N 0 S0 hS0 (by omega) (by omega) rfl
/-- a copy: the junk of the pumps stays -/
def cpS (S1 S2 : SH) : SH := ((gc S2, gar S2, gcp S2, gw S2, gl S2, gu S2, gg S1), S2.2)
def ship2 (S1 S2 : SH) : AHp := [qS 0 S1, qH 0 S1, qC 0 S1, qW 0 S1, qS 4 S2, qH 4 S2, qC 4 S2, qW 4 S2]
theorem s_scopy (S1 S2 : SH) (hk : gsk S2 = 0 ∨ gsk S2 = 1) : Sp 2 0 0 mX8_copyFrom [vR 0 0, vR 4 0] (ship2 S1 S2) (PoV (ship2 (cpS S1 S2) S2)) := by
  refine Sp.of' false (fun h => by cases h) (by decide) rfl rfl (Nat.le_of_ble_eq_true rfl) fun γ σ B => ?_
  refine B.run okX8_copyFrom [] 60 ?_
  refine At.cVV [1, 5] [vR 1 0] [] B.1 (s_hcopy (nI (gc S1)) (nI (gc S2)) (gar S1) (gcp S1) (gw S1) (gl S1) (gu S1) (gg S1) (gar S2) (gcp S2) (gw S2) (gl S2) (gu S2) (gg S2)) kX5_copyFrom ln_X8_39 ⟨rfl, rfl, trivial⟩ (B.fit (by decide) (Nat.zero_le _) (Nat.zero_le _)) (dcV okX8_copyFrom rfl) ?_
  show At γ σ 0 0 11 [(0, vR 0 0), (1, vR 4 0)] [] [qS 0 S1, qH 0 (cpS S1 S2), qC 0 S1, qW 0 S1, qS 4 S2, qH 4 S2, qC 4 S2, qW 4 S2]
  refine B.run okX8_copyFrom [] 60 ?_
  refine At.cVV [2, 6] [vR 1 0] [] B.1 (s_ccopy (nI (gp S1)) (nI (gp S2)) (gnx S1) (gnx S2) (gid S1) (gwt S1) (gpl S1) (gid S2) (gwt S2) (gpl S2)) kX1_copyFrom ln_X8_43 ⟨rfl, rfl, trivial⟩ (B.fit (by decide) (Nat.zero_le _) (Nat.zero_le _)) (dcV okX8_copyFrom rfl) ?_
  show At γ σ 0 0 22 [(0, vR 0 0), (1, vR 4 0)] [] [qS 0 S1, qH 0 (cpS S1 S2), qC 0 S2, qW 0 S1, qS 4 S2, qH 4 S2, qC 4 S2, qW 4 S2]
  refine B.run okX8_copyFrom [] 60 ?_
  refine At.cVV [3, 7] [vR 1 0] [] B.1 (s_tcopy (nI (gsc S1)) (nI (gsc S2)) (nI (glc S1)) (nI (glc S2)) (gmi S1) (gsg S1) (glg S1) (gmi S2) (gsg S2) (glg S2)) kX9_copyFrom ln_X8_46 ⟨rfl, rfl, trivial⟩ (B.fit (by decide) (Nat.zero_le _) (Nat.zero_le _)) (dcV okX8_copyFrom rfl) ?_
  show At γ σ 0 0 33 [(0, vR 0 0), (1, vR 4 0)] [] [qS 0 S1, qH 0 (cpS S1 S2), qC 0 S2, qW 0 S2, qS 4 S2, qH 4 S2, qC 4 S2, qW 4 S2]
  refine B.run okX8_copyFrom [] 60 ?_
  exact ⟨trivial, trivial, trivial, hk, trivial, rV⟩
