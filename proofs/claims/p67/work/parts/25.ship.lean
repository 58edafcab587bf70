/-! ===== Ship ===== -/
def wiB (x a b : Int32) : Bool := decide (a ≤ x) && decide (x ≤ b)
theorem s_isWithin (x a b : Int32) : Sp 0 0 0 mX10_isWithin [vI x, vI a, vI b] [] (PoI (b2 (wiB x a b)) []) := by
  refine Sp.of' false (fun h => by cases h) (by decide) rfl rfl (Nat.le_of_ble_eq_true rfl) fun γ σ B => ?_
  refine B.run okX10_isWithin [] 60 ?_
  constructor
  · intro h
    exact rFa (by unfold wiB; rw [decide_eq_false (Int32.not_le.mpr h)]; rfl)
  · intro h
    constructor
    · intro h2
      exact rFa (by unfold wiB; rw [decide_eq_false (Int32.not_le.mpr h2)]; simp)
    · intro h2
      exact rT (by unfold wiB; rw [decide_eq_true (Int32.not_lt.mp h), decide_eq_true (Int32.not_lt.mp h2)]; rfl)
def trimI (m wg : Int32) : Int32 := if wg + 100 ≤ 0 then 0 else m / (wg + 100)
theorem s_trimFor (m wg : Int32) : Sp 0 0 0 mX10_trimFor [vI m, vI wg] [] (PoI (trimI m wg) []) := by
  refine Sp.of' false (fun h => by cases h) (by decide) rfl rfl (Nat.le_of_ble_eq_true rfl) fun γ σ B => ?_
  refine B.run okX10_trimFor [] 60 ?_
  constructor
  · intro h
    exact rI (by unfold trimI; rw [if_pos h])
  · intro h
    refine ⟨fun e => h (by rw [e]; decide), ?_⟩
    exact rI (by unfold trimI; rw [if_neg h])
/-- a ship: hold (count, arm, capacity, water, leak, pump, running), cargo (count, nextId, id, weight, place), storms (count, minutes, strengths, logged, log), minute, power, limit, sunk, pumped -/
abbrev FI : Type := Nat → Int32
abbrev SH : Type := (Nat × FI × FI × FI × FI × FI × FI) × (Nat × Int32 × FI × FI × FI) × (Nat × FI × FI × Nat × FI) × (Int32 × Int32 × Int32 × Int32 × Int64)
abbrev gc (S : SH) : Nat := S.1.1
abbrev gar (S : SH) : FI := S.1.2.1
abbrev gcp (S : SH) : FI := S.1.2.2.1
abbrev gw (S : SH) : FI := S.1.2.2.2.1
abbrev gl (S : SH) : FI := S.1.2.2.2.2.1
abbrev gu (S : SH) : FI := S.1.2.2.2.2.2.1
abbrev gg (S : SH) : FI := S.1.2.2.2.2.2.2
abbrev gp (S : SH) : Nat := S.2.1.1
abbrev gnx (S : SH) : Int32 := S.2.1.2.1
abbrev gid (S : SH) : FI := S.2.1.2.2.1
abbrev gwt (S : SH) : FI := S.2.1.2.2.2.1
abbrev gpl (S : SH) : FI := S.2.1.2.2.2.2
abbrev gsc (S : SH) : Nat := S.2.2.1.1
abbrev gmi (S : SH) : FI := S.2.2.1.2.1
abbrev gsg (S : SH) : FI := S.2.2.1.2.2.1
abbrev glc (S : SH) : Nat := S.2.2.1.2.2.2.1
abbrev glg (S : SH) : FI := S.2.2.1.2.2.2.2
abbrev gmn (S : SH) : Int32 := S.2.2.2.1
abbrev gpw (S : SH) : Int32 := S.2.2.2.2.1
abbrev glm (S : SH) : Int32 := S.2.2.2.2.2.1
abbrev gsk (S : SH) : Int32 := S.2.2.2.2.2.2.1
abbrev gpu (S : SH) : Int64 := S.2.2.2.2.2.2.2
def qS (g : Nat) (S : SH) : List ACell := [aO 9 [vR (g + 1) 0, vR (g + 2) 0, vR (g + 3) 0, vI (gmn S), vI (gpw S), vI (glm S), vI (gsk S), vL (gpu S)]]
def qH (g : Nat) (S : SH) : List ACell := rH (g + 1) (nI (gc S)) (gar S) (gcp S) (gw S) (gl S) (gu S) (gg S)
def qC (g : Nat) (S : SH) : List ACell := rC (g + 2) (nI (gp S)) (gnx S) (gid S) (gwt S) (gpl S)
def qW (g : Nat) (S : SH) : List ACell := rW (g + 3) (nI (gsc S)) (gmi S) (gsg S) (nI (glc S)) (glg S)
def ship (S : SH) : AHp := [qS 0 S, qH 0 S, qC 0 S, qW 0 S]
def WF (S : SH) : Prop := gc S ≤ 8 ∧ gp S ≤ 16 ∧ gsc S ≤ 6 ∧ glc S ≤ 6 ∧ (gsk S = 0 ∨ gsk S = 1) ∧ ∀ k, k < gp S → ∃ j, j < gc S ∧ gpl S k = nI j
/-- the load of a compartment -/
def ldI (S : SH) (i : Nat) : Int32 := gw S i + cgI (gwt S) (gpl S) (nI i) (gp S)
theorem s_loadIn (S : SH) (hS : WF S) (i : Nat) (hi : i < 8) : Sp 1 0 0 mX8_loadIn [vR 0 0, vI (nI i)] (ship S) (PoI (ldI S i) (ship S)) := by
  refine Sp.of' false (fun h => by cases h) (by decide) rfl rfl (Nat.le_of_ble_eq_true rfl) fun γ σ B => ?_
  refine B.run okX8_loadIn [] 60 ?_
  refine ⟨le8 hi (Nat.le_refl _), ?_⟩
  rw [nI_clamp (by omega)]
  refine At.cVI [2] [vI (nI i)] [vI (gw S i)] B.1 (s_weightIn (gp S) hS.2.1 (gnx S) (gid S) (gwt S) (gpl S) (nI i)) kX1_weightIn ln_X8_141 ⟨rfl, trivial⟩ (B.fit (by decide) (Nat.zero_le _) (Nat.zero_le _)) (dcV okX8_loadIn rfl) ?_
  refine B.run okX8_loadIn [] 60 ?_
  exact rI rfl
/-- its weight -/
def twI (S : SH) : Int32 := sumI (ldI S) (gc S)
theorem s_totalWeight (S : SH) (hS : WF S) : Sp 2 0 0 mX8_totalWeight [vR 0 0] (ship S) (PoI (twI S) (ship S)) := by
  refine Sp.of' false (fun h => by cases h) (by decide) rfl rfl (Nat.le_of_ble_eq_true rfl) fun γ σ B => ?_
  have hc := hS.1
  have loop : ∀ (m i : Nat), i + m = gc S → At γ σ 0 0 4 [(0, vR 0 0), (1, vI (sumI (ldI S) i)), (2, vI (nI i))] [] (ship S) := by
    intro m
    induction m with
    | zero =>
      intro i hi
      refine B.run okX8_totalWeight [(4, [0, 1, 2])] 60 ?_
      constructor
      · intro _
        exact rI (by unfold twI; rw [← hi]; rfl)
      · intro h
        exact absurd (nI_le (by omega) (by omega)) h
    | succ m ih =>
      intro i hi
      refine B.run okX8_totalWeight [(4, [0, 1, 2])] 60 ?_
      constructor
      · intro h
        exact absurd h (nI_ge (by omega) (by omega))
      · intro _
        refine At.cVI [0, 1, 2, 3] [vI (nI i)] [vI (sumI (ldI S) i)] B.1 (s_loadIn S hS i (by omega)) kX8_loadIn ln_X8_135 ⟨rfl, rfl, rfl, rfl, trivial⟩ (B.fit (by decide) (Nat.zero_le _) (Nat.zero_le _)) (dcV okX8_totalWeight rfl) ?_
        refine B.run okX8_totalWeight [(4, [0, 1, 2])] 60 ?_
        show At γ σ 0 0 4 _ _ _
        rw [nI_1]
        exact ih (i + 1) (by omega)
  refine B.run okX8_totalWeight [(4, [0, 1, 2])] 60 ?_
  exact loop (gc S) 0 (by omega)
theorem s_weightOfParts (S : SH) (hS : WF S) : Sp 1 0 0 mX8_weightOfParts [vR 0 0] (ship S) (PoI (sumI (gw S) (gc S) + sumI (gwt S) (gp S)) (ship S)) := by
  refine Sp.of' false (fun h => by cases h) (by decide) rfl rfl (Nat.le_of_ble_eq_true rfl) fun γ σ B => ?_
  refine B.run okX8_weightOfParts [] 60 ?_
  refine At.cVI [1] [] [] B.1 (s_totalWater (gc S) hS.1 (gar S) (gcp S) (gw S) (gl S) (gu S) (gg S)) kX5_totalWater ln_X8_148 ⟨rfl, trivial⟩ (B.fit (by decide) (Nat.zero_le _) (Nat.zero_le _)) (dcV okX8_weightOfParts rfl) ?_
  refine B.run okX8_weightOfParts [] 60 ?_
  refine At.cVI [2] [] [vI (sumI (gw S) (gc S))] B.1 (s_ctotal (gp S) hS.2.1 (gnx S) (gid S) (gwt S) (gpl S)) kX1_totalWeight ln_X8_151 ⟨rfl, trivial⟩ (B.fit (by decide) (Nat.zero_le _) (Nat.zero_le _)) (dcV okX8_weightOfParts rfl) ?_
  refine B.run okX8_weightOfParts [] 60 ?_
  exact rI rfl
/-- the moment -/
def tmI (S : SH) : Int32 := sumI (fun i => ldI S i * gar S i) (gc S)
theorem s_totalMoment (S : SH) (hS : WF S) : Sp 2 0 0 mX8_totalMoment [vR 0 0] (ship S) (PoI (tmI S) (ship S)) := by
  refine Sp.of' false (fun h => by cases h) (by decide) rfl rfl (Nat.le_of_ble_eq_true rfl) fun γ σ B => ?_
  have hc := hS.1
  have loop : ∀ (m i : Nat), i + m = gc S → At γ σ 0 0 4 [(0, vR 0 0), (1, vI (sumI (fun i => ldI S i * gar S i) i)), (2, vI (nI i))] [] (ship S) := by
    intro m
    induction m with
    | zero =>
      intro i hi
      refine B.run okX8_totalMoment [(4, [0, 1, 2])] 60 ?_
      constructor
      · intro _
        exact rI (by unfold tmI; rw [← hi]; rfl)
      · intro h
        exact absurd (nI_le (by omega) (by omega)) h
    | succ m ih =>
      intro i hi
      refine B.run okX8_totalMoment [(4, [0, 1, 2])] 60 ?_
      constructor
      · intro h
        exact absurd h (nI_ge (by omega) (by omega))
      · intro _
        refine At.cVI [0, 1, 2, 3] [vI (nI i)] [vI (sumI (fun i => ldI S i * gar S i) i)] B.1 (s_loadIn S hS i (by omega)) kX8_loadIn ln_X8_135 ⟨rfl, rfl, rfl, rfl, trivial⟩ (B.fit (by decide) (Nat.zero_le _) (Nat.zero_le _)) (dcV okX8_totalMoment rfl) ?_
        refine B.run okX8_totalMoment [(4, [0, 1, 2])] 60 ?_
        refine ⟨le8 (by omega) hc, ?_⟩
        show At γ σ 0 0 4 _ _ _
        rw [nI_1, nI_clamp (by omega)]
        exact ih (i + 1) (by omega)
  refine B.run okX8_totalMoment [(4, [0, 1, 2])] 60 ?_
  exact loop (gc S) 0 (by omega)
/-- x and the first n of f -/
def sumX (x : Int32) (f : Nat → Int32) : Nat → Int32
  | 0 => x
  | n + 1 => sumX x f n + f n
def mpI (S : SH) : Int32 := sumX (sumI (fun i => gw S i * gar S i) (gc S)) (fun k => gwt S k * gar S (gpl S k).toNatClampNeg) (gp S)
theorem s_momentOfParts (S : SH) (hS : WF S) : Sp 2 0 0 mX8_momentOfParts [vR 0 0] (ship S) (PoI (mpI S) (ship S)) := by
  refine Sp.of' false (fun h => by cases h) (by decide) rfl rfl (Nat.le_of_ble_eq_true rfl) fun γ σ B => ?_
  have hc := hS.1
  have hp := hS.2.1
  have loop2 : ∀ (m i : Nat), i + m = gp S → At γ σ 0 0 45 [(0, vR 0 0), (1, vI (sumX (sumI (fun i => gw S i * gar S i) (gc S)) (fun k => gwt S k * gar S (gpl S k).toNatClampNeg) i)), (2, vI (nI i))] [] (ship S) := by
    intro m
    induction m with
    | zero =>
      intro i hi
      refine B.run okX8_momentOfParts [(45, [0, 1, 2])] 60 ?_
      constructor
      · intro _
        exact rI (by unfold mpI; rw [← hi]; rfl)
      · intro h
        exact absurd (nI_le (by omega) (by omega)) h
    | succ m ih =>
      intro i hi
      refine B.run okX8_momentOfParts [(45, [0, 1, 2])] 60 ?_
      constructor
      · intro h
        exact absurd h (nI_ge (by omega) (by omega))
      · intro _
        obtain ⟨j, hj, he⟩ := hS.2.2.2.2.2 i (by omega)
        have hv := le16 (a := i) (by omega) hp
        have go := ih (i + 1) (by omega)
        have e : sumX (sumI (fun i => gw S i * gar S i) (gc S)) (fun k => gwt S k * gar S (gpl S k).toNatClampNeg) (i + 1) = sumX (sumI (fun i => gw S i * gar S i) (gc S)) (fun k => gwt S k * gar S (gpl S k).toNatClampNeg) i + gwt S i * gar S j := by
          show _ + gwt S i * gar S (gpl S i).toNatClampNeg = _
          rw [he, nI_clamp (by omega)]
        rw [e] at go
        refine ⟨hv, hv, ?_⟩
        rw [nI_clamp (by omega), he]
        refine At.cVI [1] [vI (nI j)] [vI (gwt S i), vI (sumX (sumI (fun i => gw S i * gar S i) (gc S)) (fun k => gwt S k * gar S (gpl S k).toNatClampNeg) i)] B.1 (s_armOf (gc S) hS.1 (gar S) (gcp S) (gw S) (gl S) (gu S) (gg S) j hj) kX5_armOf ln_X8_158 ⟨rfl, trivial⟩ (B.fit (by decide) (Nat.zero_le _) (Nat.zero_le _)) (dcV okX8_momentOfParts rfl) ?_
        refine B.run okX8_momentOfParts [(45, [0, 1, 2])] 60 ?_
        show At γ σ 0 0 45 _ _ _
        rw [nI_1]
        exact go
  have loop1 : ∀ (m i : Nat), i + m = gc S → At γ σ 0 0 4 [(0, vR 0 0), (1, vI (sumI (fun i => gw S i * gar S i) i)), (2, vI (nI i))] [] (ship S) := by
    intro m
    induction m with
    | zero =>
      intro i hi
      refine B.run okX8_momentOfParts [(4, [0, 1, 2]), (45, [0, 1, 2])] 60 ?_
      constructor
      · intro _
        have := loop2 (gp S) 0 (by omega)
        have hi : i = gc S := by omega
        rw [hi]
        exact this
      · intro h
        exact absurd (nI_le (by omega) (by omega)) h
    | succ m ih =>
      intro i hi
      refine B.run okX8_momentOfParts [(4, [0, 1, 2]), (45, [0, 1, 2])] 60 ?_
      constructor
      · intro h
        exact absurd h (nI_ge (by omega) (by omega))
      · intro _
        have hv := le8 (a := i) (by omega) hc
        refine ⟨hv, hv, ?_⟩
        show At γ σ 0 0 4 _ _ _
        rw [nI_1, nI_clamp (by omega)]
        exact ih (i + 1) (by omega)
  refine B.run okX8_momentOfParts [(4, [0, 1, 2]), (45, [0, 1, 2])] 60 ?_
  exact loop1 (gc S) 0 (by omega)
def absI (x : Int32) : Int32 := if 0 ≤ x then x else 0 - x
theorem s_isWithinLimit (S : SH) (m wg : Int32) : Sp 1 0 0 mX8_isWithinLimit [vR 0 0, vI m, vI wg] (ship S) (PoI (b2 (decide (absI (trimI m wg) ≤ glm S))) (ship S)) := by
  refine Sp.of' false (fun h => by cases h) (by decide) rfl rfl (Nat.le_of_ble_eq_true rfl) fun γ σ B => ?_
  refine B.run okX8_isWithinLimit [] 60 ?_
  refine At.cNI [] [vI m, vI wg] [] B.1 (s_trimFor m wg) kX10_trimFor nn_X8_161 trivial (B.fit (by decide) (Nat.zero_le _) (Nat.zero_le _)) (dcS okX8_isWithinLimit rfl) ?_
  refine B.run okX8_isWithinLimit [] 60 ?_
  refine At.mabs B.1 kabs ln_X8_164 (B.fit (by decide) (Nat.zero_le _) (Nat.zero_le _)) (Nat.le_of_ble_eq_true rfl) (dcS okX8_isWithinLimit rfl) ?_
  refine B.run okX8_isWithinLimit [] 60 ?_
  constructor
  · intro h
    exact rFa (decide_eq_false (Int32.not_le.mpr h))
  · intro h
    exact rT (decide_eq_true (Int32.not_lt.mp h))
/-- i comes before j in the order of loads -/
def lbB (S : SH) (i j : Nat) : Bool := decide (0 < (if ldI S i - ldI S j = 0 then gw S i - gw S j else ldI S i - ldI S j)) || (decide ((if ldI S i - ldI S j = 0 then gw S i - gw S j else ldI S i - ldI S j) = 0) && decide (i < j))
theorem s_isLoadedBefore (S : SH) (hS : WF S) (i j : Nat) (hi : i < 8) (hj : j < 8) : Sp 2 0 0 mX8_isLoadedBefore [vR 0 0, vI (nI i), vI (nI j)] (ship S) (PoI (b2 (lbB S i j)) (ship S)) := by
  refine Sp.of' false (fun h => by cases h) (by decide) rfl rfl (Nat.le_of_ble_eq_true rfl) fun γ σ B => ?_
  have hv := le8 hi (Nat.le_refl _)
  have hw := le8 hj (Nat.le_refl _)
  have fin : ∀ x : Int32, (if ldI S i - ldI S j = 0 then gw S i - gw S j else ldI S i - ldI S j) = x → At γ σ 0 0 36 [(0, vR 0 0), (1, vI (nI i)), (2, vI (nI j)), (3, vI x)] [] (ship S) := by
    intro x hx
    refine B.run okX8_isLoadedBefore [] 60 ?_
    constructor
    · intro h
      exact rT (by unfold lbB; rw [hx, decide_eq_true h]; rfl)
    · intro h
      constructor
      · intro h2
        constructor
        · intro h3
          have h3 : ¬ i < j := fun q => nI_ge q (by omega) h3
          exact rFa (by unfold lbB; rw [hx, decide_eq_false h, decide_eq_false h3]; simp)
        · intro h3
          have h3 : i < j := by
            rcases Nat.lt_or_ge i j with q | q
            · exact q
            · exact absurd (nI_le q (by omega)) h3
          exact rT (by unfold lbB; rw [hx, decide_eq_true h2, decide_eq_true h3]; simp)
      · intro h2
        exact rFa (by unfold lbB; rw [hx, decide_eq_false h, decide_eq_false h2]; rfl)
  refine B.run okX8_isLoadedBefore [] 60 ?_
  refine At.cVI [0, 1, 2, 3] [vI (nI i)] [] B.1 (s_loadIn S hS i hi) kX8_loadIn ln_X8_135 ⟨rfl, rfl, rfl, rfl, trivial⟩ (B.fit (by decide) (Nat.zero_le _) (Nat.zero_le _)) (dcV okX8_isLoadedBefore rfl) ?_
  refine B.run okX8_isLoadedBefore [] 60 ?_
  refine At.cVI [0, 1, 2, 3] [vI (nI j)] [vI (ldI S i)] B.1 (s_loadIn S hS j hj) kX8_loadIn ln_X8_135 ⟨rfl, rfl, rfl, rfl, trivial⟩ (B.fit (by decide) (Nat.zero_le _) (Nat.zero_le _)) (dcV okX8_isLoadedBefore rfl) ?_
  refine B.run okX8_isLoadedBefore [(36, [0, 1, 2, 3])] 60 ?_
  constructor
  · intro h
    refine ⟨hv, hw, ?_⟩
    show At γ σ 0 0 36 _ _ _
    rw [nI_clamp (by omega), nI_clamp (by omega)]
    exact fin _ (by rw [if_pos h])
  · intro h
    exact fin _ (by rw [if_neg h])
theorem s_loadRank (S : SH) (hS : WF S) (j : Nat) (hj : j < 8) : Sp 3 0 0 mX8_loadRank [vR 0 0, vI (nI j)] (ship S) (PoI (nI (ctB (fun i => lbB S i j) (gc S))) (ship S)) := by
  refine Sp.of' false (fun h => by cases h) (by decide) rfl rfl (Nat.le_of_ble_eq_true rfl) fun γ σ B => ?_
  have hc := hS.1
  have loop : ∀ (m i : Nat), i + m = gc S → At γ σ 0 0 4 [(0, vR 0 0), (1, vI (nI j)), (2, vI (nI (ctB (fun i => lbB S i j) i))), (3, vI (nI i))] [] (ship S) := by
    intro m
    induction m with
    | zero =>
      intro i hi
      refine B.run okX8_loadRank [(4, [0, 1, 2, 3])] 60 ?_
      constructor
      · intro _
        exact rI (by rw [← hi]; rfl)
      · intro h
        exact absurd (nI_le (by omega) (by omega)) h
    | succ m ih =>
      intro i hi
      refine B.run okX8_loadRank [(4, [0, 1, 2, 3])] 60 ?_
      constructor
      · intro h
        exact absurd h (nI_ge (by omega) (by omega))
      · intro _
        refine At.cVI [0, 1, 2, 3] [vI (nI i), vI (nI j)] [] B.1 (s_isLoadedBefore S hS i j (by omega) hj) kX8_isLoadedBefore ln_X8_144 ⟨rfl, rfl, rfl, rfl, trivial⟩ (B.fit (by decide) (Nat.zero_le _) (Nat.zero_le _)) (dcV okX8_loadRank rfl) ?_
        have := ih (i + 1) (by omega)
        unfold ctB at this
        refine B.run okX8_loadRank [(4, [0, 1, 2, 3])] 60 ?_
        constructor
        · intro h
          have h := b2_eq0.mp h
          rw [h] at this
          show At γ σ 0 0 4 _ _ _
          rw [nI_1]
          exact this
        · intro h
          have h := b2_ne0.mp h
          rw [h] at this
          show At γ σ 0 0 4 _ _ _
          rw [nI_1, nI_1]
          exact this
  refine B.run okX8_loadRank [(4, [0, 1, 2, 3])] 60 ?_
  exact loop (gc S) 0 (by omega)
/-- the first of the greatest among the first n -/
def fuN (f : Nat → Int32) : Nat → Nat
  | 0 => 0
  | n + 1 => if f (fuN f n) < f n then n else fuN f n
theorem fuN_lt (f : Nat → Int32) : ∀ n, fuN f (n + 1) < n + 1
  | 0 => by unfold fuN; split <;> simp [fuN]
  | n + 1 => by
    have := fuN_lt f n
    unfold fuN
    split <;> omega
theorem s_fullest (S : SH) (hS : WF S) (h0 : 0 < gc S) : Sp 2 0 0 mX8_fullestCompartment [vR 0 0] (ship S) (PoI (nI (fuN (ldI S) (gc S))) (ship S)) := by
  refine Sp.of' false (fun h => by cases h) (by decide) rfl rfl (Nat.le_of_ble_eq_true rfl) fun γ σ B => ?_
  have hc := hS.1
  have loop : ∀ (m i : Nat), i + 1 + m = gc S → At γ σ 0 0 4 [(0, vR 0 0), (1, vI (nI (fuN (ldI S) (i + 1)))), (2, vI (nI (i + 1)))] [] (ship S) := by
    intro m
    induction m with
    | zero =>
      intro i hi
      refine B.run okX8_fullestCompartment [(4, [0, 1, 2])] 60 ?_
      constructor
      · intro _
        exact rI (by rw [← hi])
      · intro h
        exact absurd (nI_le (by omega) (by omega)) h
    | succ m ih =>
      intro i hi
      have hl := fuN_lt (ldI S) i
      refine B.run okX8_fullestCompartment [(4, [0, 1, 2])] 60 ?_
      constructor
      · intro h
        exact absurd h (nI_ge (by omega) (by omega))
      · intro _
        refine At.cVI [0, 1, 2, 3] [vI (nI (i + 1))] [] B.1 (s_loadIn S hS (i + 1) (by omega)) kX8_loadIn ln_X8_135 ⟨rfl, rfl, rfl, rfl, trivial⟩ (B.fit (by decide) (Nat.zero_le _) (Nat.zero_le _)) (dcV okX8_fullestCompartment rfl) ?_
        refine B.run okX8_fullestCompartment [(4, [0, 1, 2])] 60 ?_
        refine At.cVI [0, 1, 2, 3] [vI (nI (fuN (ldI S) (i + 1)))] [vI (ldI S (i + 1))] B.1 (s_loadIn S hS (fuN (ldI S) (i + 1)) (by omega)) kX8_loadIn ln_X8_135 ⟨rfl, rfl, rfl, rfl, trivial⟩ (B.fit (by decide) (Nat.zero_le _) (Nat.zero_le _)) (dcV okX8_fullestCompartment rfl) ?_
        have := ih (i + 1) (by omega)
        have e : fuN (ldI S) (i + 1 + 1) = if ldI S (fuN (ldI S) (i + 1)) < ldI S (i + 1) then i + 1 else fuN (ldI S) (i + 1) := rfl
        rw [e] at this
        refine B.run okX8_fullestCompartment [(4, [0, 1, 2])] 60 ?_
        constructor
        · intro h
          rw [if_neg (Int32.not_lt.mpr h)] at this
          show At γ σ 0 0 4 _ _ _
          rw [nI_1]
          exact this
        · intro h
          rw [if_pos (Int32.not_le.mp h)] at this
          show At γ σ 0 0 4 _ _ _
          rw [nI_1]
          exact this
  refine B.run okX8_fullestCompartment [(4, [0, 1, 2])] 60 ?_
  have := loop (gc S - 1) 0 (by omega)
  have e : fuN (ldI S) (0 + 1) = 0 := by unfold fuN; split <;> rfl
  rw [e] at this
  exact this
