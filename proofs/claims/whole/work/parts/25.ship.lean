/-! ===== Ship ===== -/
def wiB (x a b : Int32) : Bool := decide (a ≤ x) && decide (x ≤ b)
theorem s_isWithin (x a b : Int32) : Sp 0 0 0 mX10_isWithin [vI x, vI a, vI b] [] (PoI (b2 (wiB x a b)) []) := by
  refine Sp.of' false (fun h => by cases h) (by decide) rfl rfl (Nat.le_of_ble_eq_true rfl) fun γ σ B => ?_
  refine B.run okX10_isWithin [] 60 ?_
  constructor
  · intro h
    exact rFa (by unfold wiB; rw [decide_eq_false (Int32.not_le.mpr h)]; rfl)
  · intro h
    constructor
    · intro h2
      exact rFa (by unfold wiB; rw [decide_eq_false (Int32.not_le.mpr h2)]; simp)
    · intro h2
      exact rT (by unfold wiB; rw [decide_eq_true (Int32.not_lt.mp h), decide_eq_true (Int32.not_lt.mp h2)]; rfl)
def trimI (m wg : Int32) : Int32 := if wg + 100 ≤ 0 then 0 else m / (wg + 100)
theorem s_trimFor (m wg : Int32) : Sp 0 0 0 mX10_trimFor [vI m, vI wg] [] (PoI (trimI m wg) []) := by
  refine Sp.of' false (fun h => by cases h) (by decide) rfl rfl (Nat.le_of_ble_eq_true rfl) fun γ σ B => ?_
  refine B.run okX10_trimFor [] 60 ?_
  constructor
  · intro h
    exact rI (by unfold trimI; rw [if_pos h])
  · intro h
    refine ⟨fun e => h (by rw [e]; decide), ?_⟩
    exact rI (by unfold trimI; rw [if_neg h])
/-- a ship: hold (count, arm, capacity, water, leak, pump, running), cargo (count, nextId, id, weight, place), storms (count, minutes, strengths, logged, log), minute, power, limit, sunk, pumped -/
abbrev FI : Type := Nat → Int32
abbrev SH : Type := (Nat × FI × FI × FI × FI × FI × FI) × (Nat × Int32 × FI × FI × FI) × (Nat × FI × FI × Nat × FI) × (Int32 × Int32 × Int32 × Int32 × Int64)
abbrev gc (S : SH) : Nat := S.1.1
abbrev gar (S : SH) : FI := S.1.2.1
abbrev gcp (S : SH) : FI := S.1.2.2.1
abbrev gw (S : SH) : FI := S.1.2.2.2.1
abbrev gl (S : SH) : FI := S.1.2.2.2.2.1
abbrev gu (S : SH) : FI := S.1.2.2.2.2.2.1
abbrev gg (S : SH) : FI := S.1.2.2.2.2.2.2
abbrev gp (S : SH) : Nat := S.2.1.1
abbrev gnx (S : SH) : Int32 := S.2.1.2.1
abbrev gid (S : SH) : FI := S.2.1.2.2.1
abbrev gwt (S : SH) : FI := S.2.1.2.2.2.1
abbrev gpl (S : SH) : FI := S.2.1.2.2.2.2
abbrev gsc (S : SH) : Nat := S.2.2.1.1
abbrev gmi (S : SH) : FI := S.2.2.1.2.1
abbrev gsg (S : SH) : FI := S.2.2.1.2.2.1
abbrev glc (S : SH) : Nat := S.2.2.1.2.2.2.1
abbrev glg (S : SH) : FI := S.2.2.1.2.2.2.2
abbrev gmn (S : SH) : Int32 := S.2.2.2.1
abbrev gpw (S : SH) : Int32 := S.2.2.2.2.1
abbrev glm (S : SH) : Int32 := S.2.2.2.2.2.1
abbrev gsk (S : SH) : Int32 := S.2.2.2.2.2.2.1
abbrev gpu (S : SH) : Int64 := S.2.2.2.2.2.2.2
def qS (g : Nat) (S : SH) : List ACell := [aO 9 [vR (g + 1) 0, vR (g + 2) 0, vR (g + 3) 0, vI (gmn S), vI (gpw S), vI (glm S), vI (gsk S), vL (gpu S)]]
def qH (g : Nat) (S : SH) : List ACell := rH (g + 1) (nI (gc S)) (gar S) (gcp S) (gw S) (gl S) (gu S) (gg S)
def qC (g : Nat) (S : SH) : List ACell := rC (g + 2) (nI (gp S)) (gnx S) (gid S) (gwt S) (gpl S)
def qW (g : Nat) (S : SH) : List ACell := rW (g + 3) (nI (gsc S)) (gmi S) (gsg S) (nI (glc S)) (glg S)
def ship (S : SH) : AHp := [qS 0 S, qH 0 S, qC 0 S, qW 0 S]
def WF (S : SH) : Prop := gc S ≤ 8 ∧ gp S ≤ 16 ∧ gsc S ≤ 6 ∧ glc S ≤ 6 ∧ (gsk S = 0 ∨ gsk S = 1) ∧ ∀ k, k < gp S → ∃ j, j < gc S ∧ gpl S k = nI j
/-- the load of a compartment -/
def ldI (S : SH) (i : Nat) : Int32 := gw S i + cgI (gwt S) (gpl S) (nI i) (gp S)
theorem s_loadIn (S : SH) (hS : WF S) (i : Nat) (hi : i < 8) : Sp 1 0 0 mX8_loadIn [vR 0 0, vI (nI i)] (ship S) (PoI (ldI S i) (ship S)) := by
  refine Sp.of' false (fun h => by cases h) (by decide) rfl rfl (Nat.le_of_ble_eq_true rfl) fun γ σ B => ?_
  refine B.run okX8_loadIn [] 60 ?_
  refine ⟨le8 hi (Nat.le_refl _), ?_⟩
  rw [nI_clamp (by omega)]
  refine At.cVI [2] [vI (nI i)] [vI (gw S i)] B.1 (s_weightIn (gp S) hS.2.1 (gnx S) (gid S) (gwt S) (gpl S) (nI i)) kX1_weightIn ln_X8_141 ⟨rfl, trivial⟩ (B.fit (by decide) (Nat.zero_le _) (Nat.zero_le _)) (dcV okX8_loadIn rfl) ?_
  refine B.run okX8_loadIn [] 60 ?_
  exact rI rfl
/-- its weight -/
def twI (S : SH) : Int32 := sumI (ldI S) (gc S)
theorem s_totalWeight (S : SH) (hS : WF S) : Sp 2 0 0 mX8_totalWeight [vR 0 0] (ship S) (PoI (twI S) (ship S)) := by
  refine Sp.of' false (fun h => by cases h) (by decide) rfl rfl (Nat.le_of_ble_eq_true rfl) fun γ σ B => ?_
  have hc := hS.1
  have loop : ∀ (m i : Nat), i + m = gc S → At γ σ 0 0 4 [(0, vR 0 0), (1, vI (sumI (ldI S) i)), (2, vI (nI i))] [] (ship S) := by
    intro m
    induction m with
    | zero =>
      intro i hi
      refine B.run okX8_totalWeight [(4, [0, 1, 2])] 60 ?_
      constructor
      · intro _
        exact rI (by unfold twI; rw [← hi]; rfl)
      · intro h
        exact absurd (nI_le (by omega) (by omega)) h
    | succ m ih =>
      intro i hi
      refine B.run okX8_totalWeight [(4, [0, 1, 2])] 60 ?_
      constructor
      · intro h
        exact absurd h (nI_ge (by omega) (by omega))
      · intro _
        refine At.cVI [0, 1, 2, 3] [vI (nI i)] [vI (sumI (ldI S) i)] B.1 (s_loadIn S hS i (by omega)) kX8_loadIn ln_X8_135 ⟨rfl, rfl, rfl, rfl, trivial⟩ (B.fit (by decide) (Nat.zero_le _) (Nat.zero_le _)) (dcV okX8_totalWeight rfl) ?_
        refine B.run okX8_totalWeight [(4, [0, 1, 2])] 60 ?_
        show At γ σ 0 0 4 _ _ _
        rw [nI_1]
        exact ih (i + 1) (by omega)
  refine B.run okX8_totalWeight [(4, [0, 1, 2])] 60 ?_
  exact loop (gc S) 0 (by omega)
