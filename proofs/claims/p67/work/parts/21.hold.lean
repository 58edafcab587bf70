/-! ===== Hold ===== -/
/-- count, arm, capacity, water, leak, pump, running -/
def rH (r : Nat) (c : Int32) (ar cp w l u g : Nat → Int32) : List ACell := [aO 7 [vI c, vR r 1, vR r 2, vR r 3, vR r 4, vR r 5, vR r 6], aI 8 ar, aI 8 cp, aI 8 w, aI 8 l, aI 8 u, .inl (.boolean, 8, .inl g)]
theorem s_has (c : Nat) (hc : c ≤ 8) (ar cp w l u g : Nat → Int32) (x : Int32) : Sp 0 0 0 mX5_has [vR 0 0, vI x] [rH 0 (nI c) ar cp w l u g]
    (PoI (if x < 0 then 0 else if nI c ≤ x then 0 else 1) [rH 0 (nI c) ar cp w l u g]) := by
  refine Sp.of' false (fun h => by cases h) (by decide) rfl rfl (Nat.le_of_ble_eq_true rfl) fun γ σ B => ?_
  refine B.run okX5_has [] 60 ?_
  constructor
  · intro h1
    exact ⟨Or.inl rfl, ⟨by rw [if_pos h1], rfl⟩, Nat.le_refl _, Nat.le_refl _⟩
  · intro h1
    constructor
    · intro h2
      exact ⟨Or.inl rfl, ⟨by rw [if_neg h1, if_pos h2], rfl⟩, Nat.le_refl _, Nat.le_refl _⟩
    · intro h2
      exact ⟨Or.inr rfl, ⟨by rw [if_neg h1, if_neg h2], rfl⟩, Nat.le_refl _, Nat.le_refl _⟩
theorem s_canMove (c : Int32) (ar cp w l u g : Nat → Int32) (s t a : Int32) (hs : vp_in s 8) (ht : vp_in t 8) : Sp 0 0 0 mX5_canMove [vR 0 0, vI s, vI t, vI a] [rH 0 c ar cp w l u g]
    (PoI (if s = t then 0 else if w s.toNatClampNeg < a then 0 else if w t.toNatClampNeg + a ≤ cp t.toNatClampNeg then 1 else 0) [rH 0 c ar cp w l u g]) := by
  refine Sp.of' false (fun h => by cases h) (by decide) rfl rfl (Nat.le_of_ble_eq_true rfl) fun γ σ B => ?_
  refine B.run okX5_canMove [] 60 ?_
  constructor
  · intro h1
    exact ⟨Or.inl rfl, ⟨by rw [if_pos h1], rfl⟩, Nat.le_refl _, Nat.le_refl _⟩
  · intro h1
    refine ⟨hs, ?_⟩
    constructor
    · intro h2
      exact ⟨Or.inl rfl, ⟨by rw [if_neg h1, if_pos h2], rfl⟩, Nat.le_refl _, Nat.le_refl _⟩
    · intro h2
      refine ⟨ht, ht, ?_⟩
      constructor
      · intro h3
        exact ⟨Or.inl rfl, ⟨by rw [if_neg h1, if_neg h2, if_neg (Int32.not_le.mpr h3)], rfl⟩, Nat.le_refl _, Nat.le_refl _⟩
      · intro h3
        exact ⟨Or.inr rfl, ⟨by rw [if_neg h1, if_neg h2, if_pos (Int32.not_lt.mp h3)], rfl⟩, Nat.le_refl _, Nat.le_refl _⟩
theorem s_totalWater (c : Nat) (hc : c ≤ 8) (ar cp w l u g : Nat → Int32) : Sp 0 0 0 mX5_totalWater [vR 0 0] [rH 0 (nI c) ar cp w l u g] (PoI (sumI w c) [rH 0 (nI c) ar cp w l u g]) := by
  refine Sp.of' false (fun h => by cases h) (by decide) rfl rfl (Nat.le_of_ble_eq_true rfl) fun γ σ B => ?_
  have loop : ∀ (m i : Nat), i + m = c → At γ σ 0 0 4 [(0, vR 0 0), (1, vI (sumI w i)), (2, vI (nI i))] [] [rH 0 (nI c) ar cp w l u g] := by
    intro m
    induction m with
    | zero =>
      intro i hi
      have hi : i = c := by omega
      subst hi
      refine B.run okX5_totalWater [(4, [0, 1, 2])] 60 ?_
      constructor
      · intro _
        exact ⟨⟨rfl, rfl⟩, Nat.le_refl _, Nat.le_refl _⟩
      · intro h
        exact absurd (nI_le (Nat.le_refl _) (by omega)) h
    | succ m ih =>
      intro i hi
      refine B.run okX5_totalWater [(4, [0, 1, 2])] 60 ?_
      constructor
      · intro h
        exact absurd h (nI_ge (by omega) (by omega))
      · intro _
        refine ⟨le8 (by omega) hc, ?_⟩
        show At γ σ 0 0 4 _ _ _
        have := ih (i + 1) (by omega)
        rw [nI_clamp (by omega), nI_1]
        exact this
  refine B.run okX5_totalWater [(4, [0, 1, 2])] 60 ?_
  exact loop c 0 (by omega)
theorem s_totalCapacity (c : Nat) (hc : c ≤ 8) (ar cp w l u g : Nat → Int32) : Sp 0 0 0 mX5_totalCapacity [vR 0 0] [rH 0 (nI c) ar cp w l u g] (PoI (sumI cp c) [rH 0 (nI c) ar cp w l u g]) := by
  refine Sp.of' false (fun h => by cases h) (by decide) rfl rfl (Nat.le_of_ble_eq_true rfl) fun γ σ B => ?_
  have loop : ∀ (m i : Nat), i + m = c → At γ σ 0 0 4 [(0, vR 0 0), (1, vI (sumI cp i)), (2, vI (nI i))] [] [rH 0 (nI c) ar cp w l u g] := by
    intro m
    induction m with
    | zero =>
      intro i hi
      have hi : i = c := by omega
      subst hi
      refine B.run okX5_totalCapacity [(4, [0, 1, 2])] 60 ?_
      constructor
      · intro _
        exact rI rfl
      · intro h
        exact absurd (nI_le (Nat.le_refl _) (by omega)) h
    | succ m ih =>
      intro i hi
      refine B.run okX5_totalCapacity [(4, [0, 1, 2])] 60 ?_
      constructor
      · intro h
        exact absurd h (nI_ge (by omega) (by omega))
      · intro _
        refine ⟨le8 (by omega) hc, ?_⟩
        show At γ σ 0 0 4 _ _ _
        have := ih (i + 1) (by omega)
        rw [nI_clamp (by omega), nI_1]
        exact this
  refine B.run okX5_totalCapacity [(4, [0, 1, 2])] 60 ?_
  exact loop c 0 (by omega)
/-- some compartment below c holds more than its capacity -/
def ovB (cp w : Nat → Int32) : Nat → Bool
  | 0 => false
  | n + 1 => ovB cp w n || decide (cp n < w n)
theorem s_overflows (c : Nat) (hc : c ≤ 8) (ar cp w l u g : Nat → Int32) : Sp 0 0 0 mX5_overflows [vR 0 0] [rH 0 (nI c) ar cp w l u g] (PoI (b2 (ovB cp w c)) [rH 0 (nI c) ar cp w l u g]) := by
  refine Sp.of' false (fun h => by cases h) (by decide) rfl rfl (Nat.le_of_ble_eq_true rfl) fun γ σ B => ?_
  have mono : ∀ (m i : Nat), ovB cp w i = true → ovB cp w (i + m) = true := by
    intro m
    induction m with
    | zero => intro i h; exact h
    | succ m ih =>
      intro i h
      show (ovB cp w (i + m) || _) = true
      rw [ih i h]; rfl
  have loop : ∀ (m i : Nat), i + m = c → ovB cp w i = false → At γ σ 0 0 2 [(0, vR 0 0), (1, vI (nI i))] [] [rH 0 (nI c) ar cp w l u g] := by
    intro m
    induction m with
    | zero =>
      intro i hi ho
      have hi : i = c := by omega
      subst hi
      refine B.run okX5_overflows [(2, [0, 1])] 60 ?_
      constructor
      · intro _
        exact rFa ho
      · intro h
        exact absurd (nI_le (Nat.le_refl _) (by omega)) h
    | succ m ih =>
      intro i hi ho
      refine B.run okX5_overflows [(2, [0, 1])] 60 ?_
      constructor
      · intro h
        exact absurd h (nI_ge (by omega) (by omega))
      · intro _
        refine ⟨le8 (by omega) hc, le8 (by omega) hc, ?_⟩
        constructor
        · intro h
          rw [nI_clamp (by omega)] at h
          show At γ σ 0 0 2 _ _ _
          rw [nI_1]
          exact ih (i + 1) (by omega) (by
            show (ovB cp w i || _) = false
            rw [ho, decide_eq_false (Int32.not_lt.mpr h)]; rfl)
        · intro h
          rw [nI_clamp (by omega)] at h
          refine rT ?_
          have := mono m (i + 1) (by
            show (ovB cp w i || _) = true
            rw [decide_eq_true (Int32.not_le.mp h)]; simp)
          rw [← this]; congr 1; omega
  refine B.run okX5_overflows [(2, [0, 1])] 60 ?_
  exact loop c 0 (by omega) rfl
/-- a compartment's pump has a rate and water -/
def cpB (u w : Nat → Int32) (i : Nat) : Bool := decide (0 < u i) && decide (0 < w i)
/-- i pumps before j -/
def pbB (w : Nat → Int32) (i j : Nat) : Bool := decide (w j < w i) || (decide (w i = w j) && decide (i < j))
theorem s_canPump (c : Int32) (ar cp w l u g : Nat → Int32) (i : Nat) (hi : i < 8) : Sp 0 0 0 mX5_canPump [vR 0 0, vI (nI i)] [rH 0 c ar cp w l u g] (PoI (b2 (cpB u w i)) [rH 0 c ar cp w l u g]) := by
  refine Sp.of' false (fun h => by cases h) (by decide) rfl rfl (Nat.le_of_ble_eq_true rfl) fun γ σ B => ?_
  refine B.run okX5_canPump [] 60 ?_
  have hv : vp_in (nI i) 8 := le8 hi (Nat.le_refl _)
  refine ⟨hv, ?_⟩
  rw [nI_clamp (by omega)]
  constructor
  · intro h
    exact rFa (by unfold cpB; rw [decide_eq_false (Int32.not_lt.mpr h)]; rfl)
  · intro h
    refine ⟨hv, ?_⟩
    constructor
    · intro h2
      rw [nI_clamp (by omega)] at h2
      exact rFa (by unfold cpB; rw [decide_eq_false (Int32.not_lt.mpr h2)]; simp)
    · intro h2
      rw [nI_clamp (by omega)] at h2
      exact rT (by unfold cpB; rw [decide_eq_true (Int32.not_le.mp h), decide_eq_true (Int32.not_le.mp h2)]; rfl)
theorem s_pumpsBefore (c : Int32) (ar cp w l u g : Nat → Int32) (i j : Nat) (hi : i < 8) (hj : j < 8) : Sp 0 0 0 mX5_pumpsBefore [vR 0 0, vI (nI i), vI (nI j)] [rH 0 c ar cp w l u g] (PoI (b2 (pbB w i j)) [rH 0 c ar cp w l u g]) := by
  refine Sp.of' false (fun h => by cases h) (by decide) rfl rfl (Nat.le_of_ble_eq_true rfl) fun γ σ B => ?_
  refine B.run okX5_pumpsBefore [] 60 ?_
  have hv : vp_in (nI i) 8 := le8 hi (Nat.le_refl _)
  have hw : vp_in (nI j) 8 := le8 hj (Nat.le_refl _)
  refine ⟨hv, hw, ?_⟩
  rw [nI_clamp (by omega), nI_clamp (by omega)]
  constructor
  · intro h
    exact rT (by unfold pbB; rw [decide_eq_true h]; rfl)
  · intro h
    refine ⟨hv, hw, ?_⟩
    constructor
    · intro h2
      rw [nI_clamp (by omega), nI_clamp (by omega)] at h2
      constructor
      · intro h3
        refine rFa ?_
        have h3 : ¬ i < j := fun q => nI_ge q (by omega) h3
        unfold pbB
        rw [decide_eq_false h, decide_eq_false h3]; simp
      · intro h3
        refine rT ?_
        have h3 : i < j := by
          rcases Nat.lt_or_ge i j with q | q
          · exact q
          · exact absurd (nI_le q (by omega)) h3
        unfold pbB
        rw [decide_eq_true h2, decide_eq_true h3]; simp
    · intro h2
      rw [nI_clamp (by omega), nI_clamp (by omega)] at h2
      refine rFa ?_
      unfold pbB
      rw [decide_eq_false h, decide_eq_false h2]; rfl
