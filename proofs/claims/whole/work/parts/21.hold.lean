/-! ===== Hold ===== -/
/-- count, arm, capacity, water, leak, pump, running -/
abbrev HoldT : Type := Int32 × (Nat → Int32) × (Nat → Int32) × (Nat → Int32) × (Nat → Int32) × (Nat → Int32) × (Nat → Int32)
def rH (r : Nat) (d : HoldT) : List ACell := [aO 7 [vI d.1, vR r 1, vR r 2, vR r 3, vR r 4, vR r 5, vR r 6], aI 8 d.2.1, aI 8 d.2.2.1, aI 8 d.2.2.2.1, aI 8 d.2.2.2.2.1, aI 8 d.2.2.2.2.2.1, .inl (.boolean, 8, .inl d.2.2.2.2.2.2)]
def PoI (x : Int32) (h0 : AHp) : Out → AHp → Prop := fun o h => o = .inl (some (vI x)) ∧ h = h0
def PoV (h0 : AHp) : Out → AHp → Prop := fun o h => o = .inl none ∧ h = h0
def sumI (f : Nat → Int32) : Nat → Int32
  | 0 => 0
  | n + 1 => sumI f n + f n
theorem le8 {a b : Nat} (h : a < b) (hb : b ≤ 8) : vp_in (nI a) 8 := vp_in_nI (by omega) (by decide)
theorem s_has (c : Nat) (hc : c ≤ 8) (ar cp w l u g : Nat → Int32) (x : Int32) : Sp 0 0 0 mX5_has [vR 0 0, vI x] [rH 0 (nI c, ar, cp, w, l, u, g)]
    (PoI (if x < 0 then 0 else if nI c ≤ x then 0 else 1) [rH 0 (nI c, ar, cp, w, l, u, g)]) := by
  refine Sp.of' false (fun h => by cases h) (by decide) rfl rfl (Nat.le_of_ble_eq_true rfl) fun γ σ B => ?_
  refine B.run okX5_has [] 60 ?_
  constructor
  · intro h1
    exact ⟨Or.inl rfl, ⟨by rw [if_pos h1], rfl⟩, Nat.le_refl _, Nat.le_refl _⟩
  · intro h1
    constructor
    · intro h2
      exact ⟨Or.inl rfl, ⟨by rw [if_neg h1, if_pos h2], rfl⟩, Nat.le_refl _, Nat.le_refl _⟩
    · intro h2
      exact ⟨Or.inr rfl, ⟨by rw [if_neg h1, if_neg h2], rfl⟩, Nat.le_refl _, Nat.le_refl _⟩
theorem s_canMove (c : Int32) (ar cp w l u g : Nat → Int32) (s t a : Int32) (hs : vp_in s 8) (ht : vp_in t 8) : Sp 0 0 0 mX5_canMove [vR 0 0, vI s, vI t, vI a] [rH 0 (c, ar, cp, w, l, u, g)]
    (PoI (if s = t then 0 else if w s.toNatClampNeg < a then 0 else if w t.toNatClampNeg + a ≤ cp t.toNatClampNeg then 1 else 0) [rH 0 (c, ar, cp, w, l, u, g)]) := by
  refine Sp.of' false (fun h => by cases h) (by decide) rfl rfl (Nat.le_of_ble_eq_true rfl) fun γ σ B => ?_
  refine B.run okX5_canMove [] 60 ?_
  constructor
  · intro h1
    exact ⟨Or.inl rfl, ⟨by rw [if_pos h1], rfl⟩, Nat.le_refl _, Nat.le_refl _⟩
  · intro h1
    refine ⟨hs, ?_⟩
    constructor
    · intro h2
      exact ⟨Or.inl rfl, ⟨by rw [if_neg h1, if_pos h2], rfl⟩, Nat.le_refl _, Nat.le_refl _⟩
    · intro h2
      refine ⟨ht, ht, ?_⟩
      constructor
      · intro h3
        exact ⟨Or.inl rfl, ⟨by rw [if_neg h1, if_neg h2, if_neg (Int32.not_le.mpr h3)], rfl⟩, Nat.le_refl _, Nat.le_refl _⟩
      · intro h3
        exact ⟨Or.inr rfl, ⟨by rw [if_neg h1, if_neg h2, if_pos (Int32.not_lt.mp h3)], rfl⟩, Nat.le_refl _, Nat.le_refl _⟩
theorem s_totalWater (c : Nat) (hc : c ≤ 8) (ar cp w l u g : Nat → Int32) : Sp 0 0 0 mX5_totalWater [vR 0 0] [rH 0 (nI c, ar, cp, w, l, u, g)] (PoI (sumI w c) [rH 0 (nI c, ar, cp, w, l, u, g)]) := by
  refine Sp.of' false (fun h => by cases h) (by decide) rfl rfl (Nat.le_of_ble_eq_true rfl) fun γ σ B => ?_
  have loop : ∀ (m i : Nat), i + m = c → At γ σ 0 0 4 [(0, vR 0 0), (1, vI (sumI w i)), (2, vI (nI i))] [] [rH 0 (nI c, ar, cp, w, l, u, g)] := by
    intro m
    induction m with
    | zero =>
      intro i hi
      have hi : i = c := by omega
      subst hi
      refine B.run okX5_totalWater [(4, [0, 1, 2])] 60 ?_
      constructor
      · intro _
        exact ⟨⟨rfl, rfl⟩, Nat.le_refl _, Nat.le_refl _⟩
      · intro h
        exact absurd (nI_le (Nat.le_refl _) (by omega)) h
    | succ m ih =>
      intro i hi
      refine B.run okX5_totalWater [(4, [0, 1, 2])] 60 ?_
      constructor
      · intro h
        exact absurd h (nI_ge (by omega) (by omega))
      · intro _
        refine ⟨le8 (by omega) hc, ?_⟩
        show At γ σ 0 0 4 _ _ _
        have := ih (i + 1) (by omega)
        rw [nI_clamp (by omega), nI_1]
        exact this
  refine B.run okX5_totalWater [(4, [0, 1, 2])] 60 ?_
  exact loop c 0 (by omega)
