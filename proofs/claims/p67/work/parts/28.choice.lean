/-! ===== Choice ===== -/
/-- found, first, second, moment -/
abbrev CS : Type := Int32 × Int32 × Int32 × Int32
def rX (s : CS) : List ACell := [aO 5 [vI s.1, vI s.2.1, vI s.2.2.1, vI s.2.2.2]]
def offS (s : CS) (x y z : Int32) : CS := if s.1 = 0 ∨ absI z < absI s.2.2.2 then (1, x, y, z) else s
theorem s_offer (s : CS) (x y z : Int32) : Sp 1 0 0 mX2_offer [vR 0 0, vI x, vI y, vI z] [rX s] (PoV [rX (offS s x y z)]) := by
  refine Sp.of' false (fun h => by cases h) (by decide) rfl rfl (Nat.le_of_ble_eq_true rfl) fun γ σ B => ?_
  have F : Fit γ 0 0 0 0 0 := fiW B (by decide) (Nat.zero_le _) (Nat.zero_le _)
  have set : (s.1 = 0 ∨ absI z < absI s.2.2.2) → At γ σ 0 0 21 [(0, vR 0 0), (1, vI x), (2, vI y), (3, vI z)] [] [rX s] := by
    intro hc
    refine B.run okX2_offer [] 60 ?_
    refine ⟨Or.inr rfl, trivial, trivial, trivial, ?_⟩
    exact rV (by unfold offS; rw [if_pos hc]; rfl)
  refine B.run okX2_offer [(21, [0, 1, 2, 3])] 60 ?_
  constructor
  · intro h
    exact set (Or.inl h)
  · intro h
    refine At.mabs B.1 kabs ln_X2_13 F (Nat.le_of_ble_eq_true rfl) (dcS okX2_offer rfl) ?_
    refine B.run okX2_offer [(21, [0, 1, 2, 3])] 60 ?_
    refine At.mabs B.1 kabs ln_X2_13 F (Nat.le_of_ble_eq_true rfl) (dcS okX2_offer rfl) ?_
    refine B.run okX2_offer [(21, [0, 1, 2, 3])] 60 ?_
    constructor
    · intro h2
      have hn : ¬ (s.1 = 0 ∨ absI z < absI s.2.2.2) := fun q => by
        rcases q with q | q
        · exact h q
        · exact Int32.not_lt.mpr h2 q
      exact rV (by unfold offS; rw [if_neg hn])
    · intro h2
      exact set (Or.inr (Int32.not_le.mp h2))
def impB (s : CS) (bf : Int32) : Bool := !(decide (s.1 = 0)) && decide (absI s.2.2.2 < absI bf)
theorem s_improves (s : CS) (bf : Int32) : Sp 1 0 0 mX2_improves [vR 0 0, vI bf] [rX s] (PoI (b2 (impB s bf)) [rX s]) := by
  refine Sp.of' false (fun h => by cases h) (by decide) rfl rfl (Nat.le_of_ble_eq_true rfl) fun γ σ B => ?_
  have F : Fit γ 0 0 0 0 0 := fiW B (by decide) (Nat.zero_le _) (Nat.zero_le _)
  refine B.run okX2_improves [] 60 ?_
  constructor
  · intro h
    have h : s.1 = 0 := h
    exact rFa (by unfold impB; rw [decide_eq_true h]; rfl)
  · intro h
    have h : ¬ s.1 = 0 := h
    refine At.mabs B.1 kabs ln_X2_13 F (Nat.le_of_ble_eq_true rfl) (dcS okX2_improves rfl) ?_
    refine B.run okX2_improves [] 60 ?_
    refine At.mabs B.1 kabs ln_X2_13 F (Nat.le_of_ble_eq_true rfl) (dcS okX2_improves rfl) ?_
    refine B.run okX2_improves [] 60 ?_
    constructor
    · intro h2
      exact rFa (by unfold impB; rw [decide_eq_false h, show decide (absI s.2.2.2 < absI bf) = false from decide_eq_false (Int32.not_lt.mpr h2)]; rfl)
    · intro h2
      exact rT (by unfold impB; rw [decide_eq_false h, show decide (absI s.2.2.2 < absI bf) = true from decide_eq_true (Int32.not_le.mp h2)]; rfl)
def tIn (cp w ar : FI) (a bf : Int32) (s : Nat) (C : CS) : Nat → CS
  | 0 => C
  | t + 1 => if mvI cp w (nI s) (nI t) a = true then offS (tIn cp w ar a bf s C t) (nI s) (nI t) (bf + a * (ar t - ar s)) else tIn cp w ar a bf s C t
def tOut (cp w ar : FI) (a bf : Int32) (c : Nat) (C : CS) : Nat → CS
  | 0 => C
  | s + 1 => tIn cp w ar a bf s (tOut cp w ar a bf c C s) c
/-- the best transfer of a -/
def bstT (cp w ar : FI) (c : Nat) (a bf : Int32) (C : CS) : CS := tOut cp w ar a bf c (0, C.2) c
theorem s_searchT (C : CS) (c : Nat) (hc : c ≤ 8) (ar cp w l u g : Nat → Int32) (a bf : Int32) : Sp 2 0 0 mX2_searchTransfers [vR 0 0, vR 1 0, vI a, vI bf] [rX C, rH 1 (nI c) ar cp w l u g] (PoV [rX (bstT cp w ar c a bf C), rH 1 (nI c) ar cp w l u g]) := by
  refine Sp.of' false (fun h => by cases h) (by decide) rfl rfl (Nat.le_of_ble_eq_true rfl) fun γ σ B => ?_
  have F : Fit γ 0 0 0 0 0 := fiW B (by decide) (Nat.zero_le _) (Nat.zero_le _)
  have F1 : Fit γ 0 0 1 0 0 := fiW B (by decide) (Nat.zero_le _) (Nat.zero_le _)
  have inner : ∀ (s : Nat) (X : CS), s < c → (At γ σ 0 0 74 [(0, vR 0 0), (1, vR 1 0), (2, vI a), (3, vI bf), (4, vI (nI s))] [] [rX (tIn cp w ar a bf s X c), rH 1 (nI c) ar cp w l u g]) →
      ∀ (m t : Nat), t + m = c → At γ σ 0 0 20 [(0, vR 0 0), (1, vR 1 0), (2, vI a), (3, vI bf), (4, vI (nI s)), (5, vI (nI t))] [] [rX (tIn cp w ar a bf s X t), rH 1 (nI c) ar cp w l u g] := by
    intro s X hs hk m
    induction m with
    | zero =>
      intro t ht
      have ht : t = c := by omega
      subst ht
      refine B.run okX2_searchTransfers [(74, [0, 1, 2, 3, 4])] 60 ?_
      constructor
      · intro _
        exact hk
      · intro h
        exact absurd (nI_le (Nat.le_refl _) (by omega)) h
    | succ m ih =>
      intro t ht
      have hv := le8 (a := s) (by omega) hc
      have hw := le8 (a := t) (by omega) hc
      have go := ih (t + 1) (by omega)
      have e : tIn cp w ar a bf s X (t + 1) = if mvI cp w (nI s) (nI t) a = true then offS (tIn cp w ar a bf s X t) (nI s) (nI t) (bf + a * (ar t - ar s)) else tIn cp w ar a bf s X t := rfl
      rw [e] at go
      refine B.run okX2_searchTransfers [(20, [0, 1, 2, 3, 4, 5]), (74, [0, 1, 2, 3, 4])] 60 ?_
      constructor
      · intro h
        exact absurd h (nI_ge (by omega) (by omega))
      · intro _
        refine At.cVI [1] [vI (nI s), vI (nI t), vI a] [] B.1 (s_canMove2 (nI c) ar cp w l u g (nI s) (nI t) a hv hw) kX5_canMove ln_X2_34 ⟨rfl, trivial⟩ F (dcV okX2_searchTransfers rfl) ?_
        refine B.run okX2_searchTransfers [(20, [0, 1, 2, 3, 4, 5]), (74, [0, 1, 2, 3, 4])] 60 ?_
        constructor
        · intro h
          have h := b2_eq0.mp h
          rw [if_neg (by rw [h]; decide)] at go
          show At γ σ 0 0 20 _ _ _
          rw [nI_1]
          exact go
        · intro h
          have h := b2_ne0.mp h
          rw [if_pos h] at go
          refine ⟨hw, hv, ?_⟩
          rw [nI_clamp (by omega), nI_clamp (by omega)]
          refine At.cVV [0] [vI (nI s), vI (nI t), vI (bf + a * (ar t - ar s))] [] B.1 (s_offer (tIn cp w ar a bf s X t) (nI s) (nI t) (bf + a * (ar t - ar s))) kX2_offer ln_X2_42 ⟨rfl, trivial⟩ F1 (dcV okX2_searchTransfers rfl) ?_
          refine B.run okX2_searchTransfers [(20, [0, 1, 2, 3, 4, 5]), (74, [0, 1, 2, 3, 4])] 60 ?_
          show At γ σ 0 0 20 _ _ _
          rw [nI_1]
          exact go
  have outer : ∀ (m s : Nat), s + m = c → At γ σ 0 0 8 [(0, vR 0 0), (1, vR 1 0), (2, vI a), (3, vI bf), (4, vI (nI s))] [] [rX (tOut cp w ar a bf c (0, C.2) s), rH 1 (nI c) ar cp w l u g] := by
    intro m
    induction m with
    | zero =>
      intro s hs
      have hs : s = c := by omega
      subst hs
      refine B.run okX2_searchTransfers [] 60 ?_
      constructor
      · intro _
        exact rV
      · intro h
        exact absurd (nI_le (Nat.le_refl _) (by omega)) h
    | succ m ih =>
      intro s hs
      have go := ih (s + 1) (by omega)
      refine B.run okX2_searchTransfers [(20, [0, 1, 2, 3, 4, 5])] 60 ?_
      constructor
      · intro h
        exact absurd h (nI_ge (by omega) (by omega))
      · intro _
        refine inner s (tOut cp w ar a bf c (0, C.2) s) (by omega) ?_ c 0 (by omega)
        refine B.run okX2_searchTransfers [(8, [0, 1, 2, 3, 4])] 60 ?_
        show At γ σ 0 0 8 _ _ _
        rw [nI_1]
        exact go
  refine B.run okX2_searchTransfers [(8, [0, 1, 2, 3, 4])] 60 ?_
  exact ⟨Or.inl rfl, outer c 0 (by omega)⟩
def hIn (S : SH) (k : Nat) (C : CS) : Nat → CS
  | 0 => C
  | t + 1 => if nI t = gpl S k then hIn S k C t else offS (hIn S k C t) (gid S k) (nI t) (tmI S + gwt S k * (gar S t - gar S (gpl S k).toNatClampNeg))
def hOut (S : SH) (C : CS) : Nat → CS
  | 0 => C
  | k + 1 => hIn S k (hOut S C k) (gc S)
/-- the best move of a piece -/
def bstH (S : SH) (C : CS) : CS := hOut S (0, C.2) (gp S)
abbrev shipX (C : CS) (S : SH) : AHp := [rX C, qS 1 S, qH 1 S, qC 1 S, qW 1 S]
theorem s_searchH (C : CS) (S : SH) (hS : WF S) : Sp 3 0 0 mX2_searchShifts [vR 0 0, vR 1 0] (shipX C S) (PoV (shipX (bstH S C) S)) := by
  refine Sp.of' false (fun h => by cases h) (by decide) rfl rfl (Nat.le_of_ble_eq_true rfl) fun γ σ B => ?_
  have F1 : Fit γ 0 0 1 0 0 := fiW B (by decide) (Nat.zero_le _) (Nat.zero_le _)
  have F2 : Fit γ 0 0 2 0 0 := fiW B (by decide) (Nat.zero_le _) (Nat.zero_le _)
  have hc := hS.1
  have hp := hS.2.1
  have inner : ∀ (k : Nat) (X : CS), k < gp S → (At γ σ 0 0 120 [(0, vR 0 0), (1, vR 1 0), (2, vI (tmI S)), (3, vI (nI k))] [] (shipX (hIn S k X (gc S)) S)) →
      ∀ (m t : Nat), t + m = gc S → At γ σ 0 0 44 [(0, vR 0 0), (1, vR 1 0), (2, vI (tmI S)), (3, vI (nI k)), (4, vI (gar S (gpl S k).toNatClampNeg)), (5, vI (nI t))] [] (shipX (hIn S k X t) S) := by
    intro k X hk hkk m
    have hv := le16 (a := k) (by omega) hp
    induction m with
    | zero =>
      intro t ht
      have ht : t = gc S := by omega
      rw [ht]
      refine B.run okX2_searchShifts [(120, [0, 1, 2, 3])] 60 ?_
      constructor
      · intro _
        exact hkk
      · intro h
        exact absurd (nI_le (Nat.le_refl _) (by omega)) h
    | succ m ih =>
      intro t ht
      have hw := le8 (a := t) (by omega) hc
      have go := ih (t + 1) (by omega)
      have e : hIn S k X (t + 1) = if nI t = gpl S k then hIn S k X t else offS (hIn S k X t) (gid S k) (nI t) (tmI S + gwt S k * (gar S t - gar S (gpl S k).toNatClampNeg)) := rfl
      rw [e] at go
      refine B.run okX2_searchShifts [(44, [0, 1, 2, 3, 4, 5]), (120, [0, 1, 2, 3])] 60 ?_
      constructor
      · intro h
        exact absurd h (nI_ge (by omega) (by omega))
      · intro _
        refine ⟨hv, ?_⟩
        rw [nI_clamp (by omega)]
        constructor
        · intro h
          rw [if_pos h] at go
          show At γ σ 0 0 44 _ _ _
          rw [nI_1]
          exact go
        · intro h
          rw [if_neg h] at go
          refine ⟨hv, hw, hv, ?_⟩
          rw [nI_clamp (by omega), nI_clamp (by omega)]
          refine At.cVV [0] [vI (gid S k), vI (nI t), vI (tmI S + gwt S k * (gar S t - gar S (gpl S k).toNatClampNeg))] [] B.1 (s_offer (hIn S k X t) (gid S k) (nI t) (tmI S + gwt S k * (gar S t - gar S (gpl S k).toNatClampNeg))) kX2_offer ln_X2_42 ⟨rfl, trivial⟩ F1 (dcV okX2_searchShifts rfl) ?_
          refine B.run okX2_searchShifts [(44, [0, 1, 2, 3, 4, 5]), (120, [0, 1, 2, 3])] 60 ?_
          show At γ σ 0 0 44 _ _ _
          rw [nI_1]
          exact go
  have outer : ∀ (m k : Nat), k + m = gp S → At γ σ 0 0 12 [(0, vR 0 0), (1, vR 1 0), (2, vI (tmI S)), (3, vI (nI k))] [] (shipX (hOut S (0, C.2) k) S) := by
    intro m
    induction m with
    | zero =>
      intro k hk
      have hk : k = gp S := by omega
      rw [hk]
      refine B.run okX2_searchShifts [] 60 ?_
      constructor
      · intro _
        exact rV
      · intro h
        exact absurd (nI_le (Nat.le_refl _) (by omega)) h
    | succ m ih =>
      intro k hk
      have hv := le16 (a := k) (by omega) hp
      have go := ih (k + 1) (by omega)
      obtain ⟨j, hj, he⟩ := hS.2.2.2.2.2 k (by omega)
      refine B.run okX2_searchShifts [(44, [0, 1, 2, 3, 4, 5])] 60 ?_
      constructor
      · intro h
        exact absurd h (nI_ge (by omega) (by omega))
      · intro _
        refine ⟨hv, ?_⟩
        rw [nI_clamp (by omega), he]
        have e : gar S (gpl S k).toNatClampNeg = gar S j := by rw [he, nI_clamp (by omega)]
        have z := inner k (hOut S (0, C.2) k) (by omega) (by
          refine B.run okX2_searchShifts [(12, [0, 1, 2, 3])] 60 ?_
          show At γ σ 0 0 12 _ _ _
          rw [nI_1]
          exact go) (gc S) 0 (by omega)
        rw [e] at z
        refine At.cVI [2] [vI (nI j)] [] B.1 (s_armOf (gc S) hc (gar S) (gcp S) (gw S) (gl S) (gu S) (gg S) j hj) kX5_armOf ln_X2_66 ⟨rfl, trivial⟩ F1 (dcV okX2_searchShifts rfl) ?_
        refine B.run okX2_searchShifts [(44, [0, 1, 2, 3, 4, 5])] 60 ?_
        exact z
  refine B.run okX2_searchShifts [(12, [0, 1, 2, 3])] 60 ?_
  refine ⟨Or.inl rfl, ?_⟩
  refine At.cVI [1, 2, 3, 4] [] [] B.1 (s_totalMoment S hS) kX8_totalMoment ln_X2_46 ⟨rfl, rfl, rfl, rfl, trivial⟩ F2 (dcV okX2_searchShifts rfl) ?_
  refine B.run okX2_searchShifts [(12, [0, 1, 2, 3])] 60 ?_
  exact outer (gp S) 0 (by omega)
