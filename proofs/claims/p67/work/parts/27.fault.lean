/-! ===== Ship: why a change is refused (0 none, 1 no index, 2 bad argument, 3 bad state, 4 no element) ===== -/
def hsB (c : Nat) (x : Int32) : Bool := decide (0 ≤ x) && decide (x < nI c)
theorem hs_eq (c : Nat) (x : Int32) : (if x < 0 then (0 : Int32) else if nI c ≤ x then 0 else 1) = b2 (hsB c x) := by
  unfold hsB
  by_cases h : x < 0
  · rw [if_pos h, decide_eq_false (Int32.not_le.mpr h)]; rfl
  · rw [if_neg h, decide_eq_true (Int32.not_lt.mp h)]
    by_cases h2 : nI c ≤ x
    · rw [if_pos h2, decide_eq_false (Int32.not_lt.mpr h2)]; rfl
    · rw [if_neg h2, decide_eq_true (Int32.not_le.mp h2)]; rfl
theorem hs_of {c : Nat} {x : Int32} (hc : c ≤ 1000) (h : hsB c x = true) : ∃ j, j < c ∧ x = nI j := by
  unfold hsB at h
  simp only [Bool.and_eq_true, decide_eq_true_eq] at h
  obtain ⟨j, hj, rfl⟩ := nI_of (Int32.not_lt.mpr h.1)
  refine ⟨j, ?_, rfl⟩
  rcases Nat.lt_or_ge j c with q | q
  · exact q
  · exact absurd h.2 (nI_nlt q hj)
theorem hs_nI {c j : Nat} (hj : j < c) (hc : c < 2 ^ 31) : hsB c (nI j) = true := by
  unfold hsB
  rw [decide_eq_true (nI_pos' (by omega)), decide_eq_true (nI_lt hj hc)]; rfl
theorem s_has2 (c : Nat) (hc : c ≤ 8) (ar cp w l u g : Nat → Int32) (x : Int32) : Sp 0 0 0 mX5_has [vR 0 0, vI x] [rH 0 (nI c) ar cp w l u g] (PoI (b2 (hsB c x)) [rH 0 (nI c) ar cp w l u g]) := by
  rw [← hs_eq]; exact s_has c hc ar cp w l u g x
def mvI (cp w : FI) (s t a : Int32) : Bool := !(decide (s = t)) && (decide (a ≤ w s.toNatClampNeg) && decide (w t.toNatClampNeg + a ≤ cp t.toNatClampNeg))
theorem s_canMove2 (c : Int32) (ar cp w l u g : Nat → Int32) (s t a : Int32) (hs : vp_in s 8) (ht : vp_in t 8) : Sp 0 0 0 mX5_canMove [vR 0 0, vI s, vI t, vI a] [rH 0 c ar cp w l u g] (PoI (b2 (mvI cp w s t a)) [rH 0 c ar cp w l u g]) := by
  have e : (if s = t then (0 : Int32) else if w s.toNatClampNeg < a then 0 else if w t.toNatClampNeg + a ≤ cp t.toNatClampNeg then 1 else 0) = b2 (mvI cp w s t a) := by
    unfold mvI
    by_cases h : s = t
    · rw [if_pos h, decide_eq_true h]; rfl
    · rw [if_neg h, decide_eq_false h]
      by_cases h2 : w s.toNatClampNeg < a
      · rw [if_pos h2, decide_eq_false (Int32.not_le.mpr h2)]; rfl
      · rw [if_neg h2, decide_eq_true (Int32.not_lt.mp h2)]
        by_cases h3 : w t.toNatClampNeg + a ≤ cp t.toNatClampNeg
        · rw [if_pos h3, decide_eq_true h3]; rfl
        · rw [if_neg h3, decide_eq_false h3]; rfl
  rw [← e]; exact s_canMove c ar cp w l u g s t a hs ht
theorem fiW {γ : CX} {σ : Nat → Nat → Nat} {ini : Bool} {M : MR} {d mc ms N0 k n d2 : Nat} {Po : Out → AHp → Prop} (B : Bd γ σ ini M d mc ms N0 Po) (h1 : d2 < d) (h2 : k ≤ mc) (h3 : n ≤ ms) : Fit γ k n d2 0 0 := B.fit h1 (by omega) (by omega)
def fAdd (S : SH) (x y : Int32) : Nat := if (wiB x (-9) 9 && wiB y 10 200) = true then (if gc S < 8 then 0 else 3) else 2
theorem s_fAdd (S : SH) (hS : WF S) (x y : Int32) : Sp 1 0 0 mX8_faultOfAdding [vR 0 0, vI x, vI y] (ship S) (PoA (vK (fAdd S x y)) (ship S)) := by
  refine Sp.of' false (fun h => by cases h) (by decide) rfl rfl (Nat.le_of_ble_eq_true rfl) fun γ σ B => ?_
  have F : Fit γ 0 0 0 0 0 := fiW B (by decide) (Nat.zero_le _) (Nat.zero_le _)
  have hc := hS.1
  have bad : (wiB x (-9) 9 && wiB y 10 200) = false → At γ σ 0 0 23 [(0, vR 0 0), (1, vI x), (2, vI y)] [] (ship S) := by
    intro hb
    refine B.run okX8_faultOfAdding [] 60 ?_
    refine At.getFault B.1 (i := 2) rfl fs_X8_64 (dcG okX8_faultOfAdding rfl) ?_
    refine B.run okX8_faultOfAdding [] 60 ?_
    exact rA (by unfold fAdd; rw [hb]; rfl)
  refine B.run okX8_faultOfAdding [(23, [0, 1, 2])] 60 ?_
  refine At.cNI [] [vI x, vI (-9), vI 9] [] B.1 (s_isWithin x (-9) 9) kX10_isWithin nn_X8_60 trivial F (dcS okX8_faultOfAdding rfl) ?_
  refine B.run okX8_faultOfAdding [(23, [0, 1, 2])] 60 ?_
  constructor
  · intro h
    have h := b2_eq0.mp h
    exact bad (by rw [h]; rfl)
  · intro h
    have h := b2_ne0.mp h
    refine At.cNI [] [vI y, vI 10, vI 200] [] B.1 (s_isWithin y 10 200) kX10_isWithin nn_X8_60 trivial F (dcS okX8_faultOfAdding rfl) ?_
    refine B.run okX8_faultOfAdding [(23, [0, 1, 2])] 60 ?_
    constructor
    · intro h2
      have h2 := b2_eq0.mp h2
      exact bad (by rw [h, h2]; rfl)
    · intro h2
      have h2 := b2_ne0.mp h2
      constructor
      · intro h3
        have h3 : ¬ gc S < 8 := fun q => nI_ge q (by decide) h3
        refine At.getFault B.1 (i := 3) rfl fs_X8_76 (dcG okX8_faultOfAdding rfl) ?_
        refine B.run okX8_faultOfAdding [] 60 ?_
        exact rA (by unfold fAdd; rw [h, h2, if_neg h3]; rfl)
      · intro h3
        have h3 : gc S < 8 := by
          rcases Nat.lt_or_ge (gc S) 8 with q | q
          · exact q
          · exact absurd (nI_le q (by omega)) h3
        refine At.getFault B.1 (i := 0) rfl fs_X8_73 (dcG okX8_faultOfAdding rfl) ?_
        refine B.run okX8_faultOfAdding [] 60 ?_
        exact rA (by unfold fAdd; rw [h, h2, if_pos h3]; rfl)
def fLoad (S : SH) (x y : Int32) : Nat := if hsB (gc S) x = true then (if wiB y 1 50 = true then (if gp S < 16 ∧ twI S + y ≤ 900 then 0 else 3) else 2) else 1
theorem s_fLoad (S : SH) (hS : WF S) (x y : Int32) : Sp 3 0 0 mX8_faultOfLoading [vR 0 0, vI x, vI y] (ship S) (PoA (vK (fLoad S x y)) (ship S)) := by
  refine Sp.of' false (fun h => by cases h) (by decide) rfl rfl (Nat.le_of_ble_eq_true rfl) fun γ σ B => ?_
  have F : Fit γ 0 0 0 0 0 := fiW B (by decide) (Nat.zero_le _) (Nat.zero_le _)
  refine B.run okX8_faultOfLoading [] 60 ?_
  refine At.cVI [1] [vI x] [] B.1 (s_has2 (gc S) hS.1 (gar S) (gcp S) (gw S) (gl S) (gu S) (gg S) x) kX5_has ln_X8_79 ⟨rfl, trivial⟩ F (dcV okX8_faultOfLoading rfl) ?_
  refine B.run okX8_faultOfLoading [] 60 ?_
  constructor
  · intro h
    have h := b2_eq0.mp h
    refine At.getFault B.1 (i := 1) rfl fs_X8_83 (dcG okX8_faultOfLoading rfl) ?_
    refine B.run okX8_faultOfLoading [] 60 ?_
    exact rA (by unfold fLoad; rw [h]; rfl)
  · intro h
    have h := b2_ne0.mp h
    refine At.cNI [] [vI y, vI 1, vI 50] [] B.1 (s_isWithin y 1 50) kX10_isWithin nn_X8_60 trivial F (dcS okX8_faultOfLoading rfl) ?_
    refine B.run okX8_faultOfLoading [] 60 ?_
    constructor
    · intro h2
      have h2 := b2_eq0.mp h2
      refine At.getFault B.1 (i := 2) rfl fs_X8_64 (dcG okX8_faultOfLoading rfl) ?_
      refine B.run okX8_faultOfLoading [] 60 ?_
      exact rA (by unfold fLoad; rw [h, h2]; rfl)
    · intro h2
      have h2 := b2_ne0.mp h2
      have hp := hS.2.1
      constructor
      · intro h3
        have h3 : ¬ gp S < 16 := fun q => nI_ge q (by decide) h3
        constructor
        · intro _
          refine At.getFault B.1 (i := 3) rfl fs_X8_76 (dcG okX8_faultOfLoading rfl) ?_
          refine B.run okX8_faultOfLoading [] 60 ?_
          exact rA (by unfold fLoad; rw [if_pos h, if_pos h2, if_neg (fun q => h3 q.1)])
        · intro q
          exact absurd rfl q
      · intro h3
        have h3 : gp S < 16 := by
          rcases Nat.lt_or_ge (gp S) 16 with q | q
          · exact q
          · exact absurd (nI_le q (by omega)) h3
        refine At.cVI [0, 1, 2, 3] [] [] B.1 (s_totalWeight S hS) kX8_totalWeight ln_X8_87 ⟨rfl, rfl, rfl, rfl, trivial⟩ (B.fit (by decide) (Nat.zero_le _) (Nat.zero_le _)) (dcV okX8_faultOfLoading rfl) ?_
        refine B.run okX8_faultOfLoading [] 60 ?_
        constructor
        · intro h4
          constructor
          · intro _
            refine At.getFault B.1 (i := 3) rfl fs_X8_76 (dcG okX8_faultOfLoading rfl) ?_
            refine B.run okX8_faultOfLoading [] 60 ?_
            exact rA (by unfold fLoad; rw [if_pos h, if_pos h2, if_neg (fun q => Int32.not_le.mpr h4 q.2)])
          · intro q
            exact absurd rfl q
        · intro h4
          constructor
          · intro q
            exact absurd q (by decide)
          · intro _
            refine At.getFault B.1 (i := 0) rfl fs_X8_73 (dcG okX8_faultOfLoading rfl) ?_
            refine B.run okX8_faultOfLoading [] 60 ?_
            exact rA (by unfold fLoad; rw [if_pos h, if_pos h2, if_pos ⟨h3, Int32.not_lt.mp h4⟩])

def fUnl (S : SH) (x : Int32) : Nat := if fst (eqB (gid S) x) (gp S) < gp S then 0 else 4
theorem s_fUnl (S : SH) (hS : WF S) (x : Int32) : Sp 1 0 0 mX8_faultOfUnloading [vR 0 0, vI x] (ship S) (PoA (vK (fUnl S x)) (ship S)) := by
  refine Sp.of' false (fun h => by cases h) (by decide) rfl rfl (Nat.le_of_ble_eq_true rfl) fun γ σ B => ?_
  have F : Fit γ 0 0 0 0 0 := fiW B (by decide) (Nat.zero_le _) (Nat.zero_le _)
  have hp := hS.2.1
  refine B.run okX8_faultOfUnloading [] 60 ?_
  refine At.cVI [2] [vI x] [] B.1 (s_cfind (gp S) hS.2.1 (gnx S) (gid S) (gwt S) (gpl S) x) kX1_find ln_X8_91 ⟨rfl, trivial⟩ F (dcV okX8_faultOfUnloading rfl) ?_
  refine B.run okX8_faultOfUnloading [] 60 ?_
  constructor
  · intro h
    have h := (fnd_none (by omega) h).1
    refine At.getFault B.1 (i := 4) rfl fs_X8_95 (dcG okX8_faultOfUnloading rfl) ?_
    refine B.run okX8_faultOfUnloading [] 60 ?_
    exact rA (by unfold fUnl; rw [if_neg h])
  · intro h
    have h := (fnd_some (by omega) h).1
    refine At.getFault B.1 (i := 0) rfl fs_X8_73 (dcG okX8_faultOfUnloading rfl) ?_
    refine B.run okX8_faultOfUnloading [] 60 ?_
    exact rA (by unfold fUnl; rw [if_pos h])
def fShf (S : SH) (x y : Int32) : Nat := if fst (eqB (gid S) x) (gp S) < gp S then (if hsB (gc S) y = true then (if gpl S (fst (eqB (gid S) x) (gp S)) = y then 3 else 0) else 1) else 4
theorem s_fShf (S : SH) (hS : WF S) (x y : Int32) : Sp 1 0 0 mX8_faultOfShifting [vR 0 0, vI x, vI y] (ship S) (PoA (vK (fShf S x y)) (ship S)) := by
  refine Sp.of' false (fun h => by cases h) (by decide) rfl rfl (Nat.le_of_ble_eq_true rfl) fun γ σ B => ?_
  have F : Fit γ 0 0 0 0 0 := fiW B (by decide) (Nat.zero_le _) (Nat.zero_le _)
  have hp := hS.2.1
  refine B.run okX8_faultOfShifting [] 60 ?_
  refine At.cVI [2] [vI x] [] B.1 (s_cfind (gp S) hS.2.1 (gnx S) (gid S) (gwt S) (gpl S) x) kX1_find ln_X8_91 ⟨rfl, trivial⟩ F (dcV okX8_faultOfShifting rfl) ?_
  refine B.run okX8_faultOfShifting [] 60 ?_
  constructor
  · intro h
    have h : ¬ fnd (gid S) x (gp S) < 0 := Int32.not_lt.mpr h
    obtain ⟨h1, h2⟩ := fnd_some (by omega) h
    rw [h2]
    refine At.cVI [1] [vI y] [] B.1 (s_has2 (gc S) hS.1 (gar S) (gcp S) (gw S) (gl S) (gu S) (gg S) y) kX5_has ln_X8_79 ⟨rfl, trivial⟩ F (dcV okX8_faultOfShifting rfl) ?_
    refine B.run okX8_faultOfShifting [] 60 ?_
    constructor
    · intro h3
      have h3 := b2_eq0.mp h3
      refine At.getFault B.1 (i := 1) rfl fs_X8_83 (dcG okX8_faultOfShifting rfl) ?_
      refine B.run okX8_faultOfShifting [] 60 ?_
      exact rA (by unfold fShf; rw [if_pos h1, if_neg (by rw [h3]; decide)])
    · intro h3
      have h3 := b2_ne0.mp h3
      refine ⟨le16 h1 hp, ?_⟩
      rw [nI_clamp (by omega)]
      constructor
      · intro h4
        refine At.getFault B.1 (i := 3) rfl fs_X8_76 (dcG okX8_faultOfShifting rfl) ?_
        refine B.run okX8_faultOfShifting [] 60 ?_
        exact rA (by unfold fShf; rw [if_pos h1, if_pos h3, if_pos h4])
      · intro h4
        refine At.getFault B.1 (i := 0) rfl fs_X8_73 (dcG okX8_faultOfShifting rfl) ?_
        refine B.run okX8_faultOfShifting [] 60 ?_
        exact rA (by unfold fShf; rw [if_pos h1, if_pos h3, if_neg h4])
  · intro h
    have h : fnd (gid S) x (gp S) < 0 := Int32.not_le.mp h
    have h := (fnd_none (by omega) h).1
    refine At.getFault B.1 (i := 4) rfl fs_X8_95 (dcG okX8_faultOfShifting rfl) ?_
    refine B.run okX8_faultOfShifting [] 60 ?_
    exact rA (by unfold fShf; rw [if_neg h])
def fRat (S : SH) (x y : Int32) : Nat := if hsB (gc S) x = true then (if wiB y 0 20 = true then 0 else 2) else 1
theorem s_fRat (S : SH) (hS : WF S) (x y : Int32) : Sp 1 0 0 mX8_faultOfRate [vR 0 0, vI x, vI y] (ship S) (PoA (vK (fRat S x y)) (ship S)) := by
  refine Sp.of' false (fun h => by cases h) (by decide) rfl rfl (Nat.le_of_ble_eq_true rfl) fun γ σ B => ?_
  have F : Fit γ 0 0 0 0 0 := fiW B (by decide) (Nat.zero_le _) (Nat.zero_le _)
  refine B.run okX8_faultOfRate [] 60 ?_
  refine At.cVI [1] [vI x] [] B.1 (s_has2 (gc S) hS.1 (gar S) (gcp S) (gw S) (gl S) (gu S) (gg S) x) kX5_has ln_X8_79 ⟨rfl, trivial⟩ F (dcV okX8_faultOfRate rfl) ?_
  refine B.run okX8_faultOfRate [] 60 ?_
  constructor
  · intro h
    have h := b2_eq0.mp h
    refine At.getFault B.1 (i := 1) rfl fs_X8_83 (dcG okX8_faultOfRate rfl) ?_
    refine B.run okX8_faultOfRate [] 60 ?_
    exact rA (by unfold fRat; rw [if_neg (by rw [h]; decide)])
  · intro h
    have h := b2_ne0.mp h
    refine At.cNI [] [vI y, vI 0, vI 20] [] B.1 (s_isWithin y 0 20) kX10_isWithin nn_X8_60 trivial F (dcS okX8_faultOfRate rfl) ?_
    refine B.run okX8_faultOfRate [] 60 ?_
    constructor
    · intro h2
      have h2 := b2_eq0.mp h2
      refine At.getFault B.1 (i := 2) rfl fs_X8_64 (dcG okX8_faultOfRate rfl) ?_
      refine B.run okX8_faultOfRate [] 60 ?_
      exact rA (by unfold fRat; rw [if_pos h, if_neg (by rw [h2]; decide)])
    · intro h2
      have h2 := b2_ne0.mp h2
      refine At.getFault B.1 (i := 0) rfl fs_X8_73 (dcG okX8_faultOfRate rfl) ?_
      refine B.run okX8_faultOfRate [] 60 ?_
      exact rA (by unfold fRat; rw [if_pos h, if_pos h2])
def fMov (S : SH) (x y a : Int32) : Nat := if (hsB (gc S) x && hsB (gc S) y) = true then (if wiB a 1 200 = true then (if mvI (gcp S) (gw S) x y a = true then 0 else 3) else 2) else 1
theorem s_fMov (S : SH) (hS : WF S) (x y a : Int32) : Sp 1 0 0 mX8_faultOfMoving [vR 0 0, vI x, vI y, vI a] (ship S) (PoA (vK (fMov S x y a)) (ship S)) := by
  refine Sp.of' false (fun h => by cases h) (by decide) rfl rfl (Nat.le_of_ble_eq_true rfl) fun γ σ B => ?_
  have F : Fit γ 0 0 0 0 0 := fiW B (by decide) (Nat.zero_le _) (Nat.zero_le _)
  have hc := hS.1
  have bad : (hsB (gc S) x && hsB (gc S) y) = false → At γ σ 0 0 22 [(0, vR 0 0), (1, vI x), (2, vI y), (3, vI a)] [] (ship S) := by
    intro hb
    refine B.run okX8_faultOfMoving [] 60 ?_
    refine At.getFault B.1 (i := 1) rfl fs_X8_83 (dcG okX8_faultOfMoving rfl) ?_
    refine B.run okX8_faultOfMoving [] 60 ?_
    exact rA (by unfold fMov; rw [if_neg (by rw [hb]; decide)])
  refine B.run okX8_faultOfMoving [(22, [0, 1, 2, 3])] 60 ?_
  refine At.cVI [1] [vI x] [] B.1 (s_has2 (gc S) hS.1 (gar S) (gcp S) (gw S) (gl S) (gu S) (gg S) x) kX5_has ln_X8_79 ⟨rfl, trivial⟩ F (dcV okX8_faultOfMoving rfl) ?_
  refine B.run okX8_faultOfMoving [(22, [0, 1, 2, 3])] 60 ?_
  constructor
  · intro h
    have h := b2_eq0.mp h
    exact bad (by rw [h]; rfl)
  · intro h
    have h := b2_ne0.mp h
    refine At.cVI [1] [vI y] [] B.1 (s_has2 (gc S) hS.1 (gar S) (gcp S) (gw S) (gl S) (gu S) (gg S) y) kX5_has ln_X8_79 ⟨rfl, trivial⟩ F (dcV okX8_faultOfMoving rfl) ?_
    refine B.run okX8_faultOfMoving [(22, [0, 1, 2, 3])] 60 ?_
    constructor
    · intro h2
      have h2 := b2_eq0.mp h2
      exact bad (by rw [h, h2]; rfl)
    · intro h2
      have h2 := b2_ne0.mp h2
      have hb : (hsB (gc S) x && hsB (gc S) y) = true := by rw [h, h2]; rfl
      refine At.cNI [] [vI a, vI 1, vI 200] [] B.1 (s_isWithin a 1 200) kX10_isWithin nn_X8_60 trivial F (dcS okX8_faultOfMoving rfl) ?_
      refine B.run okX8_faultOfMoving [] 60 ?_
      constructor
      · intro h3
        have h3 := b2_eq0.mp h3
        refine At.getFault B.1 (i := 2) rfl fs_X8_64 (dcG okX8_faultOfMoving rfl) ?_
        refine B.run okX8_faultOfMoving [] 60 ?_
        exact rA (by unfold fMov; rw [if_pos hb, if_neg (by rw [h3]; decide)])
      · intro h3
        have h3 := b2_ne0.mp h3
        obtain ⟨i, hi, hx⟩ := hs_of (by omega) h
        obtain ⟨j, hj, hy⟩ := hs_of (by omega) h2
        refine At.cVI [1] [vI x, vI y, vI a] [] B.1 (s_canMove2 (nI (gc S)) (gar S) (gcp S) (gw S) (gl S) (gu S) (gg S) x y a (by rw [hx]; exact le8 hi hc) (by rw [hy]; exact le8 hj hc)) kX5_canMove ln_X8_102 ⟨rfl, trivial⟩ F (dcV okX8_faultOfMoving rfl) ?_
        refine B.run okX8_faultOfMoving [] 60 ?_
        constructor
        · intro h4
          have h4 := b2_eq0.mp h4
          refine At.getFault B.1 (i := 3) rfl fs_X8_76 (dcG okX8_faultOfMoving rfl) ?_
          refine B.run okX8_faultOfMoving [] 60 ?_
          exact rA (by unfold fMov; rw [if_pos hb, if_pos h3, if_neg (by rw [h4]; decide)])
        · intro h4
          have h4 := b2_ne0.mp h4
          refine At.getFault B.1 (i := 0) rfl fs_X8_73 (dcG okX8_faultOfMoving rfl) ?_
          refine B.run okX8_faultOfMoving [] 60 ?_
          exact rA (by unfold fMov; rw [if_pos hb, if_pos h3, if_pos h4])
def fPow (x : Int32) : Nat := if wiB x 0 8 = true then 0 else 2
theorem s_fPow (S : SH) (x : Int32) : Sp 1 0 0 mX8_faultOfPower [vR 0 0, vI x] (ship S) (PoA (vK (fPow x)) (ship S)) := by
  refine Sp.of' false (fun h => by cases h) (by decide) rfl rfl (Nat.le_of_ble_eq_true rfl) fun γ σ B => ?_
  have F : Fit γ 0 0 0 0 0 := fiW B (by decide) (Nat.zero_le _) (Nat.zero_le _)
  refine B.run okX8_faultOfPower [] 60 ?_
  refine At.cNI [] [vI x, vI 0, vI 8] [] B.1 (s_isWithin x 0 8) kX10_isWithin nn_X8_60 trivial F (dcS okX8_faultOfPower rfl) ?_
  refine B.run okX8_faultOfPower [] 60 ?_
  constructor
  · intro h2
    have h2 := b2_eq0.mp h2
    refine At.getFault B.1 (i := 2) rfl fs_X8_64 (dcG okX8_faultOfPower rfl) ?_
    refine B.run okX8_faultOfPower [] 60 ?_
    exact rA (by unfold fPow; rw [if_neg (by rw [h2]; decide)])
  · intro h2
    have h2 := b2_ne0.mp h2
    refine At.getFault B.1 (i := 0) rfl fs_X8_73 (dcG okX8_faultOfPower rfl) ?_
    refine B.run okX8_faultOfPower [] 60 ?_
    exact rA (by unfold fPow; rw [if_pos h2])
def fSch (S : SH) (x y : Int32) : Nat := if gmn S < x ∧ x - gmn S ≤ 999 ∧ wiB y 1 9 = true then (if ¬ fst (eqB (gmi S) x) (gsc S) < gsc S ∧ gsc S < 6 then 0 else 3) else 2
theorem s_fSch (S : SH) (hS : WF S) (x y : Int32) : Sp 1 0 0 mX8_faultOfScheduling [vR 0 0, vI x, vI y] (ship S) (PoA (vK (fSch S x y)) (ship S)) := by
  refine Sp.of' false (fun h => by cases h) (by decide) rfl rfl (Nat.le_of_ble_eq_true rfl) fun γ σ B => ?_
  have F : Fit γ 0 0 0 0 0 := fiW B (by decide) (Nat.zero_le _) (Nat.zero_le _)
  have hsc := hS.2.2.1
  have bad : ¬ (gmn S < x ∧ x - gmn S ≤ 999 ∧ wiB y 1 9 = true) → At γ σ 0 0 30 [(0, vR 0 0), (1, vI x), (2, vI y)] [] (ship S) := by
    intro hb
    refine B.run okX8_faultOfScheduling [] 60 ?_
    refine At.getFault B.1 (i := 2) rfl fs_X8_64 (dcG okX8_faultOfScheduling rfl) ?_
    refine B.run okX8_faultOfScheduling [] 60 ?_
    exact rA (by unfold fSch; rw [if_neg hb])
  refine B.run okX8_faultOfScheduling [(30, [0, 1, 2])] 60 ?_
  constructor
  · intro h
    exact bad fun q => Int32.not_lt.mpr h q.1
  · intro h
    have h := Int32.not_le.mp h
    constructor
    · intro h2
      exact bad fun q => Int32.not_lt.mpr q.2.1 h2
    · intro h2
      have h2 := Int32.not_lt.mp h2
      refine At.cNI [] [vI y, vI 1, vI 9] [] B.1 (s_isWithin y 1 9) kX10_isWithin nn_X8_60 trivial F (dcS okX8_faultOfScheduling rfl) ?_
      refine B.run okX8_faultOfScheduling [(30, [0, 1, 2])] 60 ?_
      constructor
      · intro h3
        have h3 := b2_eq0.mp h3
        exact bad fun q => by rw [h3] at q; exact absurd q.2.2 (by decide)
      · intro h3
        have h3 := b2_ne0.mp h3
        have hg : gmn S < x ∧ x - gmn S ≤ 999 ∧ wiB y 1 9 = true := ⟨h, h2, h3⟩
        refine At.cVI [3] [vI x] [] B.1 (s_tfind (gsc S) hS.2.2.1 (gmi S) (gsg S) (glg S) (nI (glc S)) x) kX9_find ln_X8_105 ⟨rfl, trivial⟩ F (dcV okX8_faultOfScheduling rfl) ?_
        have st3 : ¬ (¬ fst (eqB (gmi S) x) (gsc S) < gsc S ∧ gsc S < 6) → At γ σ 0 0 73 [(0, vR 0 0), (1, vI x), (2, vI y)] [] (ship S) := by
          intro hb
          refine B.run okX8_faultOfScheduling [] 60 ?_
          refine At.getFault B.1 (i := 3) rfl fs_X8_76 (dcG okX8_faultOfScheduling rfl) ?_
          refine B.run okX8_faultOfScheduling [] 60 ?_
          exact rA (by unfold fSch; rw [if_pos hg, if_neg hb])
        refine B.run okX8_faultOfScheduling [(73, [0, 1, 2])] 60 ?_
        constructor
        · intro h4
          have h4 := (fnd_some (by omega) (Int32.not_lt.mpr h4)).1
          constructor
          · intro _
            exact st3 fun q => q.1 h4
          · intro q
            exact absurd rfl q
        · intro h4
          have h4 := (fnd_none (by omega) (Int32.not_le.mp h4)).1
          constructor
          · intro h5
            have h5 : ¬ gsc S < 6 := fun q => nI_ge q (by decide) h5
            constructor
            · intro _
              exact st3 fun q => h5 q.2
            · intro q
              exact absurd rfl q
          · intro h5
            have h5 : gsc S < 6 := by
              rcases Nat.lt_or_ge (gsc S) 6 with q | q
              · exact q
              · exact absurd (nI_le q (by omega)) h5
            constructor
            · intro q
              exact absurd q (by decide)
            · intro _
              refine At.getFault B.1 (i := 0) rfl fs_X8_73 (dcG okX8_faultOfScheduling rfl) ?_
              refine B.run okX8_faultOfScheduling [] 60 ?_
              exact rA (by unfold fSch; rw [if_pos hg, if_pos ⟨h4, h5⟩])
def fPas (S : SH) (x : Int32) : Nat := if wiB x 1 120 = true then (if gsk S = 0 then 0 else 3) else 2
theorem s_fPas (S : SH) (x : Int32) : Sp 1 0 0 mX8_faultOfPassing [vR 0 0, vI x] (ship S) (PoA (vK (fPas S x)) (ship S)) := by
  refine Sp.of' false (fun h => by cases h) (by decide) rfl rfl (Nat.le_of_ble_eq_true rfl) fun γ σ B => ?_
  have F : Fit γ 0 0 0 0 0 := fiW B (by decide) (Nat.zero_le _) (Nat.zero_le _)
  refine B.run okX8_faultOfPassing [] 60 ?_
  refine At.cNI [] [vI x, vI 1, vI 120] [] B.1 (s_isWithin x 1 120) kX10_isWithin nn_X8_60 trivial F (dcS okX8_faultOfPassing rfl) ?_
  refine B.run okX8_faultOfPassing [] 60 ?_
  constructor
  · intro h2
    have h2 := b2_eq0.mp h2
    refine At.getFault B.1 (i := 2) rfl fs_X8_64 (dcG okX8_faultOfPassing rfl) ?_
    refine B.run okX8_faultOfPassing [] 60 ?_
    exact rA (by unfold fPas; rw [if_neg (by rw [h2]; decide)])
  · intro h2
    have h2 := b2_ne0.mp h2
    constructor
    · intro h3
      refine At.getFault B.1 (i := 0) rfl fs_X8_73 (dcG okX8_faultOfPassing rfl) ?_
      refine B.run okX8_faultOfPassing [] 60 ?_
      exact rA (by unfold fPas; rw [if_pos h2, if_pos h3])
    · intro h3
      refine At.getFault B.1 (i := 3) rfl fs_X8_76 (dcG okX8_faultOfPassing rfl) ?_
      refine B.run okX8_faultOfPassing [] 60 ?_
      exact rA (by unfold fPas; rw [if_pos h2, if_neg h3])
