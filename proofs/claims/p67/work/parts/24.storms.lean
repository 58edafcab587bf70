/-! ===== Storms ===== -/
/-- count, minutes, strengths, logged, log -/
def rW (r : Nat) (c : Int32) (mi sg : Nat → Int32) (lc : Int32) (lg : Nat → Int32) : List ACell := [aO 10 [vI c, vR r 1, vR r 2, vI lc, vR r 3], aI 6 mi, aI 6 sg, aI 6 lg]
theorem s_tfind (c : Nat) (hc : c ≤ 6) (mi sg lg : Nat → Int32) (lc x : Int32) : Sp 0 0 0 mX9_find [vR 0 0, vI x] [rW 0 (nI c) mi sg lc lg] (PoI (fnd mi x c) [rW 0 (nI c) mi sg lc lg]) := by
  refine Sp.of' false (fun h => by cases h) (by decide) rfl rfl (Nat.le_of_ble_eq_true rfl) fun γ σ B => ?_
  have loop : ∀ (m i : Nat), i + m = c → (∀ k, k < i → eqB mi x k = false) → At γ σ 0 0 2 [(0, vR 0 0), (1, vI x), (2, vI (nI i))] [] [rW 0 (nI c) mi sg lc lg] := by
    intro m
    induction m with
    | zero =>
      intro i hi hno
      have hi : i = c := by omega
      subst hi
      refine B.run okX9_find [(2, [0, 1, 2])] 60 ?_
      constructor
      · intro _
        exact rI (by unfold fnd; rw [fst_none hno, if_neg (Nat.lt_irrefl _)])
      · intro h
        exact absurd (nI_le (Nat.le_refl _) (by omega)) h
    | succ m ih =>
      intro i hi hno
      refine B.run okX9_find [(2, [0, 1, 2])] 60 ?_
      constructor
      · intro h
        exact absurd h (nI_ge (by omega) (by omega))
      · intro _
        refine ⟨le6 (by omega) hc, ?_⟩
        rw [nI_clamp (by omega)]
        constructor
        · intro h
          refine rI ?_
          unfold fnd
          rw [fst_some (decide_eq_true h) hno (show i < c by omega), if_pos (by omega)]
        · intro h
          show At γ σ 0 0 2 _ _ _
          rw [nI_1]
          refine ih (i + 1) (by omega) fun k hk => ?_
          rcases Nat.lt_or_ge k i with q | q
          · exact hno k q
          · have e : k = i := by omega
            rw [e]; exact decide_eq_false h
  refine B.run okX9_find [(2, [0, 1, 2])] 60 ?_
  exact loop c 0 (by omega) (fun k hk => absurd hk (Nat.not_lt_zero _))
/-- where x is put among the first n, from above -/
def insP (mi : Nat → Int32) (x : Int32) : Nat → Nat
  | 0 => 0
  | n + 1 => if x < mi n then insP mi x n else n + 1
theorem insP_le (mi : Nat → Int32) (x : Int32) : ∀ n, insP mi x n ≤ n
  | 0 => Nat.le_refl _
  | n + 1 => by
    have := insP_le mi x n
    unfold insP
    split <;> omega
theorem s_tadd (c : Nat) (hc : c < 6) (mi sg lg : Nat → Int32) (lc x y : Int32) : Sp 0 0 0 mX9_add [vR 0 0, vI x, vI y] [rW 0 (nI c) mi sg lc lg]
    (PoV [rW 0 (nI (c + 1)) (upd (shr mi (insP mi x c) c) (insP mi x c) x) (upd (shr sg (insP mi x c) c) (insP mi x c) y) lc lg]) := by
  refine Sp.of' false (fun h => by cases h) (by decide) rfl rfl (Nat.le_of_ble_eq_true rfl) fun γ σ B => ?_
  have loop : ∀ (i : Nat), i ≤ c → insP mi x c = insP mi x i → At γ σ 0 0 5 [(0, vR 0 0), (1, vI x), (2, vI y), (3, vI (nI i))] [] [rW 0 (nI c) (shr mi i c) (shr sg i c) lc lg] := by
    intro i
    have done : ∀ i, i ≤ c → insP mi x c = i → At γ σ 0 0 55 [(0, vR 0 0), (1, vI x), (2, vI y), (3, vI (nI i))] [] [rW 0 (nI c) (shr mi i c) (shr sg i c) lc lg] := by
      intro i hi he
      have hv := le6 (a := i) (b := 6) (by omega) (Nat.le_refl _)
      refine B.run okX9_add [(5, [0, 1, 2, 3])] 60 ?_
      refine ⟨hv, hv, trivial, ?_⟩
      rw [nI_clamp (by omega), nI_1, he]
      exact rV
    induction i with
    | zero =>
      intro hi he
      refine B.run okX9_add [(5, [0, 1, 2, 3]), (55, [0, 1, 2, 3])] 60 ?_
      constructor
      · intro _
        exact done 0 hi he
      · intro h
        exact absurd (by decide) h
    | succ i ih =>
      intro hi he
      refine B.run okX9_add [(5, [0, 1, 2, 3]), (55, [0, 1, 2, 3])] 60 ?_
      constructor
      · intro h
        exact absurd h (nI_nle (by omega) (by omega))
      · intro _
        have hv := le6 (a := i + 1) (b := 6) (by omega) (Nat.le_refl _)
        have hw := le6 (a := i) (b := 6) (by omega) (Nat.le_refl _)
        refine ⟨by rw [nI_pred]; exact hw, ?_⟩
        rw [nI_pred, nI_clamp (by omega)]
        have e0 : shr mi (i + 1) c i = mi i := by unfold shr; rw [if_neg (by omega)]
        rw [e0]
        constructor
        · intro h
          refine done (i + 1) hi ?_
          rw [he]
          unfold insP
          rw [if_neg (Int32.not_lt.mpr h)]
        · intro h
          have h := Int32.not_le.mp h
          have hw2 : vp_in (nI (i + 1) - 1) 6 := by rw [nI_pred]; exact hw
          refine ⟨hw2, hv, hw2, hv, ?_⟩
          show At γ σ 0 0 5 _ _ _
          rw [nI_pred, nI_clamp (by omega), nI_clamp (by omega), shr_upd mi i c hi, shr_upd sg i c hi, pk_m1]
          refine ih (by omega) ?_
          rw [he]
          show (if x < mi i then insP mi x i else i + 1) = _
          rw [if_pos h]
  refine B.run okX9_add [(5, [0, 1, 2, 3])] 60 ?_
  have := loop c (Nat.le_refl _) rfl
  rw [shr_0, shr_0] at this
  exact this
theorem s_removeAt (c : Nat) (hc : c ≤ 6) (mi sg lg : Nat → Int32) (lc : Int32) (q : Nat) (hq : q < c) : Sp 0 0 0 mX9_removeAt [vR 0 0, vI (nI q)] [rW 0 (nI c) mi sg lc lg] (PoI (sg q) [rW 0 (nI (c - 1)) (shl mi q (c - 1)) (shl sg q (c - 1)) lc lg]) := by
  refine Sp.of' false (fun h => by cases h) (by decide) rfl rfl (Nat.le_of_ble_eq_true rfl) fun γ σ B => ?_
  have loop : ∀ (m i : Nat), i + m = c - 1 → q ≤ i → At γ σ 0 0 19 [(0, vR 0 0), (2, vI (sg q)), (3, vI (nI i))] [] [rW 0 (nI (c - 1)) (shl mi q i) (shl sg q i) lc lg] := by
    intro m
    induction m with
    | zero =>
      intro i hi _
      have hi : i = c - 1 := by omega
      subst hi
      refine B.run okX9_removeAt [(19, [0, 2, 3])] 60 ?_
      constructor
      · intro _
        exact rI rfl
      · intro h
        exact absurd (nI_le (Nat.le_refl _) (by omega)) h
    | succ m ih =>
      intro i hi hqi
      refine B.run okX9_removeAt [(19, [0, 2, 3])] 60 ?_
      constructor
      · intro h
        exact absurd h (nI_ge (by omega) (by omega))
      · intro _
        have hv := le6 (a := i) (by omega) hc
        have hw : vp_in (nI i + 1) 6 := by rw [nI_1]; exact le6 (b := c) (by omega) hc
        refine ⟨hw, hv, hw, hv, ?_⟩
        show At γ σ 0 0 19 _ _ _
        rw [nI_1, nI_clamp (by omega), nI_clamp (by omega), shl_upd mi q i hqi, shl_upd sg q i hqi]
        exact ih (i + 1) (by omega) (by omega)
  refine B.run okX9_removeAt [(19, [0, 2, 3])] 60 ?_
  refine ⟨le6 hq hc, trivial, ?_⟩
  show At γ σ 0 0 19 _ _ _
  have e1 : nI c - 1 = nI (c - 1) := by
    obtain ⟨c', rfl⟩ : ∃ c', c = c' + 1 := ⟨c - 1, by omega⟩
    exact nI_pred c'
  have := loop (c - 1 - q) q (by omega) (Nat.le_refl q)
  rw [shl_0, shl_0] at this
  rw [nI_clamp (by omega), e1]
  exact this
def lgN (lc : Nat) : Nat := if lc < 6 then lc + 1 else 6
theorem s_enter (c : Int32) (mi sg lg : Nat → Int32) (lc : Nat) (hl : lc ≤ 6) (x : Int32) : Sp 1 0 0 mX9_enterIntoLog [vR 0 0, vI x] [rW 0 c mi sg (nI lc) lg] (PoV [rW 0 c mi sg (nI (lgN lc)) (upd (shr lg 0 (lgN lc - 1)) 0 x)]) := by
  refine Sp.of' false (fun h => by cases h) (by decide) rfl rfl (Nat.le_of_ble_eq_true rfl) fun γ σ B => ?_
  have hN : 1 ≤ lgN lc ∧ lgN lc ≤ 6 := by unfold lgN; split <;> omega
  have loop : ∀ (i : Nat), i ≤ lgN lc - 1 → At γ σ 0 0 22 [(0, vR 0 0), (1, vI x), (2, vI (nI i))] [] [rW 0 c mi sg (nI (lgN lc)) (shr lg i (lgN lc - 1))] := by
    intro i
    induction i with
    | zero =>
      intro hi
      refine B.run okX9_enterIntoLog [(22, [0, 1, 2])] 60 ?_
      constructor
      · intro _
        exact ⟨le6 (a := 0) (b := 6) (by decide) (Nat.le_refl _), rV⟩
      · intro h
        exact absurd (by decide) h
    | succ i ih =>
      intro hi
      refine B.run okX9_enterIntoLog [(22, [0, 1, 2])] 60 ?_
      constructor
      · intro h
        exact absurd h (nI_nle (by omega) (by omega))
      · intro _
        have hv := le6 (a := i + 1) (b := 6) (by omega) (Nat.le_refl _)
        have hw := le6 (a := i) (b := 6) (by omega) (Nat.le_refl _)
        refine ⟨by rw [nI_pred]; exact hw, hv, ?_⟩
        show At γ σ 0 0 22 _ _ _
        rw [nI_pred, nI_clamp (by omega), nI_clamp (by omega), shr_upd lg i _ hi, pk_m1]
        exact ih (by omega)
  refine B.run okX9_enterIntoLog [] 60 ?_
  refine At.mmin B.1 kmin ln_X9_34 (B.fit (by decide) (Nat.zero_le _) (Nat.zero_le _)) (Nat.le_of_ble_eq_true rfl) (dcS okX9_enterIntoLog rfl) ?_
  have e1 : (if (6 : Int32) < nI lc + 1 then 6 else nI lc + 1) = nI (lgN lc) := by
    rw [nI_1]
    unfold lgN
    by_cases e : lc < 6
    · have h6 : ¬ (6 : Int32) < nI (lc + 1) := Int32.not_lt.mpr (nI_le (a := lc + 1) (b := 6) (by omega) (by omega))
      rw [if_pos e, if_neg h6]
    · have e : lc = 6 := by omega
      subst e
      decide
  rw [e1]
  refine B.run okX9_enterIntoLog [(22, [0, 1, 2])] 60 ?_
  refine ⟨trivial, ?_⟩
  show At γ σ 0 0 22 _ _ _
  have e2 : nI (lgN lc) - 1 = nI (lgN lc - 1) := by
    obtain ⟨c', hc'⟩ : ∃ c', lgN lc = c' + 1 := ⟨lgN lc - 1, by omega⟩
    rw [hc']; exact nI_pred c'
  have := loop (lgN lc - 1) (Nat.le_refl _)
  rw [shr_0] at this
  rw [e2]
  exact this
theorem s_tcopy (c1 c2 l1 l2 : Int32) (mi sg lg mi2 sg2 lg2 : Nat → Int32) : Sp 1 0 0 mX9_copyFrom [vR 0 0, vR 1 0] [rW 0 c1 mi sg l1 lg, rW 1 c2 mi2 sg2 l2 lg2] (PoV [rW 0 c2 mi2 sg2 l2 lg2, rW 1 c2 mi2 sg2 l2 lg2]) := by
  refine Sp.of' false (fun h => by cases h) (by decide) rfl rfl (Nat.le_of_ble_eq_true rfl) fun γ σ B => ?_
  have F : Fit γ 0 0 0 0 0 := B.fit (by decide) (Nat.zero_le _) (Nat.zero_le _)
  refine B.run okX9_copyFrom [] 60 ?_
  refine ⟨trivial, ?_⟩
  refine At.copyi B.1 ac_X9 ac_na ac_st ac_in (r0 := 1) (o0 := 1) (r1 := 0) (o1 := 1) rfl rfl (by decide) (by decide) (by decide) (by decide) (by decide) F (Nat.le_of_ble_eq_true rfl) (dcS okX9_copyFrom rfl) ?_
  refine At.gho 0 1 mi2 rfl (fun j hj => cpy0 hj rfl) ?_
  show At γ σ 0 0 23 [(0, vR 0 0), (1, vR 1 0)] [] [rW 0 c2 mi2 sg l1 lg, rW 1 c2 mi2 sg2 l2 lg2]
  refine B.run okX9_copyFrom [] 60 ?_
  refine At.copyi B.1 ac_X9 ac_na ac_st ac_in (r0 := 1) (o0 := 2) (r1 := 0) (o1 := 2) rfl rfl (by decide) (by decide) (by decide) (by decide) (by decide) F (Nat.le_of_ble_eq_true rfl) (dcS okX9_copyFrom rfl) ?_
  refine At.gho 0 2 sg2 rfl (fun j hj => cpy0 hj rfl) ?_
  show At γ σ 0 0 38 [(0, vR 0 0), (1, vR 1 0)] [] [rW 0 c2 mi2 sg2 l1 lg, rW 1 c2 mi2 sg2 l2 lg2]
  refine B.run okX9_copyFrom [] 60 ?_
  refine ⟨trivial, ?_⟩
  refine At.copyi B.1 ac_X9 ac_na ac_st ac_in (r0 := 1) (o0 := 3) (r1 := 0) (o1 := 3) rfl rfl (by decide) (by decide) (by decide) (by decide) (by decide) F (Nat.le_of_ble_eq_true rfl) (dcS okX9_copyFrom rfl) ?_
  refine At.gho 0 3 lg2 rfl (fun j hj => cpy0 hj rfl) ?_
  show At γ σ 0 0 61 [(0, vR 0 0), (1, vR 1 0)] [] [rW 0 c2 mi2 sg2 l2 lg2, rW 1 c2 mi2 sg2 l2 lg2]
  refine B.run okX9_copyFrom [] 60 ?_
  exact rV
