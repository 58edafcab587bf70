/-! ===== Hold, with calls ===== -/
theorem b2_eq0 {b : Bool} : b2 b = 0 ↔ b = false := by cases b <;> decide
theorem b2_ne0 {b : Bool} : ¬ b2 b = 0 ↔ b = true := by cases b <;> decide
/-- how many of the first n pump before j -/
def rkN (u w : Nat → Int32) (j n : Nat) : Nat := ctB (fun i => cpB u w i && pbB w i j) n
theorem s_pumpRank (c : Nat) (hc : c ≤ 8) (ar cp w l u g : Nat → Int32) (j : Nat) (hj : j < 8) : Sp 1 0 0 mX5_pumpRank [vR 0 0, vI (nI j)] [rH 0 (nI c) ar cp w l u g] (PoI (nI (rkN u w j c)) [rH 0 (nI c) ar cp w l u g]) := by
  refine Sp.of' false (fun h => by cases h) (by decide) rfl rfl (Nat.le_of_ble_eq_true rfl) fun γ σ B => ?_
  have loop : ∀ (m i : Nat), i + m = c → At γ σ 0 0 4 [(0, vR 0 0), (1, vI (nI j)), (2, vI (nI (rkN u w j i))), (3, vI (nI i))] [] [rH 0 (nI c) ar cp w l u g] := by
    intro m
    induction m with
    | zero =>
      intro i hi
      have hi : i = c := by omega
      subst hi
      refine B.run okX5_pumpRank [(4, [0, 1, 2, 3])] 60 ?_
      constructor
      · intro _
        exact rI rfl
      · intro h
        exact absurd (nI_le (Nat.le_refl _) (by omega)) h
    | succ m ih =>
      intro i hi
      have next : ∀ (r : Nat), r = rkN u w j (i + 1) → At γ σ 0 0 32 [(0, vR 0 0), (1, vI (nI j)), (2, vI (nI r)), (3, vI (nI i))] [] [rH 0 (nI c) ar cp w l u g] := by
        intro r hr
        refine B.run okX5_pumpRank [(4, [0, 1, 2, 3])] 60 ?_
        show At γ σ 0 0 4 _ _ _
        rw [nI_1, hr]
        exact ih (i + 1) (by omega)
      have hrk : rkN u w j (i + 1) = rkN u w j i + (if (cpB u w i && pbB w i j) = true then 1 else 0) := rfl
      refine B.run okX5_pumpRank [(4, [0, 1, 2, 3])] 60 ?_
      constructor
      · intro h
        exact absurd h (nI_ge (by omega) (by omega))
      · intro _
        refine At.cVI [0] [vI (nI i)] [] B.1 (s_canPump (nI c) ar cp w l u g i (by omega)) kX5_canPump ln_X5_51 ⟨rfl, trivial⟩ (B.fit (by decide) (Nat.zero_le _) (Nat.zero_le _)) (dcV okX5_pumpRank rfl) ?_
        refine B.run okX5_pumpRank [(4, [0, 1, 2, 3]), (32, [0, 1, 2, 3])] 60 ?_
        constructor
        · intro h
          have h := b2_eq0.mp h
          exact next _ (by rw [hrk, h]; rfl)
        · intro h
          have h := b2_ne0.mp h
          refine At.cVI [0] [vI (nI i), vI (nI j)] [] B.1 (s_pumpsBefore (nI c) ar cp w l u g i j (by omega) hj) kX5_pumpsBefore ln_X5_54 ⟨rfl, trivial⟩ (B.fit (by decide) (Nat.zero_le _) (Nat.zero_le _)) (dcV okX5_pumpRank rfl) ?_
          refine B.run okX5_pumpRank [(4, [0, 1, 2, 3]), (32, [0, 1, 2, 3])] 60 ?_
          constructor
          · intro h2
            have h2 := b2_eq0.mp h2
            exact next _ (by rw [hrk, h, h2]; rfl)
          · intro h2
            have h2 := b2_ne0.mp h2
            show At γ σ 0 0 32 _ _ _
            rw [nI_1]
            exact next _ (by rw [hrk, h, h2]; rfl)
  refine B.run okX5_pumpRank [(4, [0, 1, 2, 3])] 60 ?_
  exact loop c 0 (by omega)
/-- a pump that runs, of a power of pw -/
def rnB (u w : Nat → Int32) (c : Nat) (pw : Int32) (j : Nat) : Bool := cpB u w j && decide (nI (rkN u w j c) < pw)
theorem s_hasPower (c : Nat) (hc : c ≤ 8) (ar cp w l u g : Nat → Int32) (j : Nat) (hj : j < 8) (pw : Int32) : Sp 2 0 0 mX5_hasPower [vR 0 0, vI (nI j), vI pw] [rH 0 (nI c) ar cp w l u g] (PoI (b2 (rnB u w c pw j)) [rH 0 (nI c) ar cp w l u g]) := by
  refine Sp.of' false (fun h => by cases h) (by decide) rfl rfl (Nat.le_of_ble_eq_true rfl) fun γ σ B => ?_
  refine B.run okX5_hasPower [] 60 ?_
  refine At.cVI [0] [vI (nI j)] [] B.1 (s_canPump (nI c) ar cp w l u g j hj) kX5_canPump ln_X5_51 ⟨rfl, trivial⟩ (B.fit (by decide) (Nat.zero_le _) (Nat.zero_le _)) (dcV okX5_hasPower rfl) ?_
  refine B.run okX5_hasPower [] 60 ?_
  constructor
  · intro h
    have h := b2_eq0.mp h
    exact rFa (by unfold rnB; rw [h]; rfl)
  · intro h
    have h := b2_ne0.mp h
    refine At.cVI [0] [vI (nI j)] [] B.1 (s_pumpRank c hc ar cp w l u g j hj) kX5_pumpRank ln_X5_58 ⟨rfl, trivial⟩ (B.fit (by decide) (Nat.zero_le _) (Nat.zero_le _)) (dcV okX5_hasPower rfl) ?_
    refine B.run okX5_hasPower [] 60 ?_
    constructor
    · intro h2
      exact rFa (by unfold rnB; rw [h, decide_eq_false (Int32.not_lt.mpr h2)]; rfl)
    · intro h2
      exact rT (by unfold rnB; rw [h, decide_eq_true (Int32.not_le.mp h2)]; rfl)
/-- the first n places by f, the others by g -/
def fill {α : Type} (n : Nat) (f g : Nat → α) : Nat → α := fun j => if j < n then f j else g j
theorem fill_upd (n : Nat) (f g : Nat → Int32) (x : Int32) (h : x = f n) : upd (fill n f g) n x = fill (n + 1) f g := by
  funext j
  unfold upd fill
  by_cases e : j = n
  · subst e
    rw [if_pos rfl, if_pos (by omega), h]
  · rw [if_neg e]
    by_cases e2 : j < n
    · rw [if_pos e2, if_pos (by omega)]
    · rw [if_neg e2, if_neg (by omega)]
theorem fill_0 {α : Type} (f g : Nat → α) : fill 0 f g = g := by
  funext j
  unfold fill
  rw [if_neg (Nat.not_lt_zero _)]
theorem fill_at {α : Type} {n j : Nat} (f g : Nat → α) (h : n ≤ j) : fill n f g j = g j := by
  unfold fill
  rw [if_neg (by omega)]
theorem fill_in {α : Type} {n j : Nat} (f g : Nat → α) (h : j < n) : fill n f g j = f j := by
  unfold fill
  rw [if_pos h]
def minI (x y : Int32) : Int32 := if y < x then y else x
def lkI (cp w l : Nat → Int32) (i : Nat) : Int32 := minI (w i + l i) (cp i)
theorem s_takeInLeaks (c : Nat) (hc : c ≤ 8) (ar cp w l u g : Nat → Int32) : Sp 1 0 0 mX5_takeInLeaks [vR 0 0] [rH 0 (nI c) ar cp w l u g] (PoV [rH 0 (nI c) ar cp (fill c (lkI cp w l) w) l u g]) := by
  refine Sp.of' false (fun h => by cases h) (by decide) rfl rfl (Nat.le_of_ble_eq_true rfl) fun γ σ B => ?_
  have loop : ∀ (m i : Nat), i + m = c → At γ σ 0 0 2 [(0, vR 0 0), (1, vI (nI i))] [] [rH 0 (nI c) ar cp (fill i (lkI cp w l) w) l u g] := by
    intro m
    induction m with
    | zero =>
      intro i hi
      have hi : i = c := by omega
      subst hi
      refine B.run okX5_takeInLeaks [(2, [0, 1])] 60 ?_
      constructor
      · intro _
        exact rV
      · intro h
        exact absurd (nI_le (Nat.le_refl _) (by omega)) h
    | succ m ih =>
      intro i hi
      refine B.run okX5_takeInLeaks [(2, [0, 1])] 60 ?_
      constructor
      · intro h
        exact absurd h (nI_ge (by omega) (by omega))
      · intro _
        have hv := le8 (a := i) (by omega) hc
        refine ⟨hv, hv, hv, ?_⟩
        rw [nI_clamp (by omega)]
        refine At.mmin B.1 kmin ln_X5_45 (B.fit (by decide) (Nat.zero_le _) (Nat.zero_le _)) (Nat.le_of_ble_eq_true rfl) (dcS okX5_takeInLeaks rfl) ?_
        refine B.run okX5_takeInLeaks [(2, [0, 1])] 60 ?_
        refine ⟨hv, ?_⟩
        show At γ σ 0 0 2 _ _ _
        rw [nI_clamp (by omega), fill_upd i (lkI cp w l) w _ (by rw [fill_at _ _ (Nat.le_refl i)]; rfl), nI_1]
        exact ih (i + 1) (by omega)
  refine B.run okX5_takeInLeaks [(2, [0, 1])] 60 ?_
  have := loop c 0 (by omega)
  rw [fill_0] at this
  exact this
/-- what runs out of j -/
def outI (u w : Nat → Int32) (c : Nat) (pw : Int32) (j : Nat) : Int32 := if rnB u w c pw j = true then minI (u j) (w j) else 0
def pmI (u w : Nat → Int32) (c : Nat) (pw : Int32) (j : Nat) : Int32 := if rnB u w c pw j = true then w j - minI (u j) (w j) else w j
theorem s_pumpOut (c : Nat) (hc : c ≤ 8) (ar cp w l u g : Nat → Int32) (pw : Int32) : Sp 3 0 0 mX5_pumpOut [vR 0 0, vI pw] [rH 0 (nI c) ar cp w l u g] (PoI (sumI (outI u w c pw) c) [rH 0 (nI c) ar cp (fill c (pmI u w c pw) w) l u (fill c (fun j => b2 (rnB u w c pw j)) g)]) := by
  refine Sp.of' false (fun h => by cases h) (by decide) rfl rfl (Nat.le_of_ble_eq_true rfl) fun γ σ B => ?_
  have loop2 : ∀ (m i : Nat), i + m = c → At γ σ 0 0 32 [(0, vR 0 0), (1, vI pw), (2, vI (sumI (outI u w c pw) i)), (3, vI (nI i))] [] [rH 0 (nI c) ar cp (fill i (pmI u w c pw) w) l u (fill c (fun j => b2 (rnB u w c pw j)) g)] := by
    intro m
    induction m with
    | zero =>
      intro i hi
      have hi : i = c := by omega
      subst hi
      refine B.run okX5_pumpOut [(32, [0, 1, 2, 3])] 60 ?_
      constructor
      · intro _
        exact rI rfl
      · intro h
        exact absurd (nI_le (Nat.le_refl _) (by omega)) h
    | succ m ih =>
      intro i hi
      have hv := le8 (a := i) (by omega) hc
      refine B.run okX5_pumpOut [(32, [0, 1, 2, 3])] 60 ?_
      constructor
      · intro h
        exact absurd h (nI_ge (by omega) (by omega))
      · intro _
        refine ⟨hv, ?_⟩
        rw [nI_clamp (by omega), fill_in _ _ (show i < c by omega)]
        constructor
        · intro h
          have h := b2_eq0.mp h
          show At γ σ 0 0 32 _ _ _
          have e1 : fill (i + 1) (pmI u w c pw) w = fill i (pmI u w c pw) w := by
            rw [← fill_upd i (pmI u w c pw) w (w i) (by unfold pmI; rw [h]; rfl)]
            funext j
            unfold upd
            by_cases e : j = i
            · rw [if_pos e, e, fill_at _ _ (Nat.le_refl i)]
            · rw [if_neg e]
          have e2 : sumI (outI u w c pw) (i + 1) = sumI (outI u w c pw) i := by
            show sumI _ i + outI u w c pw i = _
            unfold outI
            rw [h]
            exact Int32.add_zero _
          have := ih (i + 1) (by omega)
          rw [e1, e2] at this
          rw [nI_1]
          exact this
        · intro h
          have h := b2_ne0.mp h
          refine ⟨hv, hv, ?_⟩
          refine At.mmin B.1 kmin ln_X5_45 (B.fit (by decide) (Nat.zero_le _) (Nat.zero_le _)) (Nat.le_of_ble_eq_true rfl) (dcS okX5_pumpOut rfl) ?_
          refine B.run okX5_pumpOut [(32, [0, 1, 2, 3])] 60 ?_
          refine ⟨hv, hv, ?_⟩
          show At γ σ 0 0 32 _ _ _
          rw [nI_clamp (by omega), fill_at _ _ (Nat.le_refl i), fill_upd i (pmI u w c pw) w _ (by unfold pmI; rw [h]; rfl), nI_1]
          have e2 : sumI (outI u w c pw) i + (if w i < u i then w i else u i) = sumI (outI u w c pw) (i + 1) := by
            show _ = sumI _ i + outI u w c pw i
            unfold outI
            rw [h]
            rfl
          rw [e2]
          exact ih (i + 1) (by omega)
  have loop1 : ∀ (m i : Nat), i + m = c → At γ σ 0 0 2 [(0, vR 0 0), (1, vI pw), (2, vI (nI i))] [] [rH 0 (nI c) ar cp w l u (fill i (fun j => b2 (rnB u w c pw j)) g)] := by
    intro m
    induction m with
    | zero =>
      intro i hi
      have hi : i = c := by omega
      subst hi
      refine B.run okX5_pumpOut [(2, [0, 1, 2]), (32, [0, 1, 2, 3])] 60 ?_
      constructor
      · intro _
        have := loop2 i 0 (by omega)
        rw [fill_0] at this
        exact this
      · intro h
        exact absurd (nI_le (Nat.le_refl _) (by omega)) h
    | succ m ih =>
      intro i hi
      have hv := le8 (a := i) (by omega) hc
      refine B.run okX5_pumpOut [(2, [0, 1, 2]), (32, [0, 1, 2, 3])] 60 ?_
      constructor
      · intro h
        exact absurd h (nI_ge (by omega) (by omega))
      · intro _
        refine At.cVI [0] [vI (nI i), vI pw] [vI (nI i), vR 0 6] B.1 (s_hasPower c hc ar cp w l u _ i (by omega) pw) kX5_hasPower ln_X5_62 ⟨rfl, trivial⟩ (B.fit (by decide) (Nat.zero_le _) (Nat.zero_le _)) (dcV okX5_pumpOut rfl) ?_
        refine B.run okX5_pumpOut [(2, [0, 1, 2]), (32, [0, 1, 2, 3])] 60 ?_
        refine ⟨hv, ?_, ?_⟩
        · cases rnB u w c pw i
          · exact Or.inl rfl
          · exact Or.inr rfl
        · show At γ σ 0 0 2 _ _ _
          rw [nI_clamp (by omega), fill_upd i (fun j => b2 (rnB u w c pw j)) g _ rfl, nI_1]
          exact ih (i + 1) (by omega)
  refine B.run okX5_pumpOut [(2, [0, 1, 2]), (32, [0, 1, 2, 3])] 60 ?_
  have := loop1 c 0 (by omega)
  rw [fill_0] at this
  exact this
theorem s_add (c : Nat) (hc : c < 8) (ar cp w l u g : Nat → Int32) (x y : Int32) : Sp 0 0 0 mX5_add [vR 0 0, vI x, vI y] [rH 0 (nI c) ar cp w l u g] (PoI (nI c) [rH 0 (nI (c + 1)) (upd ar c x) (upd cp c y) (upd w c 0) (upd l c 0) (upd u c 5) g]) := by
  refine Sp.of' false (fun h => by cases h) (by decide) rfl rfl (Nat.le_of_ble_eq_true rfl) fun γ σ B => ?_
  have hv := le8 (a := c) hc (Nat.le_refl _)
  refine B.run okX5_add [] 60 ?_
  refine ⟨hv, hv, hv, hv, hv, trivial, ?_⟩
  rw [nI_clamp (by omega), nI_1]
  exact rI rfl
theorem s_move (c : Int32) (ar cp w l u g : Nat → Int32) (s t : Nat) (hs : s < 8) (ht : t < 8) (a : Int32) : Sp 0 0 0 mX5_move [vR 0 0, vI (nI s), vI (nI t), vI a] [rH 0 c ar cp w l u g] (PoV [rH 0 c ar cp (upd (upd w s (w s - a)) t (upd w s (w s - a) t + a)) l u g]) := by
  refine Sp.of' false (fun h => by cases h) (by decide) rfl rfl (Nat.le_of_ble_eq_true rfl) fun γ σ B => ?_
  have hv := le8 hs (Nat.le_refl _)
  have hw := le8 ht (Nat.le_refl _)
  refine B.run okX5_move [] 60 ?_
  refine ⟨hv, hv, hw, hw, ?_⟩
  rw [nI_clamp (by omega), nI_clamp (by omega)]
  exact rV
theorem s_hcopy (c1 c2 : Int32) (ar cp w l u g ar2 cp2 w2 l2 u2 g2 : Nat → Int32) : Sp 1 0 0 mX5_copyFrom [vR 0 0, vR 1 0] [rH 0 c1 ar cp w l u g, rH 1 c2 ar2 cp2 w2 l2 u2 g2] (PoV [rH 0 c2 ar2 cp2 w2 l2 u2 g, rH 1 c2 ar2 cp2 w2 l2 u2 g2]) := by
  refine Sp.of' false (fun h => by cases h) (by decide) rfl rfl (Nat.le_of_ble_eq_true rfl) fun γ σ B => ?_
  have F : Fit γ 0 0 0 0 0 := B.fit (by decide) (Nat.zero_le _) (Nat.zero_le _)
  refine B.run okX5_copyFrom [] 60 ?_
  refine ⟨trivial, ?_⟩
  refine At.copyi B.1 ac_X5 ac_na ac_st ac_in (r0 := 1) (o0 := 1) (r1 := 0) (o1 := 1) rfl rfl (by decide) (by decide) (by decide) (by decide) (by decide) F (Nat.le_of_ble_eq_true rfl) (dcS okX5_copyFrom rfl) ?_
  refine At.gho 0 1 ar2 rfl (fun j hj => cpy0 hj rfl) ?_
  show At γ σ 0 0 23 [(0, vR 0 0), (1, vR 1 0)] [] [rH 0 c2 ar2 cp w l u g, rH 1 c2 ar2 cp2 w2 l2 u2 g2]
  refine B.run okX5_copyFrom [] 60 ?_
  refine At.copyi B.1 ac_X5 ac_na ac_st ac_in (r0 := 1) (o0 := 2) (r1 := 0) (o1 := 2) rfl rfl (by decide) (by decide) (by decide) (by decide) (by decide) F (Nat.le_of_ble_eq_true rfl) (dcS okX5_copyFrom rfl) ?_
  refine At.gho 0 2 cp2 rfl (fun j hj => cpy0 hj rfl) ?_
  show At γ σ 0 0 38 [(0, vR 0 0), (1, vR 1 0)] [] [rH 0 c2 ar2 cp2 w l u g, rH 1 c2 ar2 cp2 w2 l2 u2 g2]
  refine B.run okX5_copyFrom [] 60 ?_
  refine At.copyi B.1 ac_X5 ac_na ac_st ac_in (r0 := 1) (o0 := 3) (r1 := 0) (o1 := 3) rfl rfl (by decide) (by decide) (by decide) (by decide) (by decide) F (Nat.le_of_ble_eq_true rfl) (dcS okX5_copyFrom rfl) ?_
  refine At.gho 0 3 w2 rfl (fun j hj => cpy0 hj rfl) ?_
  show At γ σ 0 0 53 [(0, vR 0 0), (1, vR 1 0)] [] [rH 0 c2 ar2 cp2 w2 l u g, rH 1 c2 ar2 cp2 w2 l2 u2 g2]
  refine B.run okX5_copyFrom [] 60 ?_
  refine At.copyi B.1 ac_X5 ac_na ac_st ac_in (r0 := 1) (o0 := 4) (r1 := 0) (o1 := 4) rfl rfl (by decide) (by decide) (by decide) (by decide) (by decide) F (Nat.le_of_ble_eq_true rfl) (dcS okX5_copyFrom rfl) ?_
  refine At.gho 0 4 l2 rfl (fun j hj => cpy0 hj rfl) ?_
  show At γ σ 0 0 68 [(0, vR 0 0), (1, vR 1 0)] [] [rH 0 c2 ar2 cp2 w2 l2 u g, rH 1 c2 ar2 cp2 w2 l2 u2 g2]
  refine B.run okX5_copyFrom [] 60 ?_
  refine At.copyi B.1 ac_X5 ac_na ac_st ac_in (r0 := 1) (o0 := 5) (r1 := 0) (o1 := 5) rfl rfl (by decide) (by decide) (by decide) (by decide) (by decide) F (Nat.le_of_ble_eq_true rfl) (dcS okX5_copyFrom rfl) ?_
  refine At.gho 0 5 u2 rfl (fun j hj => cpy0 hj rfl) ?_
  show At γ σ 0 0 83 [(0, vR 0 0), (1, vR 1 0)] [] [rH 0 c2 ar2 cp2 w2 l2 u2 g, rH 1 c2 ar2 cp2 w2 l2 u2 g2]
  refine B.run okX5_copyFrom [] 60 ?_
  exact rV
theorem hs_in {c i : Nat} (hi : i < c) (hc : c ≤ 8) : (if nI i < 0 then (0 : Int32) else if nI c ≤ nI i then 0 else 1) = 1 := by
  rw [if_neg (Int32.not_lt.mpr (nI_pos' (by omega))), if_neg (Int32.not_le.mpr (nI_lt hi (by omega)))]
theorem s_armOf (c : Nat) (hc : c ≤ 8) (ar cp w l u g : Nat → Int32) (i : Nat) (hi : i < c) : Sp 1 0 0 mX5_armOf [vR 0 0, vI (nI i)] [rH 0 (nI c) ar cp w l u g] (PoI (ar i) [rH 0 (nI c) ar cp w l u g]) := by
  refine Sp.of' false (fun h => by cases h) (by decide) rfl rfl (Nat.le_of_ble_eq_true rfl) fun γ σ B => ?_
  have H := s_has c hc ar cp w l u g (nI i)
  rw [hs_in hi hc] at H
  refine B.run okX5_armOf [] 60 ?_
  refine At.cVI [0] [vI (nI i)] [] B.1 H kX5_has ln_X5_41 ⟨rfl, trivial⟩ (B.fit (by decide) (Nat.zero_le _) (Nat.zero_le _)) (dcV okX5_armOf rfl) ?_
  refine B.run okX5_armOf [] 60 ?_
  constructor
  · intro h
    exact absurd h (by decide)
  · intro _
    refine ⟨le8 hi hc, ?_⟩
    exact rI (by rw [nI_clamp (by omega)])
