/-! ===== Cargo and Storms ===== -/
/-- the first below n with p, else n -/
def fst (p : Nat → Bool) : Nat → Nat
  | 0 => 0
  | n + 1 => if fst p n < n then fst p n else if p n = true then n else n + 1
theorem fst_le (p : Nat → Bool) : ∀ n, fst p n ≤ n
  | 0 => Nat.le_refl _
  | n + 1 => by
    have := fst_le p n
    unfold fst
    split
    · omega
    · split <;> omega
theorem fst_none {p : Nat → Bool} : ∀ {n : Nat}, (∀ k, k < n → p k = false) → fst p n = n
  | 0, _ => rfl
  | n + 1, h => by
    unfold fst
    rw [fst_none fun k hk => h k (by omega), if_neg (by omega), if_neg (by rw [h n (by omega)]; decide)]
theorem fst_some {p : Nat → Bool} {i : Nat} (hi : p i = true) (hn : ∀ k, k < i → p k = false) : ∀ {n : Nat}, i < n → fst p n = i
  | 0, h => absurd h (Nat.not_lt_zero _)
  | n + 1, h => by
    unfold fst
    by_cases e : i < n
    · rw [fst_some hi hn e, if_pos e]
    · have e : i = n := by omega
      subst e
      rw [fst_none hn, if_neg (by omega), if_pos hi]
theorem fst_no {p : Nat → Bool} : ∀ {n k : Nat}, k < fst p n → p k = false
  | 0, k, h => absurd h (Nat.not_lt_zero _)
  | n + 1, k, h => by
    unfold fst at h
    split at h
    · exact fst_no h
    · have hl := fst_le p n
      have e : fst p n = n := by omega
      split at h
      · exact fst_no (n := n) (by omega)
      · by_cases e2 : k < n
        · exact fst_no (n := n) (by omega)
        · have e2 : k = n := by omega
          subst e2
          rename_i h3
          exact Bool.eq_false_iff.mpr h3
theorem fst_yes {p : Nat → Bool} : ∀ {n : Nat}, fst p n < n → p (fst p n) = true
  | 0, h => absurd h (Nat.not_lt_zero _)
  | n + 1, h => by
    unfold fst at h ⊢
    split
    · rename_i h2
      exact fst_yes h2
    · rename_i h2
      rw [if_neg h2] at h
      split
      · rename_i h3; exact h3
      · rename_i h3
        rw [if_neg h3] at h
        omega
theorem fst_cong {p q : Nat → Bool} : ∀ {n : Nat}, (∀ k, k < n → p k = q k) → fst p n = fst q n
  | 0, _ => rfl
  | n + 1, h => by
    unfold fst
    rw [fst_cong fun k hk => h k (by omega), h n (by omega)]
def eqB (f : Nat → Int32) (x : Int32) (k : Nat) : Bool := decide (f k = x)
/-- where x stands among the first n of f, else -1 -/
def fnd (f : Nat → Int32) (x : Int32) (n : Nat) : Int32 := if fst (eqB f x) n < n then nI (fst (eqB f x) n) else -1
/-- from a to b one down -/
def shl (f : Nat → Int32) (a b : Nat) : Nat → Int32 := fun j => if a ≤ j ∧ j < b then f (j + 1) else f j
theorem shl_0 (f : Nat → Int32) (a : Nat) : shl f a a = f := by
  funext j
  unfold shl
  rw [if_neg (by omega)]
theorem shl_upd (f : Nat → Int32) (a i : Nat) (h : a ≤ i) : upd (shl f a i) i (shl f a i (i + 1)) = shl f a (i + 1) := by
  funext j
  unfold upd shl
  by_cases e : j = i
  · subst e
    rw [if_pos rfl, if_neg (by omega), if_pos (by omega)]
  · rw [if_neg e]
    by_cases e2 : a ≤ j ∧ j < i
    · rw [if_pos e2, if_pos (by omega)]
    · rw [if_neg e2, if_neg (by omega)]
/-- above a, to b, one up -/
def shr (f : Nat → Int32) (a b : Nat) : Nat → Int32 := fun j => if a < j ∧ j ≤ b then f (j - 1) else f j
theorem shr_0 (f : Nat → Int32) (a : Nat) : shr f a a = f := by
  funext j
  unfold shr
  rw [if_neg (by omega)]
theorem shr_upd (f : Nat → Int32) (i b : Nat) (h : i + 1 ≤ b) : upd (shr f (i + 1) b) (i + 1) (shr f (i + 1) b i) = shr f i b := by
  funext j
  unfold upd shr
  by_cases e : j = i + 1
  · subst e
    rw [if_pos rfl, if_neg (by omega), if_pos (by omega)]
    congr 1
  · rw [if_neg e]
    by_cases e2 : i + 1 < j ∧ j ≤ b
    · rw [if_pos e2, if_pos (by omega)]
    · rw [if_neg e2, if_neg (by omega)]
/-- count, nextId, id, weight, place -/
def rC (r : Nat) (p nx : Int32) (id wt pl : Nat → Int32) : List ACell := [aO 4 [vI p, vI nx, vR r 1, vR r 2, vR r 3], aI 16 id, aI 16 wt, aI 16 pl]
theorem s_cfind (p : Nat) (hp : p ≤ 16) (nx : Int32) (id wt pl : Nat → Int32) (x : Int32) : Sp 0 0 0 mX1_find [vR 0 0, vI x] [rC 0 (nI p) nx id wt pl] (PoI (fnd id x p) [rC 0 (nI p) nx id wt pl]) := by
  refine Sp.of' false (fun h => by cases h) (by decide) rfl rfl (Nat.le_of_ble_eq_true rfl) fun γ σ B => ?_
  have loop : ∀ (m i : Nat), i + m = p → (∀ k, k < i → eqB id x k = false) → At γ σ 0 0 2 [(0, vR 0 0), (1, vI x), (2, vI (nI i))] [] [rC 0 (nI p) nx id wt pl] := by
    intro m
    induction m with
    | zero =>
      intro i hi hno
      have hi : i = p := by omega
      subst hi
      refine B.run okX1_find [(2, [0, 1, 2])] 60 ?_
      constructor
      · intro _
        exact rI (by unfold fnd; rw [fst_none hno, if_neg (Nat.lt_irrefl _)])
      · intro h
        exact absurd (nI_le (Nat.le_refl _) (by omega)) h
    | succ m ih =>
      intro i hi hno
      refine B.run okX1_find [(2, [0, 1, 2])] 60 ?_
      constructor
      · intro h
        exact absurd h (nI_ge (by omega) (by omega))
      · intro _
        refine ⟨le16 (by omega) hp, ?_⟩
        rw [nI_clamp (by omega)]
        constructor
        · intro h
          refine rI ?_
          unfold fnd
          rw [fst_some (decide_eq_true h) hno (show i < p by omega), if_pos (by omega)]
        · intro h
          show At γ σ 0 0 2 _ _ _
          rw [nI_1]
          refine ih (i + 1) (by omega) fun k hk => ?_
          rcases Nat.lt_or_ge k i with q | q
          · exact hno k q
          · have e : k = i := by omega
            rw [e]; exact decide_eq_false h
  refine B.run okX1_find [(2, [0, 1, 2])] 60 ?_
  exact loop p 0 (by omega) (fun k hk => absurd hk (Nat.not_lt_zero _))
theorem s_put (p : Nat) (hp : p < 16) (nx : Int32) (id wt pl : Nat → Int32) (x y : Int32) : Sp 0 0 0 mX1_put [vR 0 0, vI x, vI y] [rC 0 (nI p) nx id wt pl] (PoI nx [rC 0 (nI (p + 1)) (nx + 1) (upd id p nx) (upd wt p y) (upd pl p x)]) := by
  refine Sp.of' false (fun h => by cases h) (by decide) rfl rfl (Nat.le_of_ble_eq_true rfl) fun γ σ B => ?_
  have hv := le16 hp (Nat.le_refl _)
  refine B.run okX1_put [] 60 ?_
  refine ⟨hv, hv, hv, trivial, trivial, ?_⟩
  rw [nI_clamp (by omega), nI_1]
  exact rI rfl
theorem fnd_some {f : Nat → Int32} {x : Int32} {n : Nat} (hn : n ≤ 1000) (h : ¬ fnd f x n < 0) : fst (eqB f x) n < n ∧ fnd f x n = nI (fst (eqB f x) n) := by
  unfold fnd at h ⊢
  by_cases e : fst (eqB f x) n < n
  · rw [if_pos e]; exact ⟨e, rfl⟩
  · rw [if_neg e] at h; exact absurd (by decide) h
theorem fnd_none {f : Nat → Int32} {x : Int32} {n : Nat} (hn : n ≤ 1000) (h : fnd f x n < 0) : ¬ fst (eqB f x) n < n ∧ fnd f x n = -1 := by
  unfold fnd at h ⊢
  by_cases e : fst (eqB f x) n < n
  · rw [if_pos e] at h
    have := nI_pos (n := fst (eqB f x) n) (by omega)
    exact absurd h this
  · rw [if_neg e]; exact ⟨e, rfl⟩
theorem s_cremove (p : Nat) (hp : p ≤ 16) (nx : Int32) (id wt pl : Nat → Int32) (x : Int32) (hf : fst (eqB id x) p < p) : Sp 1 0 0 mX1_remove [vR 0 0, vI x] [rC 0 (nI p) nx id wt pl]
    (PoI (wt (fst (eqB id x) p)) [rC 0 (nI (p - 1)) nx (shl id (fst (eqB id x) p) (p - 1)) (shl wt (fst (eqB id x) p) (p - 1)) (shl pl (fst (eqB id x) p) (p - 1))]) := by
  refine Sp.of' false (fun h => by cases h) (by decide) rfl rfl (Nat.le_of_ble_eq_true rfl) fun γ σ B => ?_
  generalize hq : fst (eqB id x) p = q at hf ⊢
  have loop : ∀ (m i : Nat), i + m = p - 1 → q ≤ i → At γ σ 0 0 32 [(0, vR 0 0), (3, vI (wt q)), (4, vI (nI i))] [] [rC 0 (nI (p - 1)) nx (shl id q i) (shl wt q i) (shl pl q i)] := by
    intro m
    induction m with
    | zero =>
      intro i hi _
      have hi : i = p - 1 := by omega
      subst hi
      refine B.run okX1_remove [(32, [0, 3, 4])] 60 ?_
      constructor
      · intro _
        exact rI (by rw [hq]) (by rw [hq])
      · intro h
        exact absurd (nI_le (Nat.le_refl _) (by omega)) h
    | succ m ih =>
      intro i hi hqi
      refine B.run okX1_remove [(32, [0, 3, 4])] 60 ?_
      constructor
      · intro h
        exact absurd h (nI_ge (by omega) (by omega))
      · intro _
        have hv := le16 (a := i) (by omega) hp
        have hw : vp_in (nI i + 1) 16 := by rw [nI_1]; exact le16 (b := p) (by omega) hp
        refine ⟨hw, hv, hw, hv, hw, hv, ?_⟩
        show At γ σ 0 0 32 _ _ _
        rw [nI_1, nI_clamp (by omega), nI_clamp (by omega), shl_upd id q i hqi, shl_upd wt q i hqi, shl_upd pl q i hqi]
        exact ih (i + 1) (by omega) (by omega)
  refine B.run okX1_remove [] 60 ?_
  refine At.cVI [0] [vI x] [] B.1 (s_cfind p hp nx id wt pl x) kX1_find ln_X1_34 ⟨rfl, trivial⟩ (B.fit (by decide) (Nat.zero_le _) (Nat.zero_le _)) (dcV okX1_remove rfl) ?_
  have e : fnd id x p = nI q := by unfold fnd; rw [hq, if_pos hf]
  rw [e]
  refine B.run okX1_remove [(32, [0, 3, 4])] 60 ?_
  constructor
  · intro _
    refine ⟨le16 hf hp, trivial, ?_⟩
    show At γ σ 0 0 32 _ _ _
    have e1 : nI p - 1 = nI (p - 1) := by
      obtain ⟨p', rfl⟩ : ∃ p', p = p' + 1 := ⟨p - 1, by omega⟩
      exact nI_pred p'
    have := loop (p - 1 - q) q (by omega) (Nat.le_refl q)
    rw [shl_0, shl_0, shl_0] at this
    rw [nI_clamp (by omega), e1]
    exact this
  · intro h
    exact absurd (nI_pos' (n := q) (by omega)) h
theorem s_carry (p : Nat) (hp : p ≤ 16) (nx : Int32) (id wt pl : Nat → Int32) (x y : Int32) (hf : fst (eqB id x) p < p) : Sp 1 0 0 mX1_carry [vR 0 0, vI x, vI y] [rC 0 (nI p) nx id wt pl]
    (PoI (pl (fst (eqB id x) p)) [rC 0 (nI p) nx id wt (upd pl (fst (eqB id x) p) y)]) := by
  refine Sp.of' false (fun h => by cases h) (by decide) rfl rfl (Nat.le_of_ble_eq_true rfl) fun γ σ B => ?_
  generalize hq : fst (eqB id x) p = q at hf ⊢
  refine B.run okX1_carry [] 60 ?_
  refine At.cVI [0] [vI x] [] B.1 (s_cfind p hp nx id wt pl x) kX1_find ln_X1_34 ⟨rfl, trivial⟩ (B.fit (by decide) (Nat.zero_le _) (Nat.zero_le _)) (dcV okX1_carry rfl) ?_
  have e : fnd id x p = nI q := by unfold fnd; rw [hq, if_pos hf]
  rw [e]
  have hv := le16 hf hp
  refine B.run okX1_carry [] 60 ?_
  constructor
  · intro _
    refine ⟨hv, hv, ?_⟩
    rw [nI_clamp (by omega), hq]
    exact rI rfl
  · intro h
    exact absurd (nI_pos' (n := q) (by omega)) h
/-- the weight of the pieces that lie in x, of the first n -/
def cgI (wt pl : Nat → Int32) (x : Int32) : Nat → Int32
  | 0 => 0
  | n + 1 => if pl n = x then cgI wt pl x n + wt n else cgI wt pl x n
theorem s_weightIn (p : Nat) (hp : p ≤ 16) (nx : Int32) (id wt pl : Nat → Int32) (x : Int32) : Sp 0 0 0 mX1_weightIn [vR 0 0, vI x] [rC 0 (nI p) nx id wt pl] (PoI (cgI wt pl x p) [rC 0 (nI p) nx id wt pl]) := by
  refine Sp.of' false (fun h => by cases h) (by decide) rfl rfl (Nat.le_of_ble_eq_true rfl) fun γ σ B => ?_
  have loop : ∀ (m i : Nat), i + m = p → At γ σ 0 0 4 [(0, vR 0 0), (1, vI x), (2, vI (cgI wt pl x i)), (3, vI (nI i))] [] [rC 0 (nI p) nx id wt pl] := by
    intro m
    induction m with
    | zero =>
      intro i hi
      have hi : i = p := by omega
      subst hi
      refine B.run okX1_weightIn [(4, [0, 1, 2, 3])] 60 ?_
      constructor
      · intro _
        exact rI rfl
      · intro h
        exact absurd (nI_le (Nat.le_refl _) (by omega)) h
    | succ m ih =>
      intro i hi
      have hv := le16 (a := i) (by omega) hp
      have := ih (i + 1) (by omega)
      unfold cgI at this
      refine B.run okX1_weightIn [(4, [0, 1, 2, 3])] 60 ?_
      constructor
      · intro h
        exact absurd h (nI_ge (by omega) (by omega))
      · intro _
        refine ⟨hv, ?_⟩
        rw [nI_clamp (by omega)]
        constructor
        · intro h
          refine ⟨hv, ?_⟩
          rw [if_pos h] at this
          show At γ σ 0 0 4 _ _ _
          rw [nI_1, nI_clamp (by omega)]
          exact this
        · intro h
          rw [if_neg h] at this
          show At γ σ 0 0 4 _ _ _
          rw [nI_1]
          exact this
  refine B.run okX1_weightIn [(4, [0, 1, 2, 3])] 60 ?_
  exact loop p 0 (by omega)
theorem s_ctotal (p : Nat) (hp : p ≤ 16) (nx : Int32) (id wt pl : Nat → Int32) : Sp 0 0 0 mX1_totalWeight [vR 0 0] [rC 0 (nI p) nx id wt pl] (PoI (sumI wt p) [rC 0 (nI p) nx id wt pl]) := by
  refine Sp.of' false (fun h => by cases h) (by decide) rfl rfl (Nat.le_of_ble_eq_true rfl) fun γ σ B => ?_
  have loop : ∀ (m i : Nat), i + m = p → At γ σ 0 0 4 [(0, vR 0 0), (1, vI (sumI wt i)), (2, vI (nI i))] [] [rC 0 (nI p) nx id wt pl] := by
    intro m
    induction m with
    | zero =>
      intro i hi
      have hi : i = p := by omega
      subst hi
      refine B.run okX1_totalWeight [(4, [0, 1, 2])] 60 ?_
      constructor
      · intro _
        exact rI rfl
      · intro h
        exact absurd (nI_le (Nat.le_refl _) (by omega)) h
    | succ m ih =>
      intro i hi
      refine B.run okX1_totalWeight [(4, [0, 1, 2])] 60 ?_
      constructor
      · intro h
        exact absurd h (nI_ge (by omega) (by omega))
      · intro _
        refine ⟨le16 (by omega) hp, ?_⟩
        show At γ σ 0 0 4 _ _ _
        have := ih (i + 1) (by omega)
        rw [nI_clamp (by omega), nI_1]
        exact this
  refine B.run okX1_totalWeight [(4, [0, 1, 2])] 60 ?_
  exact loop p 0 (by omega)
theorem s_ccopy (p1 p2 x1 x2 : Int32) (id wt pl id2 wt2 pl2 : Nat → Int32) : Sp 1 0 0 mX1_copyFrom [vR 0 0, vR 1 0] [rC 0 p1 x1 id wt pl, rC 1 p2 x2 id2 wt2 pl2] (PoV [rC 0 p2 x2 id2 wt2 pl2, rC 1 p2 x2 id2 wt2 pl2]) := by
  refine Sp.of' false (fun h => by cases h) (by decide) rfl rfl (Nat.le_of_ble_eq_true rfl) fun γ σ B => ?_
  have F : Fit γ 0 0 0 0 0 := B.fit (by decide) (Nat.zero_le _) (Nat.zero_le _)
  refine B.run okX1_copyFrom [] 60 ?_
  refine ⟨trivial, trivial, ?_⟩
  refine At.copyi B.1 ac_X1 ac_na ac_st ac_in (r0 := 1) (o0 := 1) (r1 := 0) (o1 := 1) rfl rfl (by decide) (by decide) (by decide) (by decide) (by decide) F (Nat.le_of_ble_eq_true rfl) (dcS okX1_copyFrom rfl) ?_
  refine At.gho 0 1 id2 rfl (fun j hj => cpy0 hj rfl) ?_
  show At γ σ 0 0 31 [(0, vR 0 0), (1, vR 1 0)] [] [rC 0 p2 x2 id2 wt pl, rC 1 p2 x2 id2 wt2 pl2]
  refine B.run okX1_copyFrom [] 60 ?_
  refine At.copyi B.1 ac_X1 ac_na ac_st ac_in (r0 := 1) (o0 := 2) (r1 := 0) (o1 := 2) rfl rfl (by decide) (by decide) (by decide) (by decide) (by decide) F (Nat.le_of_ble_eq_true rfl) (dcS okX1_copyFrom rfl) ?_
  refine At.gho 0 2 wt2 rfl (fun j hj => cpy0 hj rfl) ?_
  show At γ σ 0 0 46 [(0, vR 0 0), (1, vR 1 0)] [] [rC 0 p2 x2 id2 wt2 pl, rC 1 p2 x2 id2 wt2 pl2]
  refine B.run okX1_copyFrom [] 60 ?_
  refine At.copyi B.1 ac_X1 ac_na ac_st ac_in (r0 := 1) (o0 := 3) (r1 := 0) (o1 := 3) rfl rfl (by decide) (by decide) (by decide) (by decide) (by decide) F (Nat.le_of_ble_eq_true rfl) (dcS okX1_copyFrom rfl) ?_
  refine At.gho 0 3 pl2 rfl (fun j hj => cpy0 hj rfl) ?_
  show At γ σ 0 0 61 [(0, vR 0 0), (1, vR 1 0)] [] [rC 0 p2 x2 id2 wt2 pl2, rC 1 p2 x2 id2 wt2 pl2]
  refine B.run okX1_copyFrom [] 60 ?_
  exact rV
