/-! ===== ranks: the compartments by load, the pumps ===== -/
theorem ctB_le2 {p q : Nat → Bool} : ∀ {n : Nat}, (∀ i, i < n → p i = true → q i = true) → ctB p n ≤ ctB q n
  | 0, _ => Nat.le_refl _
  | n + 1, h => by
    have ih := ctB_le2 (p := p) (q := q) (n := n) fun i hi => h i (by omega)
    show ctB p n + (if p n = true then 1 else 0) ≤ ctB q n + (if q n = true then 1 else 0)
    by_cases e : p n = true
    · rw [if_pos e, if_pos (h n (by omega) e)]; omega
    · rw [if_neg e]; omega
theorem ctB_lt2 {p q : Nat → Bool} : ∀ {n : Nat}, (∀ i, i < n → p i = true → q i = true) → (∃ i, i < n ∧ q i = true ∧ ¬ p i = true) → ctB p n < ctB q n
  | 0, _, h => by obtain ⟨i, hi, -⟩ := h; exact absurd hi (Nat.not_lt_zero _)
  | n + 1, h, ⟨i, hi, h1, h2⟩ => by
    show ctB p n + (if p n = true then 1 else 0) < ctB q n + (if q n = true then 1 else 0)
    by_cases e : i = n
    · subst e
      have := ctB_le2 (p := p) (q := q) (n := i) fun j hj => h j (by omega)
      rw [if_neg h2, if_pos h1]; omega
    · have ih := ctB_lt2 (p := p) (q := q) (n := n) (fun j hj => h j (by omega)) ⟨i, by omega, h1, h2⟩
      by_cases e2 : p n = true
      · rw [if_pos e2, if_pos (h n (by omega) e2)]; omega
      · rw [if_neg e2]; omega
theorem ctB_true : ∀ n, ctB (fun _ => true) n = n
  | 0 => rfl
  | n + 1 => by
    show ctB (fun _ => true) n + (if true = true then 1 else 0) = n + 1
    rw [ctB_true n, if_pos rfl]
theorem surj_inj : ∀ (n : Nat) (g : Nat → Nat), (∀ i, i < n → g i < n) → (∀ i j, i < n → j < n → g i = g j → i = j) → ∀ y, y < n → ∃ x, x < n ∧ g x = y
  | 0, _, _, _, y, hy => absurd hy (Nat.not_lt_zero _)
  | n + 1, g, h1, h2, y, hy => by
    have hz : ∀ i, i < n → g i ≠ g n := fun i hi e => by
      have := h2 i n (by omega) (by omega) e
      omega
    have b1 : ∀ i, i < n → (if g i = n then g n else g i) < n := fun i hi => by
      by_cases e : g i = n
      · rw [if_pos e]
        have := hz i hi
        have := h1 n (by omega)
        omega
      · rw [if_neg e]
        have := h1 i (by omega)
        omega
    have b2 : ∀ i j, i < n → j < n → (if g i = n then g n else g i) = (if g j = n then g n else g j) → i = j := fun i j hi hj e => by
      by_cases e1 : g i = n
      · by_cases e2 : g j = n
        · exact h2 i j (by omega) (by omega) (e1.trans e2.symm)
        · rw [if_pos e1, if_neg e2] at e
          exact absurd e.symm (hz j hj)
      · by_cases e2 : g j = n
        · rw [if_neg e1, if_pos e2] at e
          exact absurd e (hz i hi)
        · rw [if_neg e1, if_neg e2] at e
          exact h2 i j (by omega) (by omega) e
    have ih := surj_inj n (fun i => if g i = n then g n else g i) b1 b2
    by_cases ey : y = g n
    · exact ⟨n, by omega, ey.symm⟩
    · by_cases en : y = n
      · have : g n < n := by
          have := h1 n (by omega)
          omega
        obtain ⟨x, hx, e⟩ := ih (g n) this
        by_cases e1 : g x = n
        · exact ⟨x, by omega, by rw [e1, en]⟩
        · have e : (if g x = n then g n else g x) = g n := e
          rw [if_neg e1] at e
          exact absurd e (hz x hx)
      · obtain ⟨x, hx, e⟩ := ih y (by omega)
        have e : (if g x = n then g n else g x) = y := e
        by_cases e1 : g x = n
        · rw [if_pos e1] at e
          exact absurd e.symm ey
        · rw [if_neg e1] at e
          exact ⟨x, by omega, e⟩
/-- the order by load, as numbers -/
theorem sub_lt {x y : Int32} {a b : Int} (hx : bI x 0 a) (hy : bI y 0 b) (ha : a ≤ 100000) (hb : b ≤ 100000) : (0 < x - y ↔ y.toInt < x.toInt) ∧ (x - y = 0 ↔ x.toInt = y.toInt) := by
  have e : (x - y).toInt = x.toInt - y.toInt := by
    rw [Int32.toInt_sub, Int.bmod_eq_of_le (by have := hx.1; have := hy.2; omega) (by have := hx.2; have := hy.1; omega)]
  constructor
  · rw [Int32.lt_iff_toInt_lt, e, show (0 : Int32).toInt = 0 from rfl]
    omega
  · rw [← Int32.toInt_inj, e, show (0 : Int32).toInt = 0 from rfl]
    omega
theorem lb_iff {S : SH} (hV : VB S) (hW : WF S) {i j : Nat} (hi : i < gc S) (hj : j < gc S) : lbB S i j = true ↔ ((ldI S j).toInt < (ldI S i).toInt ∨ ((ldI S i).toInt = (ldI S j).toInt ∧ ((gw S j).toInt < (gw S i).toInt ∨ ((gw S i).toInt = (gw S j).toInt ∧ i < j)))) := by
  obtain ⟨l1, l2⟩ := sub_lt (hV.ld hW hi) (hV.ld hW hj) (by decide) (by decide)
  obtain ⟨w1, w2⟩ := sub_lt (hV.1 i hi).2.2.1 (hV.1 j hj).2.2.1 (by decide) (by decide)
  unfold lbB
  rw [Bool.or_eq_true, Bool.and_eq_true, decide_eq_true_iff, decide_eq_true_iff, decide_eq_true_iff]
  by_cases e : ldI S i - ldI S j = 0
  · rw [if_pos e, w1, w2]
    have e := l2.mp e
    omega
  · rw [if_neg e, l1]
    have e2 : ¬ (ldI S i).toInt = (ldI S j).toInt := fun z => e (l2.mpr z)
    constructor
    · rintro (h | h)
      · exact Or.inl h
      · exact absurd h.1 e
    · rintro (h | h)
      · exact Or.inl h
      · exact absurd h.1 e2
abbrev rkL (S : SH) (i : Nat) : Nat := ctB (fun k => lbB S k i) (gc S)
theorem rkL_lt {S : SH} (hV : VB S) (hW : WF S) {i j : Nat} (hi : i < gc S) (hj : j < gc S) (h : lbB S i j = true) : rkL S i < rkL S j := by
  refine ctB_lt2 (fun k hk e => ?_) ⟨i, hi, h, fun e => ?_⟩
  · rw [lb_iff hV hW hk hi] at e
    rw [lb_iff hV hW hi hj] at h
    rw [lb_iff hV hW hk hj]
    omega
  · rw [lb_iff hV hW hi hi] at e
    omega
theorem rkL_b {S : SH} (hV : VB S) (hW : WF S) {i : Nat} (hi : i < gc S) : rkL S i < gc S := by
  have := ctB_lt2 (p := fun k => lbB S k i) (q := fun _ => true) (n := gc S) (fun _ _ _ => rfl) ⟨i, hi, rfl, fun e => by
    rw [lb_iff hV hW hi hi] at e
    omega⟩
  rw [ctB_true] at this
  exact this
theorem rkL_tot {S : SH} (hV : VB S) (hW : WF S) {i j : Nat} (hi : i < gc S) (hj : j < gc S) (h : rkL S i < rkL S j) : lbB S i j = true := by
  rcases Nat.lt_trichotomy i j with z | z | z
  · rcases Bool.eq_false_or_eq_true (lbB S i j) with e | e
    · exact e
    · have : lbB S j i = true := by
        rw [lb_iff hV hW hj hi]
        have e : ¬ lbB S i j = true := by rw [e]; decide
        rw [lb_iff hV hW hi hj] at e
        omega
      have := rkL_lt hV hW hj hi this
      omega
  · subst z; omega
  · rcases Bool.eq_false_or_eq_true (lbB S i j) with e | e
    · exact e
    · have : lbB S j i = true := by
        rw [lb_iff hV hW hj hi]
        have e : ¬ lbB S i j = true := by rw [e]; decide
        rw [lb_iff hV hW hi hj] at e
        omega
      have := rkL_lt hV hW hj hi this
      omega
/-- the compartment at a rank -/
theorem lAt_in {S : SH} (hV : VB S) (hW : WF S) {k : Nat} (hk : k < gc S) : fst (lAt S (nI k)) (gc S) < gc S ∧ rkL S (fst (lAt S (nI k)) (gc S)) = k := by
  have h8 := hW.1
  obtain ⟨x, hx, e⟩ := surj_inj (gc S) (rkL S) (fun i hi => rkL_b hV hW hi) (fun i j hi hj e => by
    rcases Nat.lt_trichotomy i j with z | z | z
    · by_cases w : lbB S i j = true
      · have := rkL_lt hV hW hi hj w
        omega
      · have : lbB S j i = true := by
          rw [lb_iff hV hW hj hi]
          rw [lb_iff hV hW hi hj] at w
          omega
        have := rkL_lt hV hW hj hi this
        omega
    · exact z
    · by_cases w : lbB S i j = true
      · have := rkL_lt hV hW hi hj w
        omega
      · have : lbB S j i = true := by
          rw [lb_iff hV hW hj hi]
          rw [lb_iff hV hW hi hj] at w
          omega
        have := rkL_lt hV hW hj hi this
        omega) k hk
  have h1 : fst (lAt S (nI k)) (gc S) < gc S := fst_ex.mpr ⟨x, hx, decide_eq_true (by rw [show ctB (fun k => lbB S k x) (gc S) = k from e])⟩
  refine ⟨h1, ?_⟩
  have z := of_decide_eq_true (fst_yes h1)
  have := rkL_b hV hW h1
  exact (nI_eq (by omega) (by omega)).mp z
theorem lAt_out {S : SH} (hV : VB S) (hW : WF S) : fFst (lAt S (nI (gc S))) (gc S) = 4 := by
  have h8 := hW.1
  unfold fFst
  rw [if_neg]
  intro h
  have z := of_decide_eq_true (fst_yes h)
  have := rkL_b hV hW h
  have := (nI_eq (a := rkL S (fst (lAt S (nI (gc S))) (gc S))) (b := gc S) (by omega) (by omega)).mp z
  omega
/-! the pumps -/
abbrev rkP (S : SH) (i : Nat) : Nat := rkN (gu S) (gw S) i (gc S)
theorem rkP_le (S : SH) (i : Nat) : rkP S i ≤ gc S := ctB_le _ _
theorem rkP_lt {S : SH} {i j : Nat} (hi : i < gc S) (h : pbB (gw S) i j = true) (ci : cpB (gu S) (gw S) i = true) : rkP S i < rkP S j := by
  have key : ∀ a b : Nat, pbB (gw S) a b = true ↔ ((gw S b).toInt < (gw S a).toInt ∨ ((gw S a).toInt = (gw S b).toInt ∧ a < b)) := fun a b => by
    unfold pbB
    rw [Bool.or_eq_true, Bool.and_eq_true, decide_eq_true_iff, decide_eq_true_iff, decide_eq_true_iff, Int32.lt_iff_toInt_lt, ← Int32.toInt_inj]
  refine ctB_lt2 (fun k hk e => ?_) ⟨i, hi, ?_, fun e => ?_⟩
  · rw [Bool.and_eq_true] at e ⊢
    refine ⟨e.1, ?_⟩
    have e2 := e.2
    rw [key] at e2 h ⊢
    omega
  · rw [ci, h]; rfl
  · rw [Bool.and_eq_true] at e
    have e2 := e.2
    rw [key] at e2
    omega
/-- the pump at a rank -/
theorem pAt_in {S : SH} (hW : WF S) {k : Nat} (hk : k ≤ gc S) (h : fst (pAt S (nI k)) (gc S) < gc S) : cpB (gu S) (gw S) (fst (pAt S (nI k)) (gc S)) = true ∧ rkP S (fst (pAt S (nI k)) (gc S)) = k := by
  have h8 := hW.1
  have z := fst_yes h
  unfold pAt at z
  rw [Bool.and_eq_true] at z
  refine ⟨z.1, ?_⟩
  exact (nI_eq (Nat.lt_of_le_of_lt (rkP_le S _) (by omega)) (by omega)).mp (of_decide_eq_true z.2)
theorem pAt_bef {S : SH} {i j : Nat} (hj : j < gc S) (cj : cpB (gu S) (gw S) j = true) (h : rkP S i < rkP S j) (hij : ¬ i = j) : (gw S j).toInt < (gw S i).toInt ∨ ((gw S i).toInt = (gw S j).toInt ∧ i < j) := by
  by_cases w : pbB (gw S) j i = true
  · have := rkP_lt hj w cj
    omega
  · unfold pbB at w
    rw [Bool.or_eq_true, Bool.and_eq_true, decide_eq_true_iff, decide_eq_true_iff, decide_eq_true_iff, Int32.lt_iff_toInt_lt, ← Int32.toInt_inj] at w
    omega
theorem rkP_end {S : SH} {i : Nat} (hi : i < gc S) (ci : cpB (gu S) (gw S) i = true) : rkP S i < gc S := by
  have := ctB_lt2 (p := fun k => cpB (gu S) (gw S) k && pbB (gw S) k i) (q := fun _ => true) (n := gc S) (fun _ _ _ => rfl) ⟨i, hi, rfl, fun e => by
    rw [Bool.and_eq_true] at e
    have e2 := e.2
    unfold pbB at e2
    rw [Bool.or_eq_true, Bool.and_eq_true, decide_eq_true_iff, decide_eq_true_iff, decide_eq_true_iff, Int32.lt_iff_toInt_lt] at e2
    omega⟩
  rw [ctB_true] at this
  exact this
