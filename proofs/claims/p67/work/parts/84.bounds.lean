/-! ===== bounds of the values ===== -/
def bI (x : Int32) (a b : Int) : Prop := a ≤ x.toInt ∧ x.toInt ≤ b
theorem bI.mono {x : Int32} {a b c d : Int} (h : bI x a b) (h1 : c ≤ a) (h2 : b ≤ d) : bI x c d := ⟨Int.le_trans h1 h.1, Int.le_trans h.2 h2⟩
theorem bI.add {x y : Int32} {a b c d : Int} (hx : bI x a b) (hy : bI y c d) (h1 : -2147483648 ≤ a + c) (h2 : b + d ≤ 2147483647) : bI (x + y) (a + c) (b + d) := by
  obtain ⟨x1, x2⟩ := hx
  obtain ⟨y1, y2⟩ := hy
  have e : (x + y).toInt = x.toInt + y.toInt := by rw [Int32.toInt_add, Int.bmod_eq_of_le (by omega) (by omega)]
  unfold bI
  omega
theorem bI.sub {x y : Int32} {a b c d : Int} (hx : bI x a b) (hy : bI y c d) (h1 : -2147483648 ≤ a - d) (h2 : b - c ≤ 2147483647) : bI (x - y) (a - d) (b - c) := by
  obtain ⟨x1, x2⟩ := hx
  obtain ⟨y1, y2⟩ := hy
  have e : (x - y).toInt = x.toInt - y.toInt := by rw [Int32.toInt_sub, Int.bmod_eq_of_le (by omega) (by omega)]
  unfold bI
  omega
theorem bI.mul9 {x y : Int32} {X : Int} (hx : bI x 0 X) (hy : bI y (-9) 9) (hX : X ≤ 100000000) : bI (x * y) (-(X * 9)) (X * 9) := by
  obtain ⟨x1, x2⟩ := hx
  obtain ⟨y1, y2⟩ := hy
  have m1 : x.toInt * y.toInt ≤ x.toInt * 9 := Int.mul_le_mul_of_nonneg_left y2 x1
  have m2 : x.toInt * (-9) ≤ x.toInt * y.toInt := Int.mul_le_mul_of_nonneg_left y1 x1
  have e : (x * y).toInt = x.toInt * y.toInt := by rw [Int32.toInt_mul, Int.bmod_eq_of_le (by omega) (by omega)]
  unfold bI
  omega
theorem bI_n {n : Nat} (h : n < 2147483648) : bI (nI n) n n := by
  unfold bI
  rw [nI_toInt h]
  omega
theorem bI.nat {x : Int32} {b : Int} (h : bI x 0 b) : ∃ n : Nat, (n : Int) ≤ b ∧ x = nI n := by
  have h0 : ¬ x < 0 := by
    rw [Int32.lt_iff_toInt_lt]
    have := h.1
    show ¬ x.toInt < 0
    omega
  obtain ⟨n, hn, e⟩ := nI_of h0
  refine ⟨n, ?_, e⟩
  have := h.2
  rw [e, nI_toInt hn] at this
  exact this
theorem bI.abs {x : Int32} {A : Nat} (h : bI x (-(A : Int)) A) (hA : A < 1073741824) : ∃ M : Nat, M ≤ A ∧ absI x = nI M := by
  unfold absI
  by_cases q : 0 ≤ x
  · rw [if_pos q]
    rw [Int32.le_iff_toInt_le] at q
    have q : 0 ≤ x.toInt := q
    obtain ⟨n, hn, e⟩ := bI.nat (x := x) (b := A) ⟨q, h.2⟩
    exact ⟨n, by omega, e⟩
  · rw [if_neg q]
    have q : ¬ 0 ≤ x.toInt := fun w => q (Int32.le_iff_toInt_le.mpr w)
    have z := bI.sub (x := 0) (y := x) (a := 0) (b := 0) ⟨by decide, by decide⟩ h (by omega) (by omega)
    have e : (0 - x).toInt = 0 - x.toInt := by
      have h1 := h.1
      rw [Int32.toInt_sub]
      show ((0 : Int) - x.toInt).bmod (2 ^ 32) = _
      rw [Int.bmod_eq_of_le (by omega) (by omega)]
    obtain ⟨n, hn, e2⟩ := bI.nat (x := 0 - x) (b := A) ⟨by omega, by have := z.2; omega⟩
    exact ⟨n, by omega, e2⟩
theorem bI_le {x y : Int32} (h : x ≤ y) : x.toInt ≤ y.toInt := Int32.le_iff_toInt_le.mp h
theorem bI_lt {x y : Int32} (h : x < y) : x.toInt < y.toInt := Int32.lt_iff_toInt_lt.mp h
theorem bI_wi {x : Int32} {a b : Int32} (h : wiB x a b = true) : bI x a.toInt b.toInt := by
  unfold wiB at h
  simp only [Bool.and_eq_true, decide_eq_true_eq] at h
  exact ⟨bI_le h.1, bI_le h.2⟩
theorem bI_sum_a {f : FI} : ∀ n : Nat, n ≤ 16 → (∀ i, i < n → bI (f i) (0) 1000) → bI (sumI f n) ((n : Int) * (0)) ((n : Int) * 1000)
  | 0, _, _ => by
    show bI 0 _ _
    exact ⟨by decide, by decide⟩
  | n + 1, hn, h => by
    have z := bI.add (bI_sum_a (f := f) n (by omega) (fun i hi => h i (by omega))) (h n (by omega)) (by omega) (by omega)
    exact z.mono (by omega) (by omega)
theorem bI_sum_b {f : FI} : ∀ n : Nat, n ≤ 16 → (∀ i, i < n → bI (f i) (-9000) 9000) → bI (sumI f n) ((n : Int) * (-9000)) ((n : Int) * 9000)
  | 0, _, _ => by
    show bI 0 _ _
    exact ⟨by decide, by decide⟩
  | n + 1, hn, h => by
    have z := bI.add (bI_sum_b (f := f) n (by omega) (fun i hi => h i (by omega))) (h n (by omega)) (by omega) (by omega)
    exact z.mono (by omega) (by omega)
theorem bI_sum_c {f : FI} : ∀ n : Nat, n ≤ 16 → (∀ i, i < n → bI (f i) (0) 200) → bI (sumI f n) ((n : Int) * (0)) ((n : Int) * 200)
  | 0, _, _ => by
    show bI 0 _ _
    exact ⟨by decide, by decide⟩
  | n + 1, hn, h => by
    have z := bI.add (bI_sum_c (f := f) n (by omega) (fun i hi => h i (by omega))) (h n (by omega)) (by omega) (by omega)
    exact z.mono (by omega) (by omega)
theorem bI_sum_d {f : FI} : ∀ n : Nat, n ≤ 16 → (∀ i, i < n → bI (f i) (0) 50) → bI (sumI f n) ((n : Int) * (0)) ((n : Int) * 50)
  | 0, _, _ => by
    show bI 0 _ _
    exact ⟨by decide, by decide⟩
  | n + 1, hn, h => by
    have z := bI.add (bI_sum_d (f := f) n (by omega) (fun i hi => h i (by omega))) (h n (by omega)) (by omega) (by omega)
    exact z.mono (by omega) (by omega)
theorem bI_sum_e {f : FI} : ∀ n : Nat, n ≤ 16 → (∀ i, i < n → bI (f i) (0) 20) → bI (sumI f n) ((n : Int) * (0)) ((n : Int) * 20)
  | 0, _, _ => by
    show bI 0 _ _
    exact ⟨by decide, by decide⟩
  | n + 1, hn, h => by
    have z := bI.add (bI_sum_e (f := f) n (by omega) (fun i hi => h i (by omega))) (h n (by omega)) (by omega) (by omega)
    exact z.mono (by omega) (by omega)
theorem bI_sum_f {f : FI} : ∀ n : Nat, n ≤ 16 → (∀ i, i < n → bI (f i) (-450) 450) → bI (sumI f n) ((n : Int) * (-450)) ((n : Int) * 450)
  | 0, _, _ => by
    show bI 0 _ _
    exact ⟨by decide, by decide⟩
  | n + 1, hn, h => by
    have z := bI.add (bI_sum_f (f := f) n (by omega) (fun i hi => h i (by omega))) (h n (by omega)) (by omega) (by omega)
    exact z.mono (by omega) (by omega)
theorem bI_cg {wt pl : FI} {x : Int32} : ∀ n : Nat, n ≤ 16 → (∀ i, i < n → bI (wt i) 0 50) → bI (cgI wt pl x n) 0 ((n : Int) * 50)
  | 0, _, _ => by
    show bI 0 _ _
    exact ⟨by decide, by decide⟩
  | n + 1, hn, h => by
    unfold cgI
    have z := bI_cg (pl := pl) (x := x) n (by omega) (fun i hi => h i (by omega))
    split
    · exact (bI.add z (h n (by omega)) (by omega) (by omega)).mono (by omega) (by omega)
    · exact z.mono (by omega) (by omega)
/-- a ship whose values keep the document's bounds -/
def VB (S : SH) : Prop := (∀ i, i < gc S → bI (gar S i) (-9) 9 ∧ bI (gcp S i) 10 200 ∧ bI (gw S i) 0 200 ∧ gw S i ≤ gcp S i ∧ bI (gl S i) 0 20 ∧ bI (gu S i) 0 20) ∧ (∀ k, k < gp S → bI (gwt S k) 1 50) ∧ bI (gpw S) 0 8 ∧ bI (glm S) 1 9
theorem VB.ld {S : SH} (h : VB S) (hS : WF S) {i : Nat} (hi : i < gc S) : bI (ldI S i) 0 1000 := by
  have h1 := (h.1 i hi).2.2.1
  have h2 := bI_cg (wt := gwt S) (pl := gpl S) (x := nI i) (gp S) hS.2.1 (fun k hk => (h.2.1 k hk).mono (by omega) (by omega))
  have hp := hS.2.1
  exact (bI.add h1 h2 (by omega) (by omega)).mono (by omega) (by omega)
theorem VB.tw {S : SH} (h : VB S) (hS : WF S) : bI (twI S) 0 8000 := by
  have hc := hS.1
  exact (bI_sum_a (f := ldI S) (gc S) (by omega) (fun i hi => h.ld hS hi)).mono (by omega) (by omega)
theorem VB.tm {S : SH} (h : VB S) (hS : WF S) : bI (tmI S) (-72000) 72000 := by
  have hc := hS.1
  exact (bI_sum_b (f := fun i => ldI S i * gar S i) (gc S) (by omega) (fun i hi => (bI.mul9 (h.ld hS hi) (h.1 i hi).1 (by omega)).mono (by omega) (by omega))).mono (by omega) (by omega)
theorem VB.w100 {S : SH} (h : VB S) (hS : WF S) : ¬ twI S + 100 = 0 ∧ ¬ twI S + 100 ≤ 0 := by
  have z := bI.add (h.tw hS) (show bI 100 100 100 from ⟨by decide, by decide⟩) (by omega) (by omega)
  constructor
  · intro e
    have := z.1
    rw [e] at this
    exact absurd this (by decide)
  · intro e
    have := bI_le e
    have := z.1
    show False
    rw [show (0 : Int32).toInt = 0 from rfl] at *
    omega
theorem VB.trim {S : SH} (h : VB S) (hS : WF S) (x : Int32) : trimI x (twI S) = x / (twI S + 100) := by
  unfold trimI
  rw [if_neg (h.w100 hS).2]
/-- a transfer that is possible keeps them -/
theorem VB.mov {S : SH} (h : VB S) (hS : WF S) {s t : Nat} {a : Int32} (hs : s < gc S) (ht : t < gc S) (ha : bI a 1 200) (hm : mvI (gcp S) (gw S) (nI s) (nI t) a = true) : VB (eMovN S s t a) := by
  have hc := hS.1
  unfold mvI at hm
  rw [nI_clamp (by omega), nI_clamp (by omega)] at hm
  simp only [Bool.and_eq_true, Bool.not_eq_true', decide_eq_false_iff_not, decide_eq_true_eq] at hm
  obtain ⟨m1, m2, m3⟩ := hm
  have hst : s ≠ t := fun e => m1 (by rw [e])
  refine ⟨fun i hi => ?_, h.2.1, h.2.2.1, h.2.2.2⟩
  have hi : i < gc S := hi
  obtain ⟨b1, b2, b3, b4, b5, b6⟩ := h.1 i hi
  refine ⟨b1, b2, ?_, ?_, b5, b6⟩
  · show bI (upd (upd (gw S) s (gw S s - a)) t (upd (gw S) s (gw S s - a) t + a) i) 0 200
    by_cases e : i = t
    · subst e
      rw [upd_eq, upd_ne _ _ (Ne.symm hst)]
      have z := bI.add b3 ha (by omega) (by omega)
      have z2 := bI_le m3
      have z3 := b2.2
      exact ⟨by have := z.1; omega, by omega⟩
    · rw [upd_ne _ _ e]
      by_cases e2 : i = s
      · subst e2
        rw [upd_eq]
        have z2 := bI_le m2
        have z := bI.sub b3 ha (by omega) (by omega)
        have e3 : (gw S i - a).toInt = (gw S i).toInt - a.toInt := by
          have := b3.1
          have := b3.2
          have := ha.1
          have := ha.2
          rw [Int32.toInt_sub, Int.bmod_eq_of_le (by omega) (by omega)]
        exact ⟨by omega, by have := z.2; omega⟩
      · rw [upd_ne _ _ e2]
        exact b3
  · show upd (upd (gw S) s (gw S s - a)) t (upd (gw S) s (gw S s - a) t + a) i ≤ gcp S i
    by_cases e : i = t
    · subst e
      rw [upd_eq, upd_ne _ _ (Ne.symm hst)]
      exact m3
    · rw [upd_ne _ _ e]
      by_cases e2 : i = s
      · subst e2
        rw [upd_eq]
        have e3 : (gw S i - a).toInt = (gw S i).toInt - a.toInt := by
          have := b3.1
          have := b3.2
          have := ha.1
          have := ha.2
          rw [Int32.toInt_sub, Int.bmod_eq_of_le (by omega) (by omega)]
        refine Int32.le_iff_toInt_le.mpr ?_
        have := bI_le b4
        have := ha.1
        omega
      · rw [upd_ne _ _ e2]
        exact b4
