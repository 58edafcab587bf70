/-! ===== storms: sorted in the class, in the order of scheduling in the model ===== -/
def injN (n : Nat) (a : FI) : Prop := ∀ i j, i < n → j < n → a i = a j → i = j
def PM (n : Nat) (a b a' b' : FI) : Prop := injN n a ∧ injN n a' ∧ (∀ i, i < n → ∃ j, j < n ∧ a' j = a i ∧ b' j = b i) ∧ ∀ j, j < n → ∃ i, i < n ∧ a i = a' j ∧ b i = b' j
theorem PM.symm {n : Nat} {a b a' b' : FI} (h : PM n a b a' b') : PM n a' b' a b := ⟨h.2.1, h.1, h.2.2.2, h.2.2.1⟩
theorem PM_0 (a b a' b' : FI) : PM 0 a b a' b' := ⟨fun i j hi => absurd hi (Nat.not_lt_zero _), fun i j hi => absurd hi (Nat.not_lt_zero _), fun i hi => absurd hi (Nat.not_lt_zero _), fun i hi => absurd hi (Nat.not_lt_zero _)⟩
def skN (q i : Nat) : Nat := if q ≤ i then i + 1 else i
theorem shl_sk (f : FI) (q n i : Nat) (hi : i < n) : shl f q n i = f (skN q i) := by
  unfold shl skN
  by_cases e : q ≤ i
  · rw [if_pos ⟨e, hi⟩, if_pos e]
  · rw [if_neg (fun w => e w.1), if_neg e]
theorem sk_lt {q n i : Nat} (hi : i < n) : skN q i < n + 1 := by unfold skN; split <;> omega
theorem sk_ne (q i : Nat) : skN q i ≠ q := by unfold skN; split <;> omega
theorem sk_mono {q i j : Nat} (h : i < j) : skN q i < skN q j := by unfold skN; split <;> split <;> omega
theorem sk_inj {q i j : Nat} (h : skN q i = skN q j) : i = j := by
  rcases Nat.lt_trichotomy i j with w | w | w
  · have := sk_mono (q := q) w; omega
  · exact w
  · have := sk_mono (q := q) w; omega
theorem sk_at {q n j : Nat} (hq : q < n + 1) (hj : j < n + 1) (h : j ≠ q) : ∃ i, i < n ∧ skN q i = j := by
  by_cases e : j < q
  · exact ⟨j, by omega, by unfold skN; rw [if_neg (by omega)]⟩
  · exact ⟨j - 1, by omega, by unfold skN; rw [if_pos (by omega)]; omega⟩
theorem injN_shl {n q : Nat} {a : FI} (h : injN (n + 1) a) : injN n (shl a q n) := fun i j hi hj e => by
  rw [shl_sk a q n i hi, shl_sk a q n j hj] at e
  exact sk_inj (h _ _ (sk_lt hi) (sk_lt hj) e)
theorem PM_rem1 {n q q' : Nat} {a b a' b' : FI} (h : PM (n + 1) a b a' b') (hq : q < n + 1) (hq' : q' < n + 1) (e : a q = a' q') : ∀ i, i < n → ∃ j, j < n ∧ shl a' q' n j = shl a q n i ∧ shl b' q' n j = shl b q n i := by
  intro i hi
  obtain ⟨j, hj, e1, e2⟩ := h.2.2.1 _ (sk_lt (q := q) hi)
  have ne : j ≠ q' := by
    intro w
    subst w
    exact sk_ne q i (h.1 _ _ (sk_lt hi) hq (by rw [← e1, e]))
  obtain ⟨k, hk, ek⟩ := sk_at hq' hj ne
  refine ⟨k, hk, ?_, ?_⟩
  · rw [shl_sk _ _ _ _ hk, shl_sk _ _ _ _ hi, ek, e1]
  · rw [shl_sk _ _ _ _ hk, shl_sk _ _ _ _ hi, ek, e2]
theorem PM_rem {n q q' : Nat} {a b a' b' : FI} (h : PM (n + 1) a b a' b') (hq : q < n + 1) (hq' : q' < n + 1) (e : a q = a' q') : PM n (shl a q n) (shl b q n) (shl a' q' n) (shl b' q' n) :=
  ⟨injN_shl h.1, injN_shl h.2.1, PM_rem1 h hq hq' e, PM_rem1 h.symm hq' hq e.symm⟩
/-- an insertion at p -/
abbrev ins (f : FI) (p n : Nat) (x : Int32) : FI := upd (shr f p n) p x
theorem ins_p (f : FI) (p n : Nat) (x : Int32) : ins f p n x p = x := upd_eq _ _ _
theorem ins_sk (f : FI) {p n k : Nat} (x : Int32) (hk : k < n) : ins f p n x (skN p k) = f k := by
  rw [show ins f p n x = upd (shr f p n) p x from rfl, upd_ne _ _ (sk_ne p k)]
  unfold skN shr
  by_cases e : p ≤ k
  · rw [if_pos e, if_pos (by omega)]
    rfl
  · rw [if_neg e, if_neg (by omega)]
theorem injN_ins {n p : Nat} {a : FI} {x : Int32} (h : injN n a) (hp : p < n + 1) (hx : ∀ i, i < n → a i ≠ x) : injN (n + 1) (ins a p n x) := fun i j hi hj e => by
  by_cases ei : i = p
  · by_cases ej : j = p
    · omega
    · obtain ⟨k, hk, rfl⟩ := sk_at hp hj ej
      rw [ei, ins_p, ins_sk a x hk] at e
      exact absurd e.symm (hx k hk)
  · obtain ⟨k, hk, rfl⟩ := sk_at hp hi ei
    by_cases ej : j = p
    · rw [ej, ins_p, ins_sk a x hk] at e
      exact absurd e (hx k hk)
    · obtain ⟨l, hl, rfl⟩ := sk_at hp hj ej
      rw [ins_sk a x hk, ins_sk a x hl] at e
      rw [h _ _ hk hl e]
theorem PM_add1 {n p p' : Nat} {a b a' b' : FI} {x y : Int32} (h : PM n a b a' b') (hp : p < n + 1) (hp' : p' < n + 1) : ∀ i, i < n + 1 → ∃ j, j < n + 1 ∧ ins a' p' n x j = ins a p n x i ∧ ins b' p' n y j = ins b p n y i := by
  intro i hi
  by_cases ei : i = p
  · exact ⟨p', hp', by rw [ei, ins_p, ins_p], by rw [ei, ins_p, ins_p]⟩
  · obtain ⟨k, hk, rfl⟩ := sk_at hp hi ei
    obtain ⟨j, hj, e1, e2⟩ := h.2.2.1 k hk
    exact ⟨skN p' j, sk_lt hj, by rw [ins_sk a' x hj, ins_sk a x hk, e1], by rw [ins_sk b' y hj, ins_sk b y hk, e2]⟩
theorem PM_add {n p p' : Nat} {a b a' b' : FI} {x y : Int32} (h : PM n a b a' b') (hp : p < n + 1) (hp' : p' < n + 1) (hx : ∀ i, i < n → a i ≠ x) : PM (n + 1) (ins a p n x) (ins b p n y) (ins a' p' n x) (ins b' p' n y) := by
  have hx' : ∀ i, i < n → a' i ≠ x := fun i hi w => by
    obtain ⟨j, hj, e, -⟩ := h.2.2.2 i hi
    exact hx j hj (by rw [e, w])
  exact ⟨injN_ins h.1 hp hx, injN_ins h.2.1 hp' hx', PM_add1 h hp hp', PM_add1 h.symm hp' hp⟩
theorem ins_last (f : FI) (n : Nat) (x : Int32) : ins f n n x = upd f n x := by
  show upd (shr f n n) n x = _
  rw [shr_0]
/-- what is looked up -/
theorem fst_ex {p : Nat → Bool} {n : Nat} : fst p n < n ↔ ∃ i, i < n ∧ p i = true := by
  constructor
  · exact fun h => ⟨_, h, fst_yes h⟩
  · rintro ⟨i, hi, e⟩
    rcases Nat.lt_or_ge (fst p n) n with w | w
    · exact w
    · have := fst_no (p := p) (n := n) (k := i) (by omega)
      rw [e] at this
      cases this
theorem eqB_yes {f : FI} {x : Int32} {k : Nat} (h : eqB f x k = true) : f k = x := of_decide_eq_true h
theorem PM.has {n : Nat} {a b a' b' : FI} (h : PM n a b a' b') (x : Int32) : fst (eqB a' x) n < n ↔ fst (eqB a x) n < n := by
  rw [fst_ex, fst_ex]
  constructor
  · rintro ⟨i, hi, e⟩
    obtain ⟨j, hj, e1, -⟩ := h.2.2.2 i hi
    exact ⟨j, hj, decide_eq_true (by rw [e1, eqB_yes e])⟩
  · rintro ⟨i, hi, e⟩
    obtain ⟨j, hj, e1, -⟩ := h.2.2.1 i hi
    exact ⟨j, hj, decide_eq_true (by rw [e1, eqB_yes e])⟩
theorem fst_val {f : FI} {x : Int32} {n : Nat} (h : fst (eqB f x) n < n) : f (fst (eqB f x) n) = x := eqB_yes (fst_yes h)
theorem PM.str {n : Nat} {a b a' b' : FI} (h : PM n a b a' b') {x : Int32} (hx : fst (eqB a x) n < n) : b' (fst (eqB a' x) n) = b (fst (eqB a x) n) := by
  have hx' := (h.has x).mpr hx
  obtain ⟨j, hj, e1, e2⟩ := h.2.2.1 _ hx
  have : j = fst (eqB a' x) n := h.2.1 _ _ hj hx' (by rw [e1, fst_val hx, fst_val hx'])
  rw [← this, e2]
/-- counts -/
theorem ctB_cg {p q : Nat → Bool} : ∀ {n : Nat}, (∀ i, i < n → p i = q i) → ctB p n = ctB q n
  | 0, _ => rfl
  | n + 1, h => by
    show ctB p n + (if p n = true then 1 else 0) = ctB q n + (if q n = true then 1 else 0)
    rw [ctB_cg fun i hi => h i (by omega), h n (by omega)]
theorem ct_shl (P : Int32 → Bool) (a : FI) (q : Nat) : ∀ n, q ≤ n → ctB (fun i => P (a i)) (n + 1) = ctB (fun i => P (shl a q n i)) n + (if P (a q) = true then 1 else 0)
  | 0, h => by
    have : q = 0 := by omega
    subst this
    rfl
  | n + 1, h => by
    by_cases e : q = n + 1
    · subst e
      rw [shl_0]
      rfl
    · have ih := ct_shl P a q n (by omega)
      have e1 : ctB (fun i => P (shl a q (n + 1) i)) n = ctB (fun i => P (shl a q n i)) n := ctB_cg fun i hi => by
        rw [shl_sk a q (n + 1) i (by omega), shl_sk a q n i hi]
      have e2 : shl a q (n + 1) n = a (n + 1) := by
        rw [shl_sk a q (n + 1) n (by omega)]
        unfold skN
        rw [if_pos (by omega)]
      show ctB (fun i => P (a i)) (n + 1) + (if P (a (n + 1)) = true then 1 else 0) = ctB (fun i => P (shl a q (n + 1) i)) n + (if P (shl a q (n + 1) n) = true then 1 else 0) + _
      rw [ih, e1, e2]
      omega
theorem PM.ct (P : Int32 → Bool) : ∀ {n : Nat} {a b a' b' : FI}, PM n a b a' b' → ctB (fun i => P (a i)) n = ctB (fun i => P (a' i)) n
  | 0, _, _, _, _, _ => rfl
  | n + 1, a, b, a', b', h => by
    obtain ⟨q, hq, e, -⟩ := h.2.2.2 n (by omega)
    have h2 := PM_rem h hq (Nat.lt_succ_self n) e
    rw [shl_0, shl_0] at h2
    rw [ct_shl P a q n (by omega), PM.ct P h2, e]
    rfl
/-- sorted -/
def SO (n : Nat) (a : FI) : Prop := ∀ i j, i < j → j < n → (a i).toInt < (a j).toInt
theorem SO_shl {n q : Nat} {a : FI} (h : SO (n + 1) a) : SO n (shl a q n) := fun i j hij hj => by
  rw [shl_sk a q n i (by omega), shl_sk a q n j hj]
  exact h _ _ (sk_mono hij) (sk_lt hj)
theorem insP_hi {a : FI} {x : Int32} : ∀ {n i : Nat}, insP a x n ≤ i → i < n → x < a i
  | 0, _, _, h => absurd h (Nat.not_lt_zero _)
  | n + 1, i, h, hi => by
    unfold insP at h
    split at h
    · rename_i w
      by_cases e : i = n
      · rw [e]; exact w
      · exact insP_hi h (by omega)
    · omega
theorem insP_lo {a : FI} {x : Int32} : ∀ {n : Nat}, 0 < insP a x n → ¬ x < a (insP a x n - 1)
  | 0, h => absurd h (Nat.lt_irrefl 0)
  | n + 1, h => by
    unfold insP at h ⊢
    split
    · rename_i w
      rw [if_pos w] at h
      exact insP_lo h
    · rename_i w
      exact w
theorem SO_ins {n : Nat} {a : FI} {x : Int32} (h : SO n a) (hx : ∀ i, i < n → a i ≠ x) : SO (n + 1) (ins a (insP a x n) n x) := by
  have hp := insP_le a x n
  have hi := fun i => insP_hi (a := a) (x := x) (n := n) (i := i)
  have hl := insP_lo (a := a) (x := x) (n := n)
  generalize insP a x n = p at hp hi hl
  have lo : ∀ i, i < p → (a i).toInt < x.toInt := fun i hi => by
    have h1 := hl (by omega)
    have h2 : (a (p - 1)).toInt ≤ x.toInt := Int32.le_iff_toInt_le.mp (Int32.not_lt.mp h1)
    by_cases e : i = p - 1
    · have h3 := hx i (by omega)
      rw [← e] at h2
      have : (a i).toInt ≠ x.toInt := fun w => h3 (Int32.toInt_inj.mp w)
      omega
    · have := h i (p - 1) (by omega) (by omega)
      omega
  intro i j hij hj
  by_cases ei : i = p
  · obtain ⟨k, hk, rfl⟩ := sk_at (q := p) (by omega) hj (by omega)
    rw [ei, ins_p, ins_sk a x hk]
    have : p ≤ k := by
      unfold skN at hij
      split at hij <;> omega
    exact bI_lt (hi k this hk)
  · obtain ⟨k, hk, rfl⟩ := sk_at (q := p) (by omega) (show i < n + 1 by omega) ei
    rw [ins_sk a x hk]
    by_cases ej : j = p
    · rw [ej, ins_p]
      refine lo k ?_
      unfold skN at hij
      split at hij <;> omega
    · obtain ⟨l, hl, rfl⟩ := sk_at (q := p) (by omega) hj ej
      rw [ins_sk a x hl]
      refine h k l ?_ hl
      rcases Nat.lt_or_ge k l with w | w
      · exact w
      · exfalso
        rcases Nat.lt_or_ge l k with w2 | w2
        · have := sk_mono (q := p) w2; omega
        · have : k = l := by omega
          subst this
          omega