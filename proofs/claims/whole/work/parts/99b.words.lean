/-! ===== the words of a program: class and model ===== -/
abbrev ndL (I : SBB) (l : List Nat) (s : PQ) : PQ := l.foldl (fun s c => nd I c s) s
def pfx (I : SBB) (q : Nat) (l : List Nat) : Nat := fst (fun m => !(atB I (q + m) (l.getD m 0))) l.length
theorem fst_sh (p : Nat → Bool) : ∀ n, fst p (n + 1) = if p 0 = true then 0 else fst (fun m => p (m + 1)) n + 1
  | 0 => rfl
  | n + 1 => by
    have ih := fst_sh p n
    show (if fst p (n + 1) < n + 1 then fst p (n + 1) else if p (n + 1) = true then n + 1 else n + 2) = _
    rw [ih]
    by_cases e : p 0 = true
    · rw [if_pos e, if_pos (by omega), if_pos e]
    · rw [if_neg e, if_neg e]
      show _ = (if fst (fun m => p (m + 1)) n < n then fst (fun m => p (m + 1)) n else if p (n + 1) = true then n else n + 1) + 1
      by_cases e2 : fst (fun m => p (m + 1)) n < n
      · rw [if_pos (by omega), if_pos e2]
      · rw [if_neg (by omega), if_neg e2]
        split <;> rfl
theorem pfx_cons (I : SBB) (q c : Nat) (l : List Nat) : pfx I q (c :: l) = if atB I q c = true then pfx I (q + 1) l + 1 else 0 := by
  unfold pfx
  show fst _ (l.length + 1) = _
  rw [fst_sh]
  show (if (!(atB I q c)) = true then 0 else fst (fun m => !(atB I (q + (m + 1)) (l.getD m 0))) l.length + 1) = _
  have e : (fun m => !(atB I (q + (m + 1)) (l.getD m 0))) = (fun m => !(atB I (q + 1 + m) (l.getD m 0))) := by
    funext m
    rw [show q + (m + 1) = q + 1 + m by omega]
  rw [e]
  cases atB I q c <;> rfl
theorem pfx_le (I : SBB) (q : Nat) (l : List Nat) : pfx I q l ≤ l.length := fst_le _ _
theorem ndL_some (I : SBB) (q p : Nat) : ∀ l, ndL I l (q, some p) = (q, some p)
  | [] => rfl
  | c :: l => ndL_some I q p l
theorem ndL_eq (I : SBB) : ∀ (l : List Nat) (q : Nat), ndL I l (q, none) = if pfx I q l = l.length then (q + l.length, none) else (q + pfx I q l, some (q + pfx I q l))
  | [], q => rfl
  | c :: l, q => by
    show ndL I l (if atB I q c = true then (q + 1, none) else (q, some q)) = _
    rw [pfx_cons]
    by_cases e : atB I q c = true
    · rw [if_pos e, if_pos e, ndL_eq I l (q + 1)]
      show _ = if pfx I (q + 1) l + 1 = l.length + 1 then (q + (l.length + 1), none) else _
      by_cases e2 : pfx I (q + 1) l = l.length
      · rw [if_pos e2, if_pos (by omega), show q + 1 + l.length = q + (l.length + 1) by omega]
      · rw [if_neg e2, if_neg (by omega), show q + 1 + pfx I (q + 1) l = q + (pfx I (q + 1) l + 1) by omega]
    · rw [if_neg e, if_neg e, ndL_some]
      show _ = if 0 = l.length + 1 then _ else _
      rw [if_neg (by omega)]
      rfl
theorem cmN_pfx (I : SBB) (q j : Nat) : cmN I q j = pfx I q (sxB j) := rfl
theorem atB_ne {I : SBB} {q c d : Nat} (h : atB I q c = true) (e : c ≠ d) : atB I q d = false := by
  unfold atB at h ⊢
  simp only [Bool.and_eq_true, decide_eq_true_eq] at h
  rw [h.2, decide_eq_false e, Bool.and_false]
theorem cm_0 {I : SBB} {q j c : Nat} {l : List Nat} (e : sxB j = c :: l) (h : atB I q c = false) : cmN I q j ≤ 1 := by
  rw [cmN_pfx, e, pfx_cons, if_neg (by rw [h]; decide)]
  decide
theorem cm_1 {I : SBB} {q j c d : Nat} {l : List Nat} (e : sxB j = c :: d :: l) (h : atB I (q + 1) d = false) : cmN I q j ≤ 1 := by
  rw [cmN_pfx, e, pfx_cons]
  split
  · rw [pfx_cons, if_neg (by rw [h]; decide)]
    decide
  · decide
theorem cm_s {I : SBB} {q j c : Nat} {l : List Nat} (e : sxB j = c :: l) (h : atB I q c = true) : cmN I q j = pfx I (q + 1) l + 1 := by
  rw [cmN_pfx, e, pfx_cons, if_pos h]
theorem mxN_eq {f : Nat → Nat} {M : Nat} : ∀ {n j : Nat}, j < n → f j = M → (∀ i, i < n → f i ≤ M) → mxN f n = M
  | 0, _, h, _, _ => absurd h (Nat.not_lt_zero _)
  | n + 1, j, h, e, hm => by
    unfold mxN
    by_cases z : j < n
    · rw [mxN_eq z e fun i hi => hm i (by omega), if_neg (by have := hm n (by omega); omega)]
    · have : j = n := by omega
      subst this
      have h1 : ∀ k, k ≤ j → mxN f k ≤ M := by
        intro k
        induction k with
        | zero => exact fun _ => Nat.zero_le _
        | succ k ih =>
          intro hk
          have := ih (by omega)
          have := hm k (by omega)
          unfold mxN
          split <;> omega
      have h1 := h1 j (Nat.le_refl _)
      split <;> omega
theorem sx5 : ∀ j, j < 10 → 5 ≤ (sxB j).length := by decide
/-- the one word that fits beyond its first letter -/
def ONE (I : SBB) (q j : Nat) : Prop := j < 10 ∧ 1 ≤ cmN I q j ∧ ∀ i, i < 10 → i ≠ j → cmN I q i ≤ 1
theorem ONE.rk {I : SBB} {q j : Nat} (h : ONE I q j) : rkQ I q = q + cmN I q j ∧ rkI I q = if cmN I q j = (sxB j).length then j else 10 := by
  obtain ⟨hj, h1, ho⟩ := h
  have no : ∀ i, i < 10 → i ≠ j → rkB I q i = false := fun i hi hn => by
    have := ho i hi hn
    have := sx5 i hi
    exact decide_eq_false (by omega)
  have ei : rkI I q = if cmN I q j = (sxB j).length then j else 10 := by
    unfold rkI
    by_cases e : cmN I q j = (sxB j).length
    · rw [if_pos e]
      exact fst_some (decide_eq_true e) (fun k hk => no k (by omega) (by omega)) hj
    · rw [if_neg e]
      refine fst_none fun k hk => ?_
      by_cases z : k = j
      · subst z
        exact decide_eq_false e
      · exact no k hk z
  refine ⟨?_, ei⟩
  unfold rkQ
  rw [ei]
  by_cases e : cmN I q j = (sxB j).length
  · rw [if_pos e, if_pos hj, e]
  · rw [if_neg e, if_neg (by omega), mxN_eq hj rfl fun i hi => ?_]
    by_cases z : i = j
    · rw [z]; exact Nat.le_refl _
    · have := ho i hi z; omega
theorem NONE_rk {I : SBB} {q : Nat} (h : ∀ i, i < 10 → cmN I q i = 0) : rkQ I q = q ∧ rkI I q = 10 := by
  have ei : rkI I q = 10 := fst_none fun k hk => decide_eq_false (by have := h k hk; have := sx5 k hk; omega)
  refine ⟨?_, ei⟩
  unfold rkQ
  rw [ei, if_neg (by omega), mxN_eq (j := 0) (by omega) (h 0 (by omega)) fun i hi => by rw [h i hi]; exact Nat.le_refl _]
  rfl
/-- the model's number of a word -/
def kdJ : Nat → Nat
  | 0 => 116
  | 1 => 108
  | 2 => 117
  | 3 => 105
  | 4 => 107
  | 5 => 109
  | 6 => 118
  | 7 => 119
  | 8 => 111
  | _ => 110
/-- the model reads the word after its first letter -/
theorem word_eq {I : SBB} {q f : Nat} (hf : isL f) (h : atB I q f = true) : ∃ j, ONE I q j ∧ (wd I f (q + 1, none)).1 = kdJ j ∧ nd I 32 (wd I f (q + 1, none)).2 = ndL I (sxB j).tail (q + 1, none) ∧ cmN I q j = pfx I (q + 1) (sxB j).tail + 1 := by
  have ne : ∀ c, f ≠ c → atB I q c = false := fun c hc => atB_ne h hc
  rcases hf with rfl | rfl | rfl | rfl | rfl | rfl
  · have e : cmN I q 0 = pfx I (q + 1) (sxB 0).tail + 1 := cm_s rfl h
    refine ⟨0, ⟨by decide, by omega, ten (fun z => absurd rfl z) (fun _ => cm_0 rfl (ne _ (by decide))) (fun _ => cm_0 rfl (ne _ (by decide))) (fun _ => cm_0 rfl (ne _ (by decide))) (fun _ => cm_0 rfl (ne _ (by decide))) (fun _ => cm_0 rfl (ne _ (by decide))) (fun _ => cm_0 rfl (ne _ (by decide))) (fun _ => cm_0 rfl (ne _ (by decide))) (fun _ => cm_0 rfl (ne _ (by decide))) (fun _ => cm_0 rfl (ne _ (by decide)))⟩, ?_, ?_, e⟩
    · unfold wd
      rw [if_pos rfl]
      rfl
    · unfold wd
      rw [if_pos rfl]
      rfl
  · by_cases h2 : atB I (q + 1) 101 = true
    · have e : cmN I q 4 = pfx I (q + 1) (sxB 4).tail + 1 := cm_s rfl h
      refine ⟨4, ⟨by decide, by omega, ten (fun _ => cm_0 rfl (ne _ (by decide))) (fun _ => cm_1 rfl (atB_ne h2 (by decide))) (fun _ => cm_0 rfl (ne _ (by decide))) (fun _ => cm_0 rfl (ne _ (by decide))) (fun z => absurd rfl z) (fun _ => cm_0 rfl (ne _ (by decide))) (fun _ => cm_0 rfl (ne _ (by decide))) (fun _ => cm_0 rfl (ne _ (by decide))) (fun _ => cm_0 rfl (ne _ (by decide))) (fun _ => cm_0 rfl (ne _ (by decide)))⟩, ?_, ?_, e⟩
      · unfold wd
        rw [if_neg (by decide), if_neg (by decide), if_pos rfl, if_pos h2]
        rfl
      · unfold wd
        rw [if_neg (by decide), if_neg (by decide), if_pos rfl, if_pos h2]
        rfl
    · have e : cmN I q 1 = pfx I (q + 1) (sxB 1).tail + 1 := cm_s rfl h
      refine ⟨1, ⟨by decide, by omega, ten (fun _ => cm_0 rfl (ne _ (by decide))) (fun z => absurd rfl z) (fun _ => cm_0 rfl (ne _ (by decide))) (fun _ => cm_0 rfl (ne _ (by decide))) (fun _ => cm_1 rfl (Bool.eq_false_iff.mpr h2)) (fun _ => cm_0 rfl (ne _ (by decide))) (fun _ => cm_0 rfl (ne _ (by decide))) (fun _ => cm_0 rfl (ne _ (by decide))) (fun _ => cm_0 rfl (ne _ (by decide))) (fun _ => cm_0 rfl (ne _ (by decide)))⟩, ?_, ?_, e⟩
      · unfold wd
        rw [if_neg (by decide), if_neg (by decide), if_pos rfl, if_neg h2]
        rfl
      · unfold wd
        rw [if_neg (by decide), if_neg (by decide), if_pos rfl, if_neg h2]
        rfl
  · have e : cmN I q 2 = pfx I (q + 1) (sxB 2).tail + 1 := cm_s rfl h
    refine ⟨2, ⟨by decide, by omega, ten (fun _ => cm_0 rfl (ne _ (by decide))) (fun _ => cm_0 rfl (ne _ (by decide))) (fun z => absurd rfl z) (fun _ => cm_0 rfl (ne _ (by decide))) (fun _ => cm_0 rfl (ne _ (by decide))) (fun _ => cm_0 rfl (ne _ (by decide))) (fun _ => cm_0 rfl (ne _ (by decide))) (fun _ => cm_0 rfl (ne _ (by decide))) (fun _ => cm_0 rfl (ne _ (by decide))) (fun _ => cm_0 rfl (ne _ (by decide)))⟩, ?_, ?_, e⟩
    · unfold wd
      rw [if_neg (by decide), if_pos rfl]
      rfl
    · unfold wd
      rw [if_neg (by decide), if_pos rfl]
      rfl
  · by_cases h2 : atB I (q + 1) 116 = true
    · have e : cmN I q 8 = pfx I (q + 1) (sxB 8).tail + 1 := cm_s rfl h
      refine ⟨8, ⟨by decide, by omega, ten (fun _ => cm_0 rfl (ne _ (by decide))) (fun _ => cm_0 rfl (ne _ (by decide))) (fun _ => cm_0 rfl (ne _ (by decide))) (fun _ => cm_1 rfl (atB_ne h2 (by decide))) (fun _ => cm_0 rfl (ne _ (by decide))) (fun _ => cm_0 rfl (ne _ (by decide))) (fun _ => cm_0 rfl (ne _ (by decide))) (fun _ => cm_0 rfl (ne _ (by decide))) (fun z => absurd rfl z) (fun _ => cm_0 rfl (ne _ (by decide)))⟩, ?_, ?_, e⟩
      · unfold wd
        rw [if_neg (by decide), if_neg (by decide), if_neg (by decide), if_pos rfl, if_pos h2]
        rfl
      · unfold wd
        rw [if_neg (by decide), if_neg (by decide), if_neg (by decide), if_pos rfl, if_pos h2]
        rfl
    · have e : cmN I q 3 = pfx I (q + 1) (sxB 3).tail + 1 := cm_s rfl h
      refine ⟨3, ⟨by decide, by omega, ten (fun _ => cm_0 rfl (ne _ (by decide))) (fun _ => cm_0 rfl (ne _ (by decide))) (fun _ => cm_0 rfl (ne _ (by decide))) (fun z => absurd rfl z) (fun _ => cm_0 rfl (ne _ (by decide))) (fun _ => cm_0 rfl (ne _ (by decide))) (fun _ => cm_0 rfl (ne _ (by decide))) (fun _ => cm_0 rfl (ne _ (by decide))) (fun _ => cm_1 rfl (Bool.eq_false_iff.mpr h2)) (fun _ => cm_0 rfl (ne _ (by decide)))⟩, ?_, ?_, e⟩
      · unfold wd
        rw [if_neg (by decide), if_neg (by decide), if_neg (by decide), if_pos rfl, if_neg h2]
        rfl
      · unfold wd
        rw [if_neg (by decide), if_neg (by decide), if_neg (by decide), if_pos rfl, if_neg h2]
        rfl
  · by_cases h2 : atB I (q + 1) 111 = true
    · have e : cmN I q 7 = pfx I (q + 1) (sxB 7).tail + 1 := cm_s rfl h
      refine ⟨7, ⟨by decide, by omega, ten (fun _ => cm_0 rfl (ne _ (by decide))) (fun _ => cm_0 rfl (ne _ (by decide))) (fun _ => cm_0 rfl (ne _ (by decide))) (fun _ => cm_0 rfl (ne _ (by decide))) (fun _ => cm_0 rfl (ne _ (by decide))) (fun _ => cm_1 rfl (atB_ne h2 (by decide))) (fun _ => cm_0 rfl (ne _ (by decide))) (fun z => absurd rfl z) (fun _ => cm_0 rfl (ne _ (by decide))) (fun _ => cm_0 rfl (ne _ (by decide)))⟩, ?_, ?_, e⟩
      · unfold wd
        rw [if_neg (by decide), if_neg (by decide), if_neg (by decide), if_neg (by decide), if_pos rfl, if_pos h2]
        rfl
      · unfold wd
        rw [if_neg (by decide), if_neg (by decide), if_neg (by decide), if_neg (by decide), if_pos rfl, if_pos h2]
        rfl
    · have e : cmN I q 5 = pfx I (q + 1) (sxB 5).tail + 1 := cm_s rfl h
      refine ⟨5, ⟨by decide, by omega, ten (fun _ => cm_0 rfl (ne _ (by decide))) (fun _ => cm_0 rfl (ne _ (by decide))) (fun _ => cm_0 rfl (ne _ (by decide))) (fun _ => cm_0 rfl (ne _ (by decide))) (fun _ => cm_0 rfl (ne _ (by decide))) (fun z => absurd rfl z) (fun _ => cm_0 rfl (ne _ (by decide))) (fun _ => cm_1 rfl (Bool.eq_false_iff.mpr h2)) (fun _ => cm_0 rfl (ne _ (by decide))) (fun _ => cm_0 rfl (ne _ (by decide)))⟩, ?_, ?_, e⟩
      · unfold wd
        rw [if_neg (by decide), if_neg (by decide), if_neg (by decide), if_neg (by decide), if_pos rfl, if_neg h2]
        rfl
      · unfold wd
        rw [if_neg (by decide), if_neg (by decide), if_neg (by decide), if_neg (by decide), if_pos rfl, if_neg h2]
        rfl
  · by_cases h2 : atB I (q + 1) 105 = true
    · have e : cmN I q 9 = pfx I (q + 1) (sxB 9).tail + 1 := cm_s rfl h
      refine ⟨9, ⟨by decide, by omega, ten (fun _ => cm_0 rfl (ne _ (by decide))) (fun _ => cm_0 rfl (ne _ (by decide))) (fun _ => cm_0 rfl (ne _ (by decide))) (fun _ => cm_0 rfl (ne _ (by decide))) (fun _ => cm_0 rfl (ne _ (by decide))) (fun _ => cm_0 rfl (ne _ (by decide))) (fun _ => cm_1 rfl (atB_ne h2 (by decide))) (fun _ => cm_0 rfl (ne _ (by decide))) (fun _ => cm_0 rfl (ne _ (by decide))) (fun z => absurd rfl z)⟩, ?_, ?_, e⟩
      · unfold wd
        rw [if_neg (by decide), if_neg (by decide), if_neg (by decide), if_neg (by decide), if_neg (by decide), if_pos h2]
        rfl
      · unfold wd
        rw [if_neg (by decide), if_neg (by decide), if_neg (by decide), if_neg (by decide), if_neg (by decide), if_pos h2]
        rfl
    · have e : cmN I q 6 = pfx I (q + 1) (sxB 6).tail + 1 := cm_s rfl h
      refine ⟨6, ⟨by decide, by omega, ten (fun _ => cm_0 rfl (ne _ (by decide))) (fun _ => cm_0 rfl (ne _ (by decide))) (fun _ => cm_0 rfl (ne _ (by decide))) (fun _ => cm_0 rfl (ne _ (by decide))) (fun _ => cm_0 rfl (ne _ (by decide))) (fun _ => cm_0 rfl (ne _ (by decide))) (fun z => absurd rfl z) (fun _ => cm_0 rfl (ne _ (by decide))) (fun _ => cm_0 rfl (ne _ (by decide))) (fun _ => cm_1 rfl (Bool.eq_false_iff.mpr h2))⟩, ?_, ?_, e⟩
      · unfold wd
        rw [if_neg (by decide), if_neg (by decide), if_neg (by decide), if_neg (by decide), if_neg (by decide), if_neg h2]
        rfl
      · unfold wd
        rw [if_neg (by decide), if_neg (by decide), if_neg (by decide), if_neg (by decide), if_neg (by decide), if_neg h2]
        rfl
