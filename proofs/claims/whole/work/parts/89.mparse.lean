/-! ===== the model: it reads a program ===== -/
abbrev PQ : Type := Nat × Option Nat
def erI : Option Nat → Int32
  | none => -1
  | some p => nI p
/-- 'here' and 'error' -/
abbrev wQm (m : MS) (s : PQ) : MS := (m.1, m.2.1, m.2.2.1, (m.2.2.2.1.1, m.2.2.2.1.2.1, nI s.1, erI s.2, m.2.2.2.1.2.2.2.2), m.2.2.2.2)
/-- the input holds the text I -/
def IR (I : SBB) (m : MS) : Prop := zTy m = nI I.1 ∧ I.1 ≤ 60 ∧ ∀ j, j < I.1 → zI m j = nI (I.2.2 j) ∧ I.2.2 j < 256
def sg (I : SBB) (h : Nat) : Int32 := if h < I.1 then nI (I.2.2 h) else -1
def okQ (s : PQ) : Prop := s.1 ≤ 60 ∧ ∀ p, s.2 = some p → p ≤ 60
theorem sg_at {I : SBB} (hI : ∀ j, j < I.1 → I.2.2 j < 256) {h c : Nat} (hc : c < 256) : sg I h = nI c ↔ atB I h c = true := by
  unfold sg atB
  by_cases q : h < I.1
  · rw [if_pos q, decide_eq_true q, Bool.true_and, decide_eq_true_eq]
    exact nI_eq (by have := hI h q; omega) (by omega)
  · rw [if_neg q, decide_eq_false q, Bool.false_and]
    constructor
    · intro e
      have e2 := congrArg Int32.toInt e
      rw [nI_toInt (by omega)] at e2
      have e3 : (-1 : Int32).toInt = -1 := rfl
      omega
    · intro e; cases e
theorem sg_dg {I : SBB} (hI : ∀ j, j < I.1 → I.2.2 j < 256) (h : Nat) : wiB (sg I h) 48 57 = dgB I h := by
  unfold sg dgB wiB
  by_cases q : h < I.1
  · have hb := hI h q
    rw [if_pos q, decide_eq_true q, Bool.true_and]
    congr 1
    · rw [decide_eq_decide]
      exact nI_leI (a := 48) (by decide) (by omega)
    · rw [decide_eq_decide]
      exact nI_leI (b := 57) (by omega) (by decide)
  · rw [if_neg q, decide_eq_false q, Bool.false_and]
    decide
def nd (I : SBB) (c : Nat) (s : PQ) : PQ := match s.2 with
  | some _ => s
  | none => if atB I s.1 c = true then (s.1 + 1, none) else (s.1, some s.1)
def dgN (I : SBB) (k q : Nat) : Nat := fst (fun j => !(dgB I (q + j))) k
def dgt (I : SBB) (k : Nat) (s : PQ) : Int32 × PQ := match s.2 with
  | some _ => (0, s)
  | none => if dgB I s.1 = true then (vlI I s.1 (dgN I k s.1), (s.1 + dgN I k s.1, none)) else (0, (s.1, some s.1))
def nmb (I : SBB) (k : Nat) (s : PQ) : Int32 × PQ := dgt I k (nd I 32 s)
def sgB (I : SBB) (s : PQ) : Bool := s.2.isNone && atB I s.1 45
def sgd (I : SBB) (s : PQ) : Int32 × PQ := if sgB I (nd I 32 s) = true then (-(dgt I 1 ((nd I 32 s).1 + 1, none)).1, (dgt I 1 ((nd I 32 s).1 + 1, none)).2) else dgt I 1 (nd I 32 s)
theorem atB_lt {I : SBB} {h c : Nat} (e : atB I h c = true) : h < I.1 := by
  unfold atB at e
  simp only [Bool.and_eq_true, decide_eq_true_eq] at e
  exact e.1
theorem dgB_lt {I : SBB} {h : Nat} (e : dgB I h = true) : h < I.1 := by
  unfold dgB at e
  simp only [Bool.and_eq_true, decide_eq_true_eq] at e
  exact e.1
theorem okQ_nd {I : SBB} (hI : I.1 ≤ 60) {c : Nat} {s : PQ} (h : okQ s) : okQ (nd I c s) := by
  obtain ⟨q, e⟩ := s
  cases e with
  | some p => exact h
  | none =>
    show okQ (if atB I q c = true then (q + 1, none) else (q, some q))
    split
    · rename_i w
      have := atB_lt w
      exact ⟨by show q + 1 ≤ 60; omega, fun p hp => by cases hp⟩
    · exact ⟨h.1, fun p hp => by cases hp; exact h.1⟩
theorem dgN_le (I : SBB) {q : Nat} (hq : q ≤ I.1) (k : Nat) : q + dgN I k q ≤ I.1 ∨ dgN I k q = 0 := by
    rcases Nat.eq_zero_or_pos (dgN I k q) with z | z
    · exact Or.inr z
    · have h := fst_no (p := fun j => !(dgB I (q + j))) (n := k) (k := dgN I k q - 1) (show dgN I k q - 1 < fst _ k by show dgN I k q - 1 < dgN I k q; omega)
      simp only [Bool.not_eq_false'] at h
      have := dgB_lt h
      exact Or.inl (by omega)
theorem okQ_dgt {I : SBB} (hI : I.1 ≤ 60) {k : Nat} {s : PQ} (h : okQ s) : okQ (dgt I k s).2 := by
  obtain ⟨q, e⟩ := s
  cases e with
  | some p => exact h
  | none =>
    show okQ (if dgB I q = true then (vlI I q (dgN I k q), ((q + dgN I k q, none) : PQ)) else (0, (q, some q))).2
    split
    · rename_i w
      have := dgB_lt w
      refine ⟨?_, fun p hp => by cases hp⟩
      show q + dgN I k q ≤ 60
      rcases dgN_le I (q := q) (by omega) k with z | z <;> omega
    · exact ⟨h.1, fun p hp => by cases hp; exact h.1⟩
theorem okQ_sgd {I : SBB} (hI : I.1 ≤ 60) {s : PQ} (h : okQ s) : okQ (sgd I s).2 := by
  unfold sgd
  have h1 := okQ_nd hI (c := 32) h
  split
  · rename_i w
    unfold sgB at w
    simp only [Bool.and_eq_true] at w
    have := atB_lt w.2
    exact okQ_dgt hI ⟨by show (nd I 32 s).1 + 1 ≤ 60; omega, fun p hp => by cases hp⟩
  · exact okQ_dgt hI h1
section NPA
variable {m : MS} {I : SBB}
theorem n_sign (hI : IR I m) (s : PQ) (hs : okQ s) : Sp 0 0 0 mX11_sign [vR 0 0] (mdl (wQm m s)) (PoI (sg I s.1) (mdl (wQm m s))) := by
  refine Sp.of' false (fun h => by cases h) (by decide) rfl rfl (Nat.le_of_ble_eq_true rfl) fun γ σ B => ?_
  obtain ⟨i1, i2, i3⟩ := hI
  have hs1 := hs.1
  refine B.run okX11_sign [] 60 ?_
  constructor
  · intro h
    have h : zTy m ≤ nI s.1 := h
    rw [i1] at h
    exact rI (by unfold sg; rw [if_neg (fun z => absurd h (nI_ge z (by omega)))])
  · intro h
    have h : ¬ zTy m ≤ nI s.1 := h
    rw [i1] at h
    have hl : s.1 < I.1 := Nat.not_le.mp fun z => h (nI_le z (by omega))
    refine ⟨vp_in_nI (by omega) (by decide), ?_⟩
    rw [nI_clamp (by omega)]
    exact rI (by unfold sg; rw [if_pos hl]; exact (i3 s.1 hl).1)
theorem n_needs (hI : IR I m) (s : PQ) (hs : okQ s) (c : Nat) (hc : c < 256) : Sp 1 0 0 mX11_needs [vR 0 0, vI (nI c)] (mdl (wQm m s)) (PoV (mdl (wQm m (nd I c s)))) := by
  refine Sp.of' false (fun h => by cases h) (by decide) rfl rfl (Nat.le_of_ble_eq_true rfl) fun γ σ B => ?_
  have F : Fit γ 0 0 0 0 0 := fiW B (by decide) (Nat.zero_le _) (Nat.zero_le _)
  obtain ⟨q, e⟩ := s
  cases e with
  | some p =>
    have hp := hs.2 p rfl
    refine B.run okX11_needs [] 60 ?_
    constructor
    · intro w
      exact absurd w (nI_pos (by omega))
    · intro _
      exact rV
  | none =>
    have hs1 : q ≤ 60 := hs.1
    refine B.run okX11_needs [] 60 ?_
    constructor
    · intro _
      refine B.run okX11_needs [] 60 ?_
      refine At.mI [] [] B.1 (n_sign hI (q, none) hs) kX11_sign ln_X11_217 F (dcV okX11_needs rfl) ?_
      refine B.run okX11_needs [] 60 ?_
      have e : nd I c (q, none) = if atB I q c = true then (q + 1, none) else (q, some q) := rfl
      constructor
      · intro w
        have w : sg I q = nI c := w
        have ha := (sg_at (fun j hj => (hI.2.2 j hj).2) hc).mp w
        rw [if_pos ha] at e
        refine ⟨trivial, ?_⟩
        exact rV (by rw [e]; show _ = mdl (wQm m (q + 1, none)); rw [show wQm m (q + 1, none) = (m.1, m.2.1, m.2.2.1, (m.2.2.2.1.1, m.2.2.2.1.2.1, nI q + 1, -1, m.2.2.2.1.2.2.2.2), m.2.2.2.2) from by rw [nI_1]; rfl]; rfl)
      · intro w
        have w : ¬ sg I q = nI c := w
        have ha : ¬ atB I q c = true := fun z => w ((sg_at (fun j hj => (hI.2.2 j hj).2) hc).mpr z)
        rw [if_neg ha] at e
        exact ⟨trivial, rV (by rw [e]; rfl)⟩
    · intro w
      exact absurd (show (-1 : Int32) < 0 by decide) w
theorem n_letters (hI : IR I m) (s : PQ) (hs : okQ s) (a b c : Nat) (ha : a < 256) (hb : b < 256) (hc : c < 256) : Sp 2 0 0 mX11_letters [vR 0 0, vI (nI a), vI (nI b), vI (nI c)] (mdl (wQm m s)) (PoV (mdl (wQm m (nd I c (nd I b (nd I a s)))))) := by
  refine Sp.of' false (fun h => by cases h) (by decide) rfl rfl (Nat.le_of_ble_eq_true rfl) fun γ σ B => ?_
  have F : Fit γ 0 0 0 0 0 := fiW B (by decide) (Nat.zero_le _) (Nat.zero_le _)
  have F1 : Fit γ 0 0 1 0 0 := fiW B (by decide) (Nat.zero_le _) (Nat.zero_le _)
  have h1 := okQ_nd hI.2.1 (c := a) hs
  have h2 := okQ_nd hI.2.1 (c := b) h1
  refine B.run okX11_letters [] 60 ?_
  refine At.mV [vI (nI a)] [] B.1 (n_needs hI s hs a ha) kX11_needs ln_X11_220 F1 (dcV okX11_letters rfl) ?_
  refine B.run okX11_letters [] 60 ?_
  refine At.mV [vI (nI b)] [] B.1 (n_needs hI (nd I a s) h1 b hb) kX11_needs ln_X11_220 F1 (dcV okX11_letters rfl) ?_
  refine B.run okX11_letters [] 60 ?_
  refine At.mV [vI (nI c)] [] B.1 (n_needs hI (nd I b (nd I a s)) h2 c hc) kX11_needs ln_X11_220 F1 (dcV okX11_letters rfl) ?_
  refine B.run okX11_letters [] 60 ?_
  exact rV
theorem n_digits (hI : IR I m) (s : PQ) (hs : okQ s) (k : Nat) (hk : 1 ≤ k ∧ k ≤ 3) : Sp 1 0 0 mX11_digits [vR 0 0, vI (nI k)] (mdl (wQm m s)) (PoI (dgt I k s).1 (mdl (wQm m (dgt I k s).2))) := by
  refine Sp.of' false (fun h => by cases h) (by decide) rfl rfl (Nat.le_of_ble_eq_true rfl) fun γ σ B => ?_
  have F : Fit γ 0 0 0 0 0 := fiW B (by decide) (Nat.zero_le _) (Nat.zero_le _)
  have hch : ∀ j, j < I.1 → I.2.2 j < 256 := fun j hj => (hI.2.2 j hj).2
  have hl := hI.2.1
  obtain ⟨q, e⟩ := s
  cases e with
  | some p =>
    have hp := hs.2 p rfl
    refine B.run okX11_digits [] 60 ?_
    constructor
    · intro w
      exact absurd w (nI_pos (by omega))
    · intro _
      exact rI rfl
  | none =>
    have hs1 : q ≤ 60 := hs.1
    have ed : dgt I k (q, none) = if dgB I q = true then (vlI I q (dgN I k q), (q + dgN I k q, none)) else (0, (q, some q)) := rfl
    refine B.run okX11_digits [(37, [0, 1, 2, 3])] 60 ?_
    constructor
    · intro _
      refine B.run okX11_digits [(37, [0, 1, 2, 3])] 60 ?_
      refine At.mI [] [] B.1 (n_sign hI (q, none) hs) kX11_sign ln_X11_217 F (dcV okX11_digits rfl) ?_
      refine B.run okX11_digits [(37, [0, 1, 2, 3])] 60 ?_
      refine At.mS [vI (sg I q), vI 48, vI 57] [] B.1 (n_in (sg I q) 48 57) kX11_in ln_X11_43 F (dcS okX11_digits rfl) ?_
      rw [sg_dg hch]
      refine B.run okX11_digits [(37, [0, 1, 2, 3])] 60 ?_
      constructor
      · intro w
        have hd := b2_eq0.mp w
        rw [if_neg (by rw [hd]; decide)] at ed
        exact ⟨trivial, rI (by rw [ed]) (by rw [ed]; rfl)⟩
      · intro w
        have hd := b2_ne0.mp w
        rw [if_pos hd] at ed
        have out : ∀ n, n = dgN I k q → At γ σ 0 0 85 [(0, vR 0 0), (1, vI (nI k)), (2, vI (vlI I q n))] [] (mdl (wQm m (q + n, none))) := fun n hn => by
          refine B.run okX11_digits [] 60 ?_
          exact rI (by rw [ed, hn]) (by rw [ed, hn])
        have loop : ∀ (j n : Nat), n + j = k → (∀ i, i < n → dgB I (q + i) = true) → At γ σ 0 0 37 [(0, vR 0 0), (1, vI (nI k)), (2, vI (vlI I q n)), (3, vI (nI n))] [] (mdl (wQm m (q + n, none))) := by
          intro j
          induction j with
          | zero =>
            intro n hn hno
            have hn : n = k := by omega
            refine B.run okX11_digits [(85, [0, 1, 2])] 60 ?_
            constructor
            · intro _
              exact out n (by unfold dgN; rw [fst_none (fun i hi => by rw [hno i (by omega)]; rfl), hn])
            · intro w2
              exact absurd (show nI k ≤ nI n by rw [hn]; exact Int32.le_refl _) w2
          | succ j ih =>
            intro n hn hno
            have ok2 : okQ (q + n, none) := ⟨by
              show q + n ≤ 60
              rcases Nat.eq_zero_or_pos n with z | z
              · omega
              · have := dgB_lt (hno (n - 1) (by omega)); omega, fun p hp => by cases hp⟩
            refine B.run okX11_digits [(37, [0, 1, 2, 3]), (85, [0, 1, 2])] 60 ?_
            constructor
            · intro w2
              exact absurd w2 (nI_ge (by omega) (by omega))
            · intro _
              refine B.run okX11_digits [(37, [0, 1, 2, 3]), (85, [0, 1, 2])] 60 ?_
              refine At.mI [] [] B.1 (n_sign hI (q + n, none) ok2) kX11_sign ln_X11_217 F (dcV okX11_digits rfl) ?_
              refine B.run okX11_digits [(37, [0, 1, 2, 3]), (85, [0, 1, 2])] 60 ?_
              refine At.mS [vI (sg I (q + n)), vI 48, vI 57] [] B.1 (n_in (sg I (q + n)) 48 57) kX11_in ln_X11_43 F (dcS okX11_digits rfl) ?_
              rw [sg_dg hch]
              refine B.run okX11_digits [(37, [0, 1, 2, 3]), (85, [0, 1, 2])] 60 ?_
              constructor
              · intro w2
                exact out n (by
                  unfold dgN
                  rw [fst_some (by rw [b2_eq0.mp w2]; rfl) (fun i hi => by rw [hno i hi]; rfl) (show n < k by omega)])
              · intro w2
                have hd2 := b2_ne0.mp w2
                have hlt := dgB_lt hd2
                refine B.run okX11_digits [(37, [0, 1, 2, 3]), (85, [0, 1, 2])] 60 ?_
                refine At.mI [] [vI (10 * vlI I q n)] B.1 (n_sign hI (q + n, none) ok2) kX11_sign ln_X11_217 F (dcV okX11_digits rfl) ?_
                rw [show sg I (q + n, (none : Option Nat)).1 = nI (I.2.2 (q + n)) from if_pos hlt]
                have z := ih (n + 1) (by omega) (fun i hi => by
                  rcases Nat.lt_or_ge i n with u | u
                  · exact hno i u
                  · rw [show i = n by omega]; exact hd2)
                have ev : vlI I q (n + 1) = 10 * vlI I q n + nI (I.2.2 (q + n)) - 48 := by
                  show vlI I q n * 10 + (nI (I.2.2 (q + n)) - 48) = _
                  grind
                rw [ev, ← nI_1 n] at z
                have ew : wQm m (q + (n + 1), none) = (m.1, m.2.1, m.2.2.1, (m.2.2.2.1.1, m.2.2.2.1.2.1, nI (q + n) + 1, -1, m.2.2.2.1.2.2.2.2), m.2.2.2.2) := by rw [nI_1]; rfl
                rw [ew] at z
                refine B.run okX11_digits [(37, [0, 1, 2, 3])] 60 ?_
                refine ⟨trivial, ?_⟩
                exact z
        have z := loop k 0 (by omega) (fun i hi => absurd hi (Nat.not_lt_zero _))
        exact z
    · intro w
      exact absurd (show (-1 : Int32) < 0 by decide) w
theorem n_number (hI : IR I m) (s : PQ) (hs : okQ s) (k : Nat) (hk : 1 ≤ k ∧ k ≤ 3) : Sp 2 0 0 mX11_number [vR 0 0, vI (nI k)] (mdl (wQm m s)) (PoI (nmb I k s).1 (mdl (wQm m (nmb I k s).2))) := by
  refine Sp.of' false (fun h => by cases h) (by decide) rfl rfl (Nat.le_of_ble_eq_true rfl) fun γ σ B => ?_
  have F : Fit γ 0 0 0 0 0 := fiW B (by decide) (Nat.zero_le _) (Nat.zero_le _)
  have F1 : Fit γ 0 0 1 0 0 := fiW B (by decide) (Nat.zero_le _) (Nat.zero_le _)
  have h1 := okQ_nd hI.2.1 (c := 32) hs
  refine B.run okX11_number [] 60 ?_
  refine At.mV [vI (nI 32)] [] B.1 (n_needs hI s hs 32 (by decide)) kX11_needs ln_X11_220 F1 (dcV okX11_number rfl) ?_
  refine B.run okX11_number [] 60 ?_
  refine At.mI [vI (nI k)] [] B.1 (n_digits hI (nd I 32 s) h1 k hk) kX11_digits ln_X11_223 F1 (dcV okX11_number rfl) ?_
  refine B.run okX11_number [] 60 ?_
  exact rI rfl
theorem n_signed (hI : IR I m) (s : PQ) (hs : okQ s) : Sp 2 0 0 mX11_signed [vR 0 0] (mdl (wQm m s)) (PoI (sgd I s).1 (mdl (wQm m (sgd I s).2))) := by
  refine Sp.of' false (fun h => by cases h) (by decide) rfl rfl (Nat.le_of_ble_eq_true rfl) fun γ σ B => ?_
  have F : Fit γ 0 0 0 0 0 := fiW B (by decide) (Nat.zero_le _) (Nat.zero_le _)
  have F1 : Fit γ 0 0 1 0 0 := fiW B (by decide) (Nat.zero_le _) (Nat.zero_le _)
  have h1 := okQ_nd hI.2.1 (c := 32) hs
  have hl := hI.2.1
  have es : sgd I s = if sgB I (nd I 32 s) = true then (-(dgt I 1 ((nd I 32 s).1 + 1, none)).1, (dgt I 1 ((nd I 32 s).1 + 1, none)).2) else dgt I 1 (nd I 32 s) := rfl
  refine B.run okX11_signed [(27, [0])] 60 ?_
  refine At.mV [vI (nI 32)] [] B.1 (n_needs hI s hs 32 (by decide)) kX11_needs ln_X11_220 F1 (dcV okX11_signed rfl) ?_
  generalize nd I 32 s = r at h1 es
  obtain ⟨q, e⟩ := r
  have plus : ∀ x : Int32, sgB I (q, e) = false → At γ σ 0 0 27 [(0, vR 0 0)] [vI 0] (mdl (wQm m (q, e))) := fun _ hb => by
    rw [if_neg (by rw [hb]; decide)] at es
    refine B.run okX11_signed [(27, [0])] 60 ?_
    constructor
    · intro _
      refine B.run okX11_signed [] 60 ?_
      refine At.mI [vI (nI 1)] [] B.1 (n_digits hI (q, e) h1 1 (by decide)) kX11_digits ln_X11_223 F1 (dcV okX11_signed rfl) ?_
      refine B.run okX11_signed [] 60 ?_
      constructor
      · intro _
        exact rI (by rw [es]) (by rw [es])
      · intro w
        exact absurd rfl w
    · intro w
      exact absurd rfl w
  refine B.run okX11_signed [(27, [0])] 60 ?_
  cases e with
  | some p =>
    have hp := h1.2 p rfl
    constructor
    · intro _
      exact plus 0 rfl
    · intro w
      exact absurd (nI_pos' (n := p) (by omega)) w
  | none =>
    constructor
    · intro w
      exact absurd w (show ¬ (0 : Int32) ≤ -1 by decide)
    · intro _
      refine B.run okX11_signed [(27, [0])] 60 ?_
      refine At.mI [] [] B.1 (n_sign hI (q, none) h1) kX11_sign ln_X11_217 F (dcV okX11_signed rfl) ?_
      refine B.run okX11_signed [(27, [0])] 60 ?_
      have ew := sg_at (I := I) (fun j hj => (hI.2.2 j hj).2) (h := q) (c := 45) (by decide)
      constructor
      · intro w
        have ha := ew.mp w
        have hb : sgB I (q, none) = true := by unfold sgB; rw [ha]; rfl
        rw [if_pos hb] at es
        have hq := atB_lt ha
        show At γ σ 0 0 27 [(0, vR 0 0)] [vI 1] (mdl (wQm m (q, none)))
        refine B.run okX11_signed [] 60 ?_
        constructor
        · intro w2
          exact absurd w2 (by decide)
        · intro _
          refine ⟨trivial, ?_⟩
          have ez : wQm m (q + 1, none) = (m.1, m.2.1, m.2.2.1, (m.2.2.2.1.1, m.2.2.2.1.2.1, nI q + 1, -1, m.2.2.2.1.2.2.2.2), m.2.2.2.2) := by rw [nI_1]; rfl
          have SD := n_digits hI (q + 1, none) ⟨by show q + 1 ≤ 60; omega, fun p hp => by cases hp⟩ 1 (by decide)
          rw [ez] at SD
          refine At.mI [vI (nI 1)] [] B.1 SD kX11_digits ln_X11_223 F1 (dcV okX11_signed rfl) ?_
          refine B.run okX11_signed [] 60 ?_
          constructor
          · intro w2
            exact absurd w2 (by decide)
          · intro _
            exact rI (by rw [es]) (by rw [es])
      · intro w
        exact plus 0 (by unfold sgB; cases h : atB I q 45 with
          | true => exact absurd (ew.mpr h) w
          | false => rfl)
end NPA
