/-! ===== Program: words, values, arguments ===== -/
def cmN (I : SBB) (q j : Nat) : Nat := fst (fun m => !(atB I (q + m) (sxC j m))) (sxB j).length
theorem s_p_countMatching (I : SBB) (hI : I.1 ≤ 1000) (c0 : Int32) (q : Nat) (v : Int32) (kw : Nat → Nat) (rw : Nat → FI) (j : Nat) (hj : j < 19) (hq : q ≤ 2000) : Sp 5 0 0 mX7_countMatching [vR 1 0, vK (15 + j)] (pgW I (pst c0 q v kw rw)) (PoI (nI (cmN I q j)) (pgW I (pst c0 q v kw rw))) := by
  refine Sp.of' false (fun h => by cases h) (by decide) rfl rfl (Nat.le_of_ble_eq_true rfl) fun γ σ B => ?_
  have hl := sx_len j hj
  have loop : ∀ (r m : Nat), m + r = (sxB j).length → (∀ k, k < m → (!(atB I (q + k) (sxC j k))) = false) → At γ σ 0 0 2 [(0, vR 1 0), (1, vK (15 + j)), (2, vI (nI m))] [] (pgW I (pst c0 q v kw rw)) := by
    intro r
    induction r with
    | zero =>
      intro m hm hno
      have hm : m = (sxB j).length := by omega
      refine B.run okX7_countMatching [(2, [0, 1, 2]), (34, [2])] 60 ?_
      refine At.qK [] [] [vI (nI m)] B.1 (x := vK (15 + j)) (q := cκ γ (15 + j)) (fun _ => rfl) ((sx_str B.1 hj).1) (s_strN j hj) kJ0_length_8abf5 ln_X7_70 trivial (B.fit (by decide) (by decide) (by decide)) (dcV okX7_countMatching rfl) ?_
      refine B.run okX7_countMatching [(2, [0, 1, 2]), (34, [2])] 60 ?_
      constructor
      · intro _
        refine B.run okX7_countMatching [] 60 ?_
        exact rI (by unfold cmN; rw [fst_none (fun k hk => hno k (by omega)), hm])
      · intro h
        exact absurd (nI_le (a := (sxB j).length) (b := m) (by omega) (by omega)) h
    | succ r ih =>
      intro m hm hno
      have hc := sxC_lt j hj m (by omega)
      refine B.run okX7_countMatching [(2, [0, 1, 2]), (34, [2])] 60 ?_
      refine At.qK [] [] [vI (nI m)] B.1 (x := vK (15 + j)) (q := cκ γ (15 + j)) (fun _ => rfl) ((sx_str B.1 hj).1) (s_strN j hj) kJ0_length_8abf5 ln_X7_70 trivial (B.fit (by decide) (by decide) (by decide)) (dcV okX7_countMatching rfl) ?_
      refine B.run okX7_countMatching [(2, [0, 1, 2]), (34, [2])] 60 ?_
      constructor
      · intro h
        exact absurd h (nI_ge (a := m) (b := (sxB j).length) (by omega) (by omega))
      · intro _
        refine B.run okX7_countMatching [(2, [0, 1, 2]), (34, [2])] 60 ?_
        refine At.qK [] [vI (nI m)] [vI (nI q + nI m), vR 1 0] B.1 (x := vK (15 + j)) (q := cκ γ (15 + j)) (fun _ => rfl) ((sx_str B.1 hj).1) (s_strC j m hj (by omega)) kJ0_charAt_5068e ln_X7_79 trivial (B.fit (by decide) (by decide) (by decide)) (dcV okX7_countMatching rfl) ?_
        show At γ σ 0 0 22 [(0, vR 1 0), (1, vK (15 + j)), (2, vI (nI m))] [vI (nI (sxC j m)), vI (nI q + nI m), vR 1 0] (pgW I (pst c0 q v kw rw))
        rw [nI_add]
        refine At.iQ [vI (nI (q + m)), vI (nI (sxC j m))] [] B.1 (s_p_isAt I hI (pst c0 q v kw rw) (q + m) (sxC j m) (by omega) (by omega)) kX7_isAt ln_X7_83 (B.fit (by decide) (by decide) (by decide)) (dcV okX7_countMatching rfl) ?_
        refine B.run okX7_countMatching [(2, [0, 1, 2]), (34, [2])] 60 ?_
        constructor
        · intro h
          have h := b2_eq0.mp h
          refine B.run okX7_countMatching [] 60 ?_
          exact rI (by unfold cmN; rw [fst_some (i := m) (by rw [h]; rfl) hno (by omega)])
        · intro h
          have h := b2_ne0.mp h
          show At γ σ 0 0 2 [(0, vR 1 0), (1, vK (15 + j)), (2, vI (nI m + 1))] [] (pgW I (pst c0 q v kw rw))
          rw [nI_1]
          refine ih (m + 1) (by omega) fun k hk => ?_
          rcases Nat.lt_or_ge k m with z | z
          · exact hno k z
          · have e : k = m := by omega
            rw [e, h]; rfl
  refine B.run okX7_countMatching [(2, [0, 1, 2]), (34, [2])] 60 ?_
  exact loop (sxB j).length 0 (by omega) (fun k hk => absurd hk (Nat.not_lt_zero _))
def rvN (I : SBB) (q c : Nat) : Bool := decide (c = 97) && atB I q 45
def rvQ (I : SBB) (q c : Nat) : Nat := if rvN I q c = true then q + 1 else q
def rvM (c : Nat) : Nat := if c = 110 then 3 else 1
def rvD (I : SBB) (q c : Nat) : Nat := fst (fun k => !(dgB I (rvQ I q c + k))) (rvM c)
def vlI (I : SBB) (q : Nat) : Nat → Int32
  | 0 => 0
  | k + 1 => vlI I q k * 10 + (nI (I.2.2 (q + k)) - 48)
def rvV (I : SBB) (q c : Nat) : Int32 := if rvN I q c = true then -(vlI I (rvQ I q c) (rvD I q c)) else vlI I (rvQ I q c) (rvD I q c)
theorem rvM_in (c : Nat) : 1 ≤ rvM c ∧ rvM c ≤ 3 := by unfold rvM; split <;> omega
theorem rvQ_in (I : SBB) (q c : Nat) : q ≤ rvQ I q c ∧ rvQ I q c ≤ q + 1 := by unfold rvQ; split <;> omega
theorem s_p_readValue (I : SBB) (hI : I.1 ≤ 1000) (c0 : Int32) (q : Nat) (v : Int32) (kw : Nat → Nat) (rw : Nat → FI) (c : Nat) (hc : c < 65536) (hq : q ≤ 1990) : Sp 6 0 0 mX7_readValue [vR 1 0, vI (nI c)] (pgW I (pst c0 q v kw rw)) (PoI (b2 (decide (0 < rvD I q c))) (pgW I (pst c0 (rvQ I q c + rvD I q c) (rvV I q c) kw rw))) := by
  refine Sp.of' false (fun h => by cases h) (by decide) rfl rfl (Nat.le_of_ble_eq_true rfl) fun γ σ B => ?_
  refine At.sbF (r := 0) (o := 0) (nn := I.1) (m := I.2.1) (t := I.2.2) rfl fun ht _ _ => ?_
  have hm3 := rvM_in c
  have hq1 := rvQ_in I q c
  have eD : rvD I q c = fst (fun k => !(dgB I (rvQ I q c + k))) (rvM c) := rfl
  have eV : rvV I q c = if rvN I q c = true then -(vlI I (rvQ I q c) (rvD I q c)) else vlI I (rvQ I q c) (rvD I q c) := rfl
  generalize hN : rvN I q c = N at eV
  generalize hQ : rvQ I q c = Q at *
  generalize hM : rvM c = M at *
  generalize hDD : rvD I q c = Dd at *
  have fin : ∀ k, k ≤ M → k = Dd → At γ σ 0 0 100 [(0, vR 1 0), (2, vI (b2 N)), (4, vI (nI k))] [] (pgW I (pst c0 (Q + k) (vlI I Q k) kw rw)) := by
    intro k hk ek
    have last : ∀ w, w = rvV I q c → At γ σ 0 0 113 [(0, vR 1 0), (4, vI (nI k))] [] (pgW I (pst c0 (Q + k) w kw rw)) := by
      intro w ew
      refine B.run okX7_readValue [] 60 ?_
      constructor
      · intro h
        have hz : ¬ 0 < k := fun z => nI_nle z (by omega) h
        exact rFa (by rw [← ek, decide_eq_false hz]) (by rw [ew, ← ek])
      · intro h
        have hz : 0 < k := by
          rcases Nat.eq_zero_or_pos k with z | z
          · exact absurd (by rw [z]; decide) h
          · exact z
        exact rT (by rw [← ek, decide_eq_true hz]) (by rw [ew, ← ek])
    refine B.run okX7_readValue [(41, [0, 1, 2, 3, 4]), (100, [0, 2, 4]), (20, [0, 1]), (32, [0, 1, 2]), (19, [0, 1]), (31, [0, 1, 2]), (113, [0, 4])] 60 ?_
    constructor
    · intro h
      have h := b2_eq0.mp h
      exact last _ (by rw [eV, h, ← ek]; rfl)
    · intro h
      have h := b2_ne0.mp h
      refine ⟨trivial, ?_⟩
      exact last _ (by rw [eV, h, ← ek, if_pos rfl])
  have loop : ∀ (r k : Nat), k + r = M → (∀ z, z < k → (!(dgB I (Q + z))) = false) → At γ σ 0 0 41 [(0, vR 1 0), (1, vI (nI c)), (2, vI (b2 N)), (3, vI (nI M)), (4, vI (nI k))] [] (pgW I (pst c0 (Q + k) (vlI I Q k) kw rw)) := by
    intro r
    induction r with
    | zero =>
      intro k hk hno
      have hk : k = M := by omega
      refine B.run okX7_readValue [(41, [0, 1, 2, 3, 4]), (100, [0, 2, 4]), (20, [0, 1]), (32, [0, 1, 2]), (19, [0, 1]), (31, [0, 1, 2]), (113, [0, 4])] 60 ?_
      constructor
      · intro _
        exact fin k (by omega) (by rw [eD, fst_none (fun z hz => hno z (by omega)), hk])
      · intro h
        exact absurd (nI_le (a := M) (b := k) (by omega) (by omega)) h
    | succ r ih =>
      intro k hk hno
      refine B.run okX7_readValue [(41, [0, 1, 2, 3, 4]), (100, [0, 2, 4]), (20, [0, 1]), (32, [0, 1, 2]), (19, [0, 1]), (31, [0, 1, 2]), (113, [0, 4])] 60 ?_
      constructor
      · intro h
        exact absurd h (nI_ge (a := k) (b := M) (by omega) (by omega))
      · intro _
        refine B.run okX7_readValue [(41, [0, 1, 2, 3, 4]), (100, [0, 2, 4]), (20, [0, 1]), (32, [0, 1, 2]), (19, [0, 1]), (31, [0, 1, 2]), (113, [0, 4])] 60 ?_
        refine At.iQ [vI (nI (Q + k))] [] B.1 (s_p_isDigitAt I hI (pst c0 (Q + k) (vlI I Q k) kw rw) (Q + k) (by omega)) kX7_isDigitAt ln_X7_93 (B.fit (by decide) (by decide) (by decide)) (dcV okX7_readValue rfl) ?_
        refine B.run okX7_readValue [(41, [0, 1, 2, 3, 4]), (100, [0, 2, 4]), (20, [0, 1]), (32, [0, 1, 2]), (19, [0, 1]), (31, [0, 1, 2]), (113, [0, 4])] 60 ?_
        constructor
        · intro h
          have h := b2_eq0.mp h
          exact fin k (by omega) (by rw [eD, fst_some (i := k) (by rw [h]; rfl) hno (by omega)])
        · intro h
          have h := b2_ne0.mp h
          have hin : Q + k < I.1 := by
            unfold dgB at h
            simp only [Bool.and_eq_true, decide_eq_true_eq] at h
            exact h.1
          refine B.run okX7_readValue [(41, [0, 1, 2, 3, 4]), (100, [0, 2, 4]), (20, [0, 1]), (32, [0, 1, 2]), (19, [0, 1]), (31, [0, 1, 2]), (113, [0, 4])] 60 ?_
          refine At.qV [0] [vI (nI (Q + k))] [vI (vlI I Q k * 10), vR 1 0] B.1 (c := aB I.1 I.2.1 I.2.2) (s_sChr I.1 I.2.1 (Q + k) I.2.2 hin) kJ4_charAt_5068e ln_X7_97 ⟨rfl, trivial⟩ (B.fit (by decide) (by decide) (by decide)) (dcV okX7_readValue rfl) rfl ?_
          refine B.run okX7_readValue [(41, [0, 1, 2, 3, 4]), (100, [0, 2, 4]), (20, [0, 1]), (32, [0, 1, 2]), (19, [0, 1]), (31, [0, 1, 2]), (113, [0, 4])] 60 ?_
          refine ⟨trivial, trivial, ?_⟩
          show At γ σ 0 0 41 [(0, vR 1 0), (1, vI (nI c)), (2, vI (b2 N)), (3, vI (nI M)), (4, vI (nI k + 1))] [] (pgW I (c0, nI (Q + k) + 1, vlI I Q k * 10 + (nI (I.2.2 (Q + k)) - 48), kw, rw))
          rw [nI_1, nI_1]
          refine ih (k + 1) (by omega) fun z hz => ?_
          rcases Nat.lt_or_ge z k with y | y
          · exact hno z y
          · have e : z = k := by omega
            rw [e, h]; rfl
  have mid2 : At γ σ 0 0 32 [(0, vR 1 0), (1, vI (nI c)), (2, vI (b2 N))] [vI (nI M)] (pgW I (pst c0 Q v kw rw)) := by
    refine B.run okX7_readValue [(41, [0, 1, 2, 3, 4]), (100, [0, 2, 4]), (20, [0, 1]), (32, [0, 1, 2]), (19, [0, 1]), (31, [0, 1, 2]), (113, [0, 4])] 60 ?_
    refine ⟨trivial, ?_⟩
    exact loop M 0 (by omega) (fun z hz => absurd hz (Nat.not_lt_zero _))
  have mid : At γ σ 0 0 20 [(0, vR 1 0), (1, vI (nI c))] [vI (b2 N)] (pgW I (pst c0 Q v kw rw)) := by
    refine B.run okX7_readValue [(41, [0, 1, 2, 3, 4]), (100, [0, 2, 4]), (20, [0, 1]), (32, [0, 1, 2]), (19, [0, 1]), (31, [0, 1, 2]), (113, [0, 4])] 60 ?_
    constructor
    · intro h
      have h : c = 110 := (nI_eq (b := 110) (by omega) (by decide)).mp h
      have e : M = 3 := by rw [← hM]; unfold rvM; rw [if_pos h]
      rw [e] at mid2
      exact mid2
    · intro h
      have h : ¬ c = 110 := fun z => h (by rw [z]; rfl)
      have e : M = 1 := by rw [← hM]; unfold rvM; rw [if_neg h]
      rw [e] at mid2
      refine B.run okX7_readValue [(41, [0, 1, 2, 3, 4]), (100, [0, 2, 4]), (20, [0, 1]), (32, [0, 1, 2]), (19, [0, 1]), (31, [0, 1, 2]), (113, [0, 4])] 60 ?_
      exact mid2
  have no : rvN I q c = false → At γ σ 0 0 19 [(0, vR 1 0), (1, vI (nI c))] [] (pgW I (pst c0 q v kw rw)) := by
    intro h
    have e1 : N = false := by rw [← hN, h]
    have e2 : Q = q := by rw [← hQ]; unfold rvQ; rw [h]; rfl
    rw [e1, e2] at mid
    refine B.run okX7_readValue [(41, [0, 1, 2, 3, 4]), (100, [0, 2, 4]), (20, [0, 1]), (32, [0, 1, 2]), (19, [0, 1]), (31, [0, 1, 2]), (113, [0, 4])] 60 ?_
    exact mid
  refine B.run okX7_readValue [(41, [0, 1, 2, 3, 4]), (100, [0, 2, 4]), (20, [0, 1]), (32, [0, 1, 2]), (19, [0, 1]), (31, [0, 1, 2]), (113, [0, 4])] 60 ?_
  constructor
  · intro h
    have h : c = 97 := (nI_eq (b := 97) (by omega) (by decide)).mp h
    refine B.run okX7_readValue [(41, [0, 1, 2, 3, 4]), (100, [0, 2, 4]), (20, [0, 1]), (32, [0, 1, 2]), (19, [0, 1]), (31, [0, 1, 2]), (113, [0, 4])] 60 ?_
    refine At.iQ [vI (nI 45)] [] B.1 (s_p_take I hI c0 q v kw rw 45 (by omega) (by decide)) kX7_take ln_X7_56 (B.fit (by decide) (by decide) (by decide)) (dcV okX7_readValue rfl) ?_
    refine B.run okX7_readValue [(41, [0, 1, 2, 3, 4]), (100, [0, 2, 4]), (20, [0, 1]), (32, [0, 1, 2]), (19, [0, 1]), (31, [0, 1, 2]), (113, [0, 4])] 60 ?_
    constructor
    · intro h2
      have h2 := b2_eq0.mp h2
      have e : tkQ I q 45 = q := by unfold tkQ; rw [h2]; rfl
      have g := no (by unfold rvN; rw [h2, Bool.and_false])
      rw [← e] at g
      exact g
    · intro h2
      have h2 := b2_ne0.mp h2
      have eN : rvN I q c = true := by unfold rvN; rw [decide_eq_true h, h2]; rfl
      have e1 : N = true := by rw [← hN, eN]
      have e2 : Q = tkQ I q 45 := by rw [← hQ]; unfold rvQ tkQ; rw [if_pos eN, if_pos h2]
      rw [e1, e2] at mid
      exact mid
  · intro h
    exact no (by unfold rvN; rw [decide_eq_false (fun z => h (by rw [z]; rfl))]; rfl)
