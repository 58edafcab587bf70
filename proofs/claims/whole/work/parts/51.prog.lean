/-! ===== Program: its letters and numbers ===== -/
def pgW (I : SBB) (p : PS) : AHp := [aB I.1 I.2.1 I.2.2] :: wP 0 1 p
def atB (I : SBB) (i c : Nat) : Bool := decide (i < I.1) && decide (I.2.2 i = c)
def dgB (I : SBB) (i : Nat) : Bool := decide (i < I.1) && (decide (48 ≤ I.2.2 i) && decide (I.2.2 i ≤ 57))
abbrev pst (c : Int32) (q : Nat) (v : Int32) (kw : Nat → Nat) (rw : Nat → FI) : PS := (c, nI q, v, kw, rw)
section ATQI
variable {γ : CX} {own : String} {cc : ByteArray} {σ : Nat → Nat → Nat} {k n pc : Nat} {ls : List (Nat × AV)} {st : List AV} {h h2 : AHp} {mc2 ms2 d2 ix na r o : Nat} {M : MR} {v : Option AV}
/-- a call over the whole heap, of an object's method that doesn't throw -/
theorem At.iQ (As rest : List AV) (O : OK γ own cc) {ci : Nat} {fs : List AV} {T : u_T} {N : Nat} (S : Sp d2 mc2 ms2 M (vR r o :: As) h (PoQ v h2)) (K : KV M na) (w : Cond.methodLink own ix (mY M) ∈ GT) (hf : Fit γ k n d2 mc2 ms2) (d : decode cc pc = .ok (.invokevirtual ix, 3))
    (g : At γ σ (k + mc2) (n + ms2) (pc + 3) ls (v.toList ++ rest) h2) (hb : bdH h.length h = true := by rfl) (hb2 : bdH h.length h2 = true := by rfl) (hl : h2.length = h.length := by rfl) (ha : (vR r o :: As).all (bdV h.length) = true := by rfl) (hv : v.toList.all (bdV h.length) = true := by rfl) (hg : hget h r o = some (aO ci fs) := by rfl) (hc : vwCl[ci]? = some ((mY M).cls, T, N) := by rfl) (hna : As.length = na := by rfl) (hrw : wsum rest ≤ 8 := by exact Nat.le_of_ble_eq_true rfl) (hst : st = As.reverse ++ vR r o :: rest := by rfl) : At γ σ k n pc ls st h := by
  have e1 : plug (List.range h.length) (List.range h.length) h2 h = h2 := plug_id hb2 hl
  have ha2 : bdV h.length (vR r o) = true ∧ As.all (bdV h.length) = true := by
    simp only [List.all_cons, Bool.and_eq_true] at ha
    exact ha
  have ea : As.map (ren (List.range h.length)) = As := ren_idL ha2.2
  have er : vR (rn (List.range h.length) r) o = vR r o := ren_id ha2.1
  refine At.qV (List.range h.length) As rest O (c := aO ci fs) S K w (Fits_id hb) hf d ⟨T, N, hc⟩ ?_ hg (range_nd _) hna hrw (by rw [ea, er]; exact hst) hl
  rw [ren_idL hv, e1]; exact g
end ATQI
theorem s_p_isAt (I : SBB) (hI : I.1 ≤ 1000) (p : PS) (i c : Nat) (hi : i ≤ 3000) (hc : c < 65536) : Sp 4 0 0 mX7_isAt [vR 1 0, vI (nI i), vI (nI c)] (pgW I p) (PoI (b2 (atB I i c)) (pgW I p)) := by
  refine Sp.of' false (fun h => by cases h) (by decide) rfl rfl (Nat.le_of_ble_eq_true rfl) fun γ σ B => ?_
  refine At.sbF (r := 0) (o := 0) (nn := I.1) (m := I.2.1) (t := I.2.2) rfl fun ht _ _ => ?_
  have bad : atB I i c = false → At γ σ 0 0 27 [(0, vR 1 0), (1, vI (nI i)), (2, vI (nI c))] [] (pgW I p) := fun hb => by
    refine B.run okX7_isAt [] 60 ?_
    exact rFa hb
  refine B.run okX7_isAt [(27, [0, 1, 2])] 60 ?_
  refine At.qV [0] [] [vI (nI i)] B.1 (c := aB I.1 I.2.1 I.2.2) (s_sbLen I.1 I.2.1 I.2.2) kJ4_length_8abf5 ln_X7_52 ⟨rfl, trivial⟩ (B.fit (by decide) (by decide) (by decide)) (dcV okX7_isAt rfl) rfl ?_
  refine B.run okX7_isAt [(27, [0, 1, 2])] 60 ?_
  constructor
  · intro h
    exact bad (by unfold atB; rw [decide_eq_false (fun q => nI_ge q (by omega) h)]; rfl)
  · intro h
    have h1 : i < I.1 := Nat.lt_of_not_le fun q => h (nI_le q (by omega))
    refine B.run okX7_isAt [(27, [0, 1, 2])] 60 ?_
    refine At.qV [0] [vI (nI i)] [] B.1 (c := aB I.1 I.2.1 I.2.2) (s_sChr I.1 I.2.1 i I.2.2 h1) kJ4_charAt_5068e ln_X7_97 ⟨rfl, trivial⟩ (B.fit (by decide) (by decide) (by decide)) (dcV okX7_isAt rfl) rfl ?_
    refine B.run okX7_isAt [(27, [0, 1, 2])] 60 ?_
    have h256 := ht i h1
    constructor
    · intro h2
      exact rT (by unfold atB; rw [decide_eq_true h1, decide_eq_true ((nI_eq (by omega) (by omega)).mp h2)]; rfl)
    · intro h2
      exact bad (by unfold atB; rw [decide_eq_false (p := I.2.2 i = c) (fun q => h2 (by rw [q])), Bool.and_false])
theorem s_p_isDigitAt (I : SBB) (hI : I.1 ≤ 1000) (p : PS) (i : Nat) (hi : i ≤ 3000) : Sp 4 0 0 mX7_isDigitAt [vR 1 0, vI (nI i)] (pgW I p) (PoI (b2 (dgB I i)) (pgW I p)) := by
  refine Sp.of' false (fun h => by cases h) (by decide) rfl rfl (Nat.le_of_ble_eq_true rfl) fun γ σ B => ?_
  refine At.sbF (r := 0) (o := 0) (nn := I.1) (m := I.2.1) (t := I.2.2) rfl fun ht _ _ => ?_
  have bad : dgB I i = false → At γ σ 0 0 41 [(0, vR 1 0), (1, vI (nI i))] [] (pgW I p) := fun hb => by
    refine B.run okX7_isDigitAt [] 60 ?_
    exact rFa hb
  refine B.run okX7_isDigitAt [(41, [0, 1])] 60 ?_
  refine At.qV [0] [] [vI (nI i)] B.1 (c := aB I.1 I.2.1 I.2.2) (s_sbLen I.1 I.2.1 I.2.2) kJ4_length_8abf5 ln_X7_52 ⟨rfl, trivial⟩ (B.fit (by decide) (by decide) (by decide)) (dcV okX7_isDigitAt rfl) rfl ?_
  refine B.run okX7_isDigitAt [(41, [0, 1])] 60 ?_
  constructor
  · intro h
    exact bad (by unfold dgB; rw [decide_eq_false (fun q => nI_ge q (by omega) h)]; rfl)
  · intro h
    have h1 : i < I.1 := Nat.lt_of_not_le fun q => h (nI_le q (by omega))
    refine B.run okX7_isDigitAt [(41, [0, 1])] 60 ?_
    refine At.qV [0] [vI (nI i)] [] B.1 (c := aB I.1 I.2.1 I.2.2) (s_sChr I.1 I.2.1 i I.2.2 h1) kJ4_charAt_5068e ln_X7_97 ⟨rfl, trivial⟩ (B.fit (by decide) (by decide) (by decide)) (dcV okX7_isDigitAt rfl) rfl ?_
    refine B.run okX7_isDigitAt [(41, [0, 1])] 60 ?_
    have h256 := ht i h1
    constructor
    · intro h2
      have h3 : ¬ 48 ≤ I.2.2 i := fun q => absurd h2 (nI_nlt (b := 48) q (by omega))
      exact bad (by unfold dgB; rw [decide_eq_false h3, Bool.false_and, Bool.and_false])
    · intro h2
      have h3 : 48 ≤ I.2.2 i := Nat.le_of_not_lt fun q => h2 (nI_lt (b := 48) q (by decide))
      refine B.run okX7_isDigitAt [(41, [0, 1])] 60 ?_
      refine At.qV [0] [vI (nI i)] [] B.1 (c := aB I.1 I.2.1 I.2.2) (s_sChr I.1 I.2.1 i I.2.2 h1) kJ4_charAt_5068e ln_X7_97 ⟨rfl, trivial⟩ (B.fit (by decide) (by decide) (by decide)) (dcV okX7_isDigitAt rfl) rfl ?_
      refine B.run okX7_isDigitAt [(41, [0, 1])] 60 ?_
      constructor
      · intro h4
        have h5 : ¬ I.2.2 i ≤ 57 := fun q => absurd h4 (nI_nlt (a := 57) q (by decide))
        exact bad (by unfold dgB; rw [decide_eq_false h5, Bool.and_false, Bool.and_false])
      · intro h4
        have h5 : I.2.2 i ≤ 57 := Nat.le_of_not_lt fun q => h4 (nI_lt (a := 57) q (by omega))
        exact rT (by unfold dgB; rw [decide_eq_true h1, decide_eq_true h3, decide_eq_true h5]; rfl)
def tkQ (I : SBB) (q c : Nat) : Nat := if atB I q c = true then q + 1 else q
theorem s_p_take (I : SBB) (hI : I.1 ≤ 1000) (c0 : Int32) (q : Nat) (v : Int32) (kw : Nat → Nat) (rw : Nat → FI) (c : Nat) (hq : q ≤ 2000) (hc : c < 65536) : Sp 5 0 0 mX7_take [vR 1 0, vI (nI c)] (pgW I (pst c0 q v kw rw)) (PoI (b2 (atB I q c)) (pgW I (pst c0 (tkQ I q c) v kw rw))) := by
  refine Sp.of' false (fun h => by cases h) (by decide) rfl rfl (Nat.le_of_ble_eq_true rfl) fun γ σ B => ?_
  refine B.run okX7_take [] 60 ?_
  refine At.iQ [vI (nI q), vI (nI c)] [] B.1 (s_p_isAt I hI (pst c0 q v kw rw) q c (by omega) hc) kX7_isAt ln_X7_83 (B.fit (by decide) (by decide) (by decide)) (dcV okX7_take rfl) ?_
  refine B.run okX7_take [] 60 ?_
  constructor
  · intro h
    have h := b2_eq0.mp h
    have e : tkQ I q c = q := by unfold tkQ; rw [h]; rfl
    exact ⟨b2_in _, rI rfl (by rw [e])⟩
  · intro h
    have h := b2_ne0.mp h
    have e : tkQ I q c = q + 1 := by unfold tkQ; rw [if_pos h]
    refine ⟨trivial, b2_in _, rI rfl ?_⟩
    rw [e]
    show pgW I (c0, nI q + 1, v, kw, rw) = _
    rw [nI_1]
