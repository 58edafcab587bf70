/-! ===== the arguments of a command: class and model ===== -/
theorem dgN_0 {I : SBB} {q : Nat} (h : ¬ dgB I q = true) (k : Nat) : dgN I (k + 1) q = 0 := by
  unfold dgN
  rw [fst_sh]
  show (if (!(dgB I q)) = true then 0 else _) = 0
  rw [Bool.eq_false_iff.mpr h]
  rfl
theorem dgN_p {I : SBB} {q : Nat} (h : dgB I q = true) (k : Nat) : 0 < dgN I (k + 1) q := by
  unfold dgN
  rw [fst_sh]
  show 0 < (if (!(dgB I q)) = true then 0 else _)
  rw [h, if_neg (by decide)]
  exact Nat.succ_pos _
/-- a number of the model and a step of the class -/
def STP (I : SBB) (j m i : Nat) (f : FI) (r : Int32 × PQ) (A : Bool × Nat × Int32 × FI) : Prop := match r.2.2 with
  | none => A = raF I j m i r.2.1 r.1 (upd f (i / 2) r.1)
  | some p => ∃ w, A = (false, p, w, f) ∧ r.2.1 = p
theorem ra_sp {I : SBB} {j m i q : Nat} {v : Int32} {f : FI} (h : sxC j i = 32) : raF I j (m + 1) i q v f = if atB I q 32 = true then raF I j m (i + 1) (q + 1) v f else (false, q, v, f) := by
  show (if sxC j i = 32 then _ else _) = _
  rw [if_pos h]
theorem ra_dg {I : SBB} {j m i q c k : Nat} {v : Int32} {f : FI} (h : sxC j i = c) (hc : c = 110 ∧ k = 3 ∨ c = 100 ∧ k = 1) : STP I j m (i + 1) f (dgt I k (q, none)) (raF I j (m + 1) i q v f) := by
  have a1 : raF I j (m + 1) i q v f = if c = 32 then (if atB I q 32 = true then raF I j m (i + 1) (q + 1) v f else (false, q, v, f)) else if 0 < rvD I q c then raF I j m (i + 1) (rvQ I q c + rvD I q c) (rvV I q c) (upd f ((i + 1) / 2) (rvV I q c)) else (false, rvQ I q c + rvD I q c, rvV I q c, f) := by
    rw [← h]
    rfl
  rw [a1]
  obtain ⟨k0, rfl, e0, e1, e2, e3⟩ : ∃ k0, k = k0 + 1 ∧ c ≠ 32 ∧ rvQ I q c = q ∧ rvD I q c = dgN I (k0 + 1) q ∧ rvV I q c = vlI I q (dgN I (k0 + 1) q) := by
    rcases hc with ⟨rfl, rfl⟩ | ⟨rfl, rfl⟩
    · exact ⟨2, rfl, by decide, rfl, rfl, rfl⟩
    · exact ⟨0, rfl, by decide, rfl, rfl, rfl⟩
  rw [if_neg e0, e1, e2, e3]
  show STP I j m (i + 1) f (if dgB I q = true then (vlI I q (dgN I (k0 + 1) q), (q + dgN I (k0 + 1) q, none)) else (0, (q, some q))) _
  by_cases d : dgB I q = true
  · rw [if_pos d, if_pos (dgN_p d k0)]
    exact rfl
  · rw [if_neg d, dgN_0 d, if_neg (Nat.lt_irrefl 0)]
    exact ⟨_, rfl, rfl⟩
theorem ra_sg {I : SBB} {j m i q : Nat} {v : Int32} {f : FI} {s : PQ} (h : sxC j i = 97) (hs : nd I 32 s = (q, none)) : STP I j m (i + 1) f (sgd I s) (raF I j (m + 1) i q v f) := by
  have a1 : raF I j (m + 1) i q v f = if (97 : Nat) = 32 then (if atB I q 32 = true then raF I j m (i + 1) (q + 1) v f else (false, q, v, f)) else if 0 < rvD I q 97 then raF I j m (i + 1) (rvQ I q 97 + rvD I q 97) (rvV I q 97) (upd f ((i + 1) / 2) (rvV I q 97)) else (false, rvQ I q 97 + rvD I q 97, rvV I q 97, f) := by
    rw [← h]
    rfl
  rw [a1, if_neg (by decide)]
  unfold sgd
  rw [hs]
  have n1 : rvN I q 97 = atB I q 45 := rfl
  have n2 : sgB I (q, none) = atB I q 45 := rfl
  rw [n2]
  by_cases g : atB I q 45 = true
  · have e1 : rvQ I q 97 = q + 1 := by unfold rvQ; rw [n1, if_pos g]
    have e2 : rvD I q 97 = dgN I 1 (q + 1) := by unfold rvD; rw [e1]; rfl
    have e3 : rvV I q 97 = -(vlI I (q + 1) (dgN I 1 (q + 1))) := by unfold rvV; rw [n1, if_pos g, e1, e2]
    rw [if_pos g, e1, e2, e3]
    have e4 : dgt I 1 (q + 1, none) = if dgB I (q + 1) = true then (vlI I (q + 1) (dgN I 1 (q + 1)), (q + 1 + dgN I 1 (q + 1), none)) else (0, (q + 1, some (q + 1))) := rfl
    rw [e4]
    by_cases d : dgB I (q + 1) = true
    · rw [if_pos d, if_pos (dgN_p d 0)]
      exact rfl
    · rw [if_neg d, dgN_0 d 0, if_neg (Nat.lt_irrefl 0)]
      exact ⟨_, rfl, rfl⟩
  · have e1 : rvQ I q 97 = q := by unfold rvQ; rw [n1, if_neg g]
    have e2 : rvD I q 97 = dgN I 1 q := by unfold rvD; rw [e1]; rfl
    have e3 : rvV I q 97 = vlI I q (dgN I 1 q) := by unfold rvV; rw [n1, if_neg g, e1, e2]
    rw [if_neg g, e1, e2, e3]
    have e4 : dgt I 1 (q, none) = if dgB I q = true then (vlI I q (dgN I 1 q), (q + dgN I 1 q, none)) else (0, (q, some q)) := rfl
    rw [e4]
    by_cases d : dgB I q = true
    · rw [if_pos d, if_pos (dgN_p d 0)]
      exact rfl
    · rw [if_neg d, dgN_0 d 0, if_neg (Nat.lt_irrefl 0)]
      exact ⟨_, rfl, rfl⟩
theorem ra_nm {I : SBB} {j m i q c k : Nat} {v : Int32} {f : FI} (h0 : sxC j i = 32) (h : sxC j (i + 1) = c) (hc : c = 110 ∧ k = 3 ∨ c = 100 ∧ k = 1) : STP I j m (i + 2) f (nmb I k (q, none)) (raF I j (m + 2) i q v f) := by
  rw [show m + 2 = (m + 1) + 1 from rfl, ra_sp h0]
  have e : nmb I k (q, none) = dgt I k (if atB I q 32 = true then (q + 1, none) else (q, some q)) := rfl
  rw [e]
  by_cases g : atB I q 32 = true
  · rw [if_pos g, if_pos g]
    exact ra_dg h hc
  · rw [if_neg g, if_neg g]
    exact ⟨_, rfl, rfl⟩
theorem nmb_some (I : SBB) (k q p : Nat) : nmb I k (q, some p) = (0, (q, some p)) := rfl
/-- what a command's arguments come to -/
def AGR (u n : Nat) (C : FI) (A : Bool × Nat × Int32 × FI) (B : FI × PQ) : Prop := (if A.1 = true then B.2 = (A.2.1, none) ∧ B.1 (4 * n + 1) = A.2.2.2 0 ∧ (2 ≤ u → B.1 (4 * n + 2) = A.2.2.2 1) ∧ (3 ≤ u → B.1 (4 * n + 3) = A.2.2.2 2) else B.2 = (A.2.1, some A.2.1)) ∧ ∀ x, x < 4 * n + 1 → B.1 x = C x
theorem ag1 {I : SBB} {j n q : Nat} {v : Int32} {f C : FI} {r : Int32 × PQ} {A : Bool × Nat × Int32 × FI} (h : STP I j 0 1 f r A) : AGR 1 n C A (upd C (4 * n + 1) r.1, r.2) := by
  obtain ⟨V, q1, er⟩ := r
  have fr : ∀ x, x < 4 * n + 1 → upd C (4 * n + 1) V x = C x := fun x hx => upd_ne _ _ (by omega)
  cases er with
  | none =>
    have h : A = (true, q1, V, upd f (1 / 2) V) := h
    subst h
    exact ⟨⟨rfl, by show upd C (4 * n + 1) V (4 * n + 1) = upd f 0 V 0; rw [upd_eq, upd_eq], fun w => absurd w (by decide), fun w => absurd w (by decide)⟩, fr⟩
  | some p =>
    obtain ⟨w, e, e2⟩ := h
    subst e
    have e2 : q1 = p := e2
    subst e2
    exact ⟨rfl, fr⟩
theorem ag2 {I : SBB} {j n q c k : Nat} {v : Int32} {f C : FI} {r : Int32 × PQ} {A : Bool × Nat × Int32 × FI} (h : STP I j 2 1 f r A) (h0 : sxC j 1 = 32) (h1 : sxC j 2 = c) (hc : c = 110 ∧ k = 3 ∨ c = 100 ∧ k = 1) : AGR 2 n C A (upd (upd C (4 * n + 1) r.1) (4 * n + 2) (nmb I k r.2).1, (nmb I k r.2).2) := by
  obtain ⟨V, q1, er⟩ := r
  cases er with
  | none =>
    have h : A = raF I j 2 1 q1 V (upd f (1 / 2) V) := h
    have z := ra_nm (I := I) (m := 0) (q := q1) (v := V) (f := upd f (1 / 2) V) h0 h1 hc
    rw [← h] at z
    show AGR 2 n C A (upd (upd C (4 * n + 1) V) (4 * n + 2) (nmb I k (q1, none)).1, (nmb I k (q1, none)).2)
    generalize nmb I k (q1, none) = r2 at z ⊢
    obtain ⟨V2, q2, er2⟩ := r2
    have fr : ∀ x, x < 4 * n + 1 → upd (upd C (4 * n + 1) V) (4 * n + 2) V2 x = C x := fun x hx => by rw [upd_ne _ _ (by omega), upd_ne _ _ (by omega)]
    cases er2 with
    | none =>
      have z : A = (true, q2, V2, upd (upd f 0 V) 1 V2) := z
      subst z
      exact ⟨⟨rfl, by show upd (upd C (4 * n + 1) V) (4 * n + 2) V2 (4 * n + 1) = upd (upd f 0 V) 1 V2 0; rw [upd_ne _ _ (by omega), upd_eq, upd_ne _ _ (by omega), upd_eq], fun _ => by show upd (upd C (4 * n + 1) V) (4 * n + 2) V2 (4 * n + 2) = upd (upd f 0 V) 1 V2 1; rw [upd_eq, upd_eq], fun w => absurd w (by decide)⟩, fr⟩
    | some p =>
      obtain ⟨w, e, e2⟩ := z
      subst e
      have e2 : q2 = p := e2
      subst e2
      exact ⟨rfl, fr⟩
  | some p =>
    obtain ⟨w, e, e2⟩ := h
    subst e
    have e2 : q1 = p := e2
    subst e2
    exact ⟨rfl, fun x hx => by show upd (upd C (4 * n + 1) V) (4 * n + 2) 0 x = C x; rw [upd_ne _ _ (by omega), upd_ne _ _ (by omega)]⟩
theorem ag3 {I : SBB} {j n q : Nat} {v : Int32} {f C : FI} {r : Int32 × PQ} {A : Bool × Nat × Int32 × FI} (h : STP I j 4 1 f r A) (h0 : sxC j 1 = 32) (h1 : sxC j 2 = 100) (h2 : sxC j 3 = 32) (h3 : sxC j 4 = 110) : AGR 3 n C A (upd (upd (upd C (4 * n + 1) r.1) (4 * n + 2) (nmb I 1 r.2).1) (4 * n + 3) (nmb I 3 (nmb I 1 r.2).2).1, (nmb I 3 (nmb I 1 r.2).2).2) := by
  obtain ⟨V, q1, er⟩ := r
  have fr3 : ∀ V V2 V3 x, x < 4 * n + 1 → upd (upd (upd C (4 * n + 1) V) (4 * n + 2) V2) (4 * n + 3) V3 x = C x := fun V V2 V3 x hx => by rw [upd_ne _ _ (by omega), upd_ne _ _ (by omega), upd_ne _ _ (by omega)]
  cases er with
  | none =>
    have h : A = raF I j 4 1 q1 V (upd f (1 / 2) V) := h
    have z := ra_nm (I := I) (m := 2) (q := q1) (v := V) (f := upd f (1 / 2) V) h0 h1 (k := 1) (Or.inr ⟨rfl, rfl⟩)
    rw [← h] at z
    show AGR 3 n C A (upd (upd (upd C (4 * n + 1) V) (4 * n + 2) (nmb I 1 (q1, none)).1) (4 * n + 3) (nmb I 3 (nmb I 1 (q1, none)).2).1, (nmb I 3 (nmb I 1 (q1, none)).2).2)
    generalize nmb I 1 (q1, none) = r2 at z ⊢
    obtain ⟨V2, q2, er2⟩ := r2
    cases er2 with
    | none =>
      have z : A = raF I j 2 3 q2 V2 (upd (upd f 0 V) 1 V2) := z
      have y := ra_nm (I := I) (m := 0) (q := q2) (v := V2) (f := upd (upd f 0 V) 1 V2) h2 h3 (k := 3) (Or.inl ⟨rfl, rfl⟩)
      rw [← z] at y
      show AGR 3 n C A (upd (upd (upd C (4 * n + 1) V) (4 * n + 2) V2) (4 * n + 3) (nmb I 3 (q2, none)).1, (nmb I 3 (q2, none)).2)
      generalize nmb I 3 (q2, none) = r3 at y ⊢
      obtain ⟨V3, q3, er3⟩ := r3
      cases er3 with
      | none =>
        have y : A = (true, q3, V3, upd (upd (upd f 0 V) 1 V2) 2 V3) := y
        subst y
        exact ⟨⟨rfl, by show upd (upd (upd C (4 * n + 1) V) (4 * n + 2) V2) (4 * n + 3) V3 (4 * n + 1) = upd (upd (upd f 0 V) 1 V2) 2 V3 0; rw [upd_ne _ _ (by omega), upd_ne _ _ (by omega), upd_eq, upd_ne _ _ (by omega), upd_ne _ _ (by omega), upd_eq],
          fun _ => by show upd (upd (upd C (4 * n + 1) V) (4 * n + 2) V2) (4 * n + 3) V3 (4 * n + 2) = upd (upd (upd f 0 V) 1 V2) 2 V3 1; rw [upd_ne _ _ (by omega), upd_eq, upd_ne _ _ (by omega), upd_eq],
          fun _ => by show upd (upd (upd C (4 * n + 1) V) (4 * n + 2) V2) (4 * n + 3) V3 (4 * n + 3) = upd (upd (upd f 0 V) 1 V2) 2 V3 2; rw [upd_eq, upd_eq]⟩, fr3 _ _ _⟩
      | some p =>
        obtain ⟨w, e, e2⟩ := y
        subst e
        have e2 : q3 = p := e2
        subst e2
        exact ⟨rfl, fr3 _ _ _⟩
    | some p =>
      obtain ⟨w, e, e2⟩ := z
      subst e
      have e2 : q2 = p := e2
      subst e2
      exact ⟨rfl, fr3 V V2 0⟩
  | some p =>
    obtain ⟨w, e, e2⟩ := h
    subst e
    have e2 : q1 = p := e2
    subst e2
    exact ⟨rfl, fr3 V 0 0⟩
/-- how many arguments a command has -/
def usN (j : Nat) : Nat := match j with
  | 2 => 1 | 7 => 1 | 9 => 1 | 6 => 3 | _ => 2
theorem arg_eq {I : SBB} {n q : Nat} {v : Int32} {f C : FI} {s : PQ} (hs : nd I 32 s = (q, none)) : ∀ j, j < 10 → AGR (usN j) n C (raR I (shp j) q v f) (argF I (kdJ j) n C s) := by
  have hn : ∀ k, nmb I k s = dgt I k (q, none) := fun k => by unfold nmb; rw [hs]
  refine ten ?_ ?_ ?_ ?_ ?_ ?_ ?_ ?_ ?_ ?_
  · exact ag2 (v := v) (q := q) (ra_sg rfl hs) rfl rfl (Or.inl ⟨rfl, rfl⟩)
  · have z := ag2 (I := I) (n := n) (C := C) (v := v) (q := q) (k := 3) (ra_dg (I := I) (j := 11) (m := 2) (i := 0) (q := q) (v := v) (f := f) rfl (k := 1) (Or.inr ⟨rfl, rfl⟩)) rfl rfl (Or.inl ⟨rfl, rfl⟩)
    rw [← hn] at z
    exact z
  · have z := ag1 (I := I) (n := n) (C := C) (v := v) (q := q) (ra_dg (I := I) (j := 12) (m := 0) (i := 0) (q := q) (v := v) (f := f) rfl (k := 3) (Or.inl ⟨rfl, rfl⟩))
    rw [← hn] at z
    exact z
  · have z := ag2 (I := I) (n := n) (C := C) (v := v) (q := q) (k := 1) (ra_dg (I := I) (j := 13) (m := 2) (i := 0) (q := q) (v := v) (f := f) rfl (k := 3) (Or.inl ⟨rfl, rfl⟩)) rfl rfl (Or.inr ⟨rfl, rfl⟩)
    rw [← hn] at z
    exact z
  · have z := ag2 (I := I) (n := n) (C := C) (v := v) (q := q) (k := 3) (ra_dg (I := I) (j := 11) (m := 2) (i := 0) (q := q) (v := v) (f := f) rfl (k := 1) (Or.inr ⟨rfl, rfl⟩)) rfl rfl (Or.inl ⟨rfl, rfl⟩)
    rw [← hn] at z
    exact z
  · have z := ag2 (I := I) (n := n) (C := C) (v := v) (q := q) (k := 3) (ra_dg (I := I) (j := 11) (m := 2) (i := 0) (q := q) (v := v) (f := f) rfl (k := 1) (Or.inr ⟨rfl, rfl⟩)) rfl rfl (Or.inl ⟨rfl, rfl⟩)
    rw [← hn] at z
    exact z
  · have z := ag3 (I := I) (n := n) (C := C) (v := v) (q := q) (ra_dg (I := I) (j := 14) (m := 4) (i := 0) (q := q) (v := v) (f := f) rfl (k := 1) (Or.inr ⟨rfl, rfl⟩)) rfl rfl rfl rfl
    rw [← hn] at z
    exact z
  · have z := ag1 (I := I) (n := n) (C := C) (v := v) (q := q) (ra_dg (I := I) (j := 15) (m := 0) (i := 0) (q := q) (v := v) (f := f) rfl (k := 1) (Or.inr ⟨rfl, rfl⟩))
    rw [← hn] at z
    exact z
  · have z := ag2 (I := I) (n := n) (C := C) (v := v) (q := q) (k := 1) (ra_dg (I := I) (j := 13) (m := 2) (i := 0) (q := q) (v := v) (f := f) rfl (k := 3) (Or.inl ⟨rfl, rfl⟩)) rfl rfl (Or.inr ⟨rfl, rfl⟩)
    rw [← hn] at z
    exact z
  · have z := ag1 (I := I) (n := n) (C := C) (v := v) (q := q) (ra_dg (I := I) (j := 12) (m := 0) (i := 0) (q := q) (v := v) (f := f) rfl (k := 3) (Or.inl ⟨rfl, rfl⟩))
    rw [← hn] at z
    exact z
