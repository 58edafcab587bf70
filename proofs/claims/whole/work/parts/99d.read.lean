/-! ===== a program read: class and model ===== -/
theorem ra_end {I : SBB} {j : Nat} : ∀ (m i q : Nat) (v : Int32) (f : FI), (m = 0 → q ≤ I.1) → (raF I j m i q v f).1 = true → q + m ≤ (raF I j m i q v f).2.1 ∧ (raF I j m i q v f).2.1 ≤ I.1
  | 0, i, q, v, f, h, _ => ⟨Nat.le_refl _, h rfl⟩
  | m + 1, i, q, v, f, _, ht => by
    have a1 : raF I j (m + 1) i q v f = if sxC j i = 32 then (if atB I q 32 = true then raF I j m (i + 1) (q + 1) v f else (false, q, v, f)) else if 0 < rvD I q (sxC j i) then raF I j m (i + 1) (rvQ I q (sxC j i) + rvD I q (sxC j i)) (rvV I q (sxC j i)) (upd f ((i + 1) / 2) (rvV I q (sxC j i))) else (false, rvQ I q (sxC j i) + rvD I q (sxC j i), rvV I q (sxC j i), f) := rfl
    rw [a1] at ht ⊢
    by_cases e : sxC j i = 32
    · rw [if_pos e] at ht ⊢
      by_cases g : atB I q 32 = true
      · rw [if_pos g] at ht ⊢
        have := ra_end m (i + 1) (q + 1) v f (fun _ => atB_lt g) ht
        omega
      · rw [if_neg g] at ht
        cases ht
    · rw [if_neg e] at ht ⊢
      by_cases g : 0 < rvD I q (sxC j i)
      · rw [if_pos g] at ht ⊢
        have hq := (rvQ_in I q (sxC j i)).1
        have hb : rvQ I q (sxC j i) + rvD I q (sxC j i) ≤ I.1 := by
          have z := fst_no (p := fun k => !(dgB I (rvQ I q (sxC j i) + k))) (n := rvM (sxC j i)) (k := rvD I q (sxC j i) - 1) (by show rvD I q (sxC j i) - 1 < rvD I q (sxC j i); omega)
          have z : (!(dgB I (rvQ I q (sxC j i) + (rvD I q (sxC j i) - 1)))) = false := z
          have z2 : dgB I (rvQ I q (sxC j i) + (rvD I q (sxC j i) - 1)) = true := by simpa using z
          unfold dgB at z2
          simp only [Bool.and_eq_true, decide_eq_true_eq] at z2
          omega
        have := ra_end m (i + 1) _ _ _ (fun _ => hb) ht
        omega
      · rw [if_neg g] at ht
        cases ht
theorem sx7 : ∀ j, j < 10 → 7 ≤ (sxB j).length + (sxB (shp j)).length ∧ 1 ≤ (sxB (shp j)).length := by decide
theorem z4_lo (C : FI) (n : Nat) {x : Nat} (hx : x < 4 * n) : z4 C n 4 x = C x := by
  show upd (upd (upd (upd C (4 * n + 0) 0) (4 * n + 1) 0) (4 * n + 2) 0) (4 * n + 3) 0 x = C x
  rw [upd_ne _ _ (by omega), upd_ne _ _ (by omega), upd_ne _ _ (by omega), upd_ne _ _ (by omega)]
theorem argF_some {I : SBB} {n p : Nat} {C : FI} {s : PQ} (hs : nd I 32 s = (p, some p)) : ∀ j, j < 10 → (argF I (kdJ j) n C s).2 = (p, some p) := by
  have hn : ∀ k, nmb I k s = (0, (p, some p)) := fun k => by unfold nmb; rw [hs]; rfl
  have hg : sgd I s = (0, (p, some p)) := by unfold sgd; rw [hs]; rfl
  refine ten ?_ ?_ ?_ ?_ ?_ ?_ ?_ ?_ ?_ ?_
  · show (nmb I 3 (sgd I s).2).2 = _; rw [hg]; rfl
  · show (nmb I 3 (nmb I 1 s).2).2 = _; rw [hn]; rfl
  · show (nmb I 3 s).2 = _; rw [hn]
  · show (nmb I 1 (nmb I 3 s).2).2 = _; rw [hn]; rfl
  · show (nmb I 3 (nmb I 1 s).2).2 = _; rw [hn]; rfl
  · show (nmb I 3 (nmb I 1 s).2).2 = _; rw [hn]; rfl
  · show (nmb I 3 (nmb I 1 (nmb I 1 s).2).2).2 = _; rw [hn]; rfl
  · show (nmb I 1 s).2 = _; rw [hn]
  · show (nmb I 1 (nmb I 3 s).2).2 = _; rw [hn]; rfl
  · show (nmb I 3 s).2 = _; rw [hn]
theorem isLB_at {I : SBB} (hI : ∀ j, j < I.1 → I.2.2 j < 256) {q : Nat} : isLB (sg I q) = true ↔ ∃ f, isL f ∧ atB I q f = true := by
  unfold isLB
  simp only [Bool.or_eq_true, decide_eq_true_eq]
  rw [show (116 : Int32) = nI 116 from rfl, show (108 : Int32) = nI 108 from rfl, show (117 : Int32) = nI 117 from rfl, show (115 : Int32) = nI 115 from rfl, show (112 : Int32) = nI 112 from rfl, show (109 : Int32) = nI 109 from rfl,
    sg_at hI (by decide), sg_at hI (by decide), sg_at hI (by decide), sg_at hI (by decide), sg_at hI (by decide), sg_at hI (by decide)]
  constructor
  · intro h
    rcases h with ((((h | h) | h) | h) | h) | h
    · exact ⟨_, Or.inl rfl, h⟩
    · exact ⟨_, Or.inr (Or.inl rfl), h⟩
    · exact ⟨_, Or.inr (Or.inr (Or.inl rfl)), h⟩
    · exact ⟨_, Or.inr (Or.inr (Or.inr (Or.inl rfl))), h⟩
    · exact ⟨_, Or.inr (Or.inr (Or.inr (Or.inr (Or.inl rfl)))), h⟩
    · exact ⟨_, Or.inr (Or.inr (Or.inr (Or.inr (Or.inr rfl)))), h⟩
  · rintro ⟨f, hf, h⟩
    rcases hf with rfl | rfl | rfl | rfl | rfl | rfl
    · exact Or.inl (Or.inl (Or.inl (Or.inl (Or.inl h))))
    · exact Or.inl (Or.inl (Or.inl (Or.inl (Or.inr h))))
    · exact Or.inl (Or.inl (Or.inl (Or.inr h)))
    · exact Or.inl (Or.inl (Or.inr h))
    · exact Or.inl (Or.inr h)
    · exact Or.inr h
theorem no_word {I : SBB} {q : Nat} (h : ∀ f, isL f → atB I q f = false) : ∀ i, i < 10 → cmN I q i = 0 := by
  have z : ∀ {j c : Nat} {l : List Nat}, sxB j = c :: l → isL c → cmN I q j = 0 := fun e hc => by
    rw [cmN_pfx, e, pfx_cons, if_neg (by rw [h _ hc]; decide)]
  exact ten (z rfl (Or.inl rfl)) (z rfl (Or.inr (Or.inl rfl))) (z rfl (Or.inr (Or.inr (Or.inl rfl)))) (z rfl (Or.inr (Or.inr (Or.inr (Or.inl rfl))))) (z rfl (Or.inr (Or.inl rfl))) (z rfl (Or.inr (Or.inr (Or.inr (Or.inr (Or.inl rfl)))))) (z rfl (Or.inr (Or.inr (Or.inr (Or.inr (Or.inr rfl)))))) (z rfl (Or.inr (Or.inr (Or.inr (Or.inr (Or.inl rfl)))))) (z rfl (Or.inr (Or.inr (Or.inr (Or.inl rfl))))) (z rfl (Or.inr (Or.inr (Or.inr (Or.inr (Or.inr rfl))))))
/-- one command -/
theorem cmd_eq {I : SBB} (hI : ∀ j, j < I.1 → I.2.2 j < 256) (n q : Nat) (v : Int32) (f C : FI) :
    (rkI I q = 10 ∧ (cm I n C (q, none)).2 = (rkQ I q, some (rkQ I q))) ∨ (rkI I q < 10 ∧ rkQ I q = q + (sxB (rkI I q)).length ∧ AGR (usN (rkI I q)) n (upd (z4 C n 4) (4 * n) (nI (kdJ (rkI I q)))) (raR I (shp (rkI I q)) (rkQ I q) v f) (cm I n C (q, none))) := by
  by_cases g : isLB (sg I q) = true
  · obtain ⟨c, hc, ha⟩ := (isLB_at hI).mp g
    have ec : I.2.2 q = c := by
      unfold atB at ha
      simp only [Bool.and_eq_true, decide_eq_true_eq] at ha
      exact ha.2
    have e : cm I n C (q, none) = argF I (wd I c (q + 1, none)).1 n (upd (z4 C n 4) (4 * n) (nI (wd I c (q + 1, none)).1)) (wd I c (q + 1, none)).2 := by
      unfold cm
      show (if isLB (sg I q) = true then argF I (wd I (I.2.2 q) (q + 1, none)).1 n (upd (z4 C n 4) (4 * n) (nI (wd I (I.2.2 q) (q + 1, none)).1)) (wd I (I.2.2 q) (q + 1, none)).2 else _) = _
      rw [if_pos g, ec]
    obtain ⟨j, ho, w1, w2, w3⟩ := word_eq hc ha
    obtain ⟨r1, r2⟩ := ho.rk
    rw [w1] at e
    rw [ndL_eq] at w2
    have ht : (sxB j).length = (sxB j).tail.length + 1 := by
      have := sx5 j ho.1
      rw [List.length_tail]
      omega
    by_cases z : pfx I (q + 1) (sxB j).tail = (sxB j).tail.length
    · right
      rw [if_pos z] at w2
      have zl : cmN I q j = (sxB j).length := by omega
      rw [if_pos zl] at r2
      rw [r2, r1, zl, e]
      refine ⟨ho.1, rfl, ?_⟩
      exact arg_eq (by rw [w2, ht, show q + 1 + (sxB j).tail.length = q + ((sxB j).tail.length + 1) by omega]) j ho.1
    · left
      rw [if_neg z] at w2
      rw [if_neg (by omega)] at r2
      refine ⟨r2, ?_⟩
      rw [e, argF_some w2 j ho.1, r1, w3, show q + 1 + pfx I (q + 1) (sxB j).tail = q + (pfx I (q + 1) (sxB j).tail + 1) by omega]
  · left
    have hn : ∀ f, isL f → atB I q f = false := fun f hf => Bool.eq_false_iff.mpr fun w => g ((isLB_at hI).mpr ⟨f, hf, w⟩)
    obtain ⟨r1, r2⟩ := NONE_rk (no_word hn)
    refine ⟨r2, ?_⟩
    rw [r1]
    unfold cm
    rw [if_neg g]
/-- the commands read so far -/
def AGP (i : Nat) (C : FI) (kw : Nat → Nat) (rw : Nat → FI) : Prop := ∀ k, k < i → kw k < 10 ∧ C (4 * k) = nI (kdJ (kw k)) ∧ C (4 * k + 1) = rw k 0 ∧ (2 ≤ usN (kw k) → C (4 * k + 2) = rw k 1) ∧ (3 ≤ usN (kw k) → C (4 * k + 3) = rw k 2)
theorem AGP.next {i j : Nat} {C C' : FI} {kw : Nat → Nat} {rw' : Nat → FI} (h : AGP i C kw rw') {f : FI} (hj : j < 10) (fr : ∀ x, x < 4 * i + 1 → C' x = upd (z4 C i 4) (4 * i) (nI (kdJ j)) x) (a1 : C' (4 * i + 1) = f 0) (a2 : 2 ≤ usN j → C' (4 * i + 2) = f 1) (a3 : 3 ≤ usN j → C' (4 * i + 3) = f 2) : AGP (i + 1) C' (updK kw i j) (updR rw' i f) := by
  have lo : ∀ x, x < 4 * i → C' x = C x := fun x hx => by rw [fr x (by omega), upd_ne _ _ (by omega), z4_lo C i hx]
  intro k hk
  unfold updK updR
  by_cases e : k = i
  · subst e
    rw [if_pos rfl, if_pos rfl]
    exact ⟨hj, by rw [fr _ (by omega), upd_eq], a1, a2, a3⟩
  · rw [if_neg e, if_neg e]
    obtain ⟨h1, h2, h3, h4, h5⟩ := h k (by omega)
    exact ⟨h1, by rw [lo _ (by omega)]; exact h2, by rw [lo _ (by omega)]; exact h3, fun w => by rw [lo _ (by omega)]; exact h4 w, fun w => by rw [lo _ (by omega)]; exact h5 w⟩
theorem plF_some (I : SBB) (n p e : Nat) (C : FI) : ∀ fl, plF I fl n C (p, some e) = (C, n, (p, some e))
  | 0 => rfl
  | _ + 1 => rfl
/-- the class's answer and the model's -/
def PEQ (P : Bool × PS) (M : FI × Nat × PQ) : Prop := ∃ nn, nn ≤ 8 ∧ P.2.1 = nI nn ∧ if P.1 = true then M.2.1 = nn ∧ M.2.2.2 = none ∧ AGP nn M.1 P.2.2.2.2.1 P.2.2.2.2.2 else ∃ p, P.2.2.1 = nI p ∧ M.2.2.2 = some p
theorem pr_eq {I : SBB} (h60 : I.1 ≤ 60) (hI : ∀ j, j < I.1 → I.2.2 j < 256) : ∀ (m i q fl : Nat) (v : Int32) (kw : Nat → Nat) (rw' : Nat → FI) (C : FI), i + m = 8 → 8 * i ≤ q → q ≤ I.1 → m ≤ fl → AGP i C kw rw' → PEQ (prF I m i q v kw rw') (psE I (plF I fl (i + 1) (cm I i C (q, none)).1 (cm I i C (q, none)).2))
  | 0, i, q, fl, v, kw, rw', C, him, hq, hq2, hfl, hA => by omega
  | m + 1, i, q, fl, v, kw, rw', C, him, hq, hq2, hfl, hA => by
    unfold prF
    rcases cmd_eq hI i q v (rw' i) C with ⟨r1, r2⟩ | ⟨r1, r2, r3⟩
    · rw [if_neg (by omega), r2, plF_some]
      exact ⟨i, by omega, rfl, _, rfl, rfl⟩
    · rw [if_pos r1]
      generalize hA' : raR I (shp (rkI I q)) (rkQ I q) v (rw' i) = A at r3 ⊢
      generalize cm I i C (q, none) = B at r3 ⊢
      obtain ⟨B1, B2⟩ := B
      obtain ⟨r3, fr⟩ := r3
      by_cases t : A.1 = true
      · rw [if_pos t] at r3 ⊢
        obtain ⟨b2, a1, a2, a3⟩ := r3
        have b2 : B2 = (A.2.1, none) := b2
        have s7 := sx7 _ r1
        have en : q + 7 ≤ A.2.1 ∧ A.2.1 ≤ I.1 := by
          have z := ra_end (I := I) (j := shp (rkI I q)) (sxB (shp (rkI I q))).length 0 (rkQ I q) v (rw' i) (fun w => by omega)
          rw [show raF I (shp (rkI I q)) (sxB (shp (rkI I q))).length 0 (rkQ I q) v (rw' i) = A from hA'] at z
          have z := z t
          omega
        have hN : AGP (i + 1) B1 (updK kw i (rkI I q)) (updR rw' i A.2.2.2) := hA.next r1 fr a1 a2 a3
        show PEQ _ (psE I (plF I fl (i + 1) B1 B2))
        rw [b2]
        obtain ⟨fl', rfl⟩ : ∃ k, fl = k + 1 := ⟨fl - 1, by omega⟩
        show PEQ _ (psE I (if semB I (A.2.1, none) = true then plF I fl' (i + 1 + 1) (cm I (i + 1) B1 (A.2.1 + 1, none)).1 (cm I (i + 1) B1 (A.2.1 + 1, none)).2 else (B1, i + 1, (A.2.1, none))))
        have es : semB I (A.2.1, none) = atB I A.2.1 59 := rfl
        rw [es]
        by_cases x : A.2.1 = I.1
        · rw [if_pos x, if_neg (fun w => by have := atB_lt w; omega)]
          unfold psE
          rw [if_neg (fun w => by
            have w : decide (A.2.1 < I.1) = true := w
            have := of_decide_eq_true w
            omega)]
          exact ⟨i + 1, by omega, rfl, rfl, rfl, hN⟩
        · rw [if_neg x]
          by_cases y : atB I A.2.1 59 = true
          · rw [if_pos y, if_pos y]
            have := atB_lt y
            exact pr_eq h60 hI m (i + 1) (A.2.1 + 1) fl' _ _ _ B1 (by omega) (by omega) (by omega) (by omega) hN
          · rw [if_neg y, if_neg y]
            unfold psE
            rw [if_pos (show endB I (A.2.1, none) = true from decide_eq_true (show A.2.1 < I.1 by omega))]
            exact ⟨i + 1, by omega, rfl, _, rfl, rfl⟩
      · rw [if_neg t] at r3 ⊢
        have b2 : B2 = (A.2.1, some A.2.1) := r3
        show PEQ _ (psE I (plF I fl (i + 1) B1 B2))
        rw [b2, plF_some]
        exact ⟨i, by omega, rfl, _, rfl, rfl⟩
theorem ps_eq {I : SBB} (h60 : I.1 ≤ 60) (hI : ∀ j, j < I.1 → I.2.2 j < 256) (p : PS) (C : FI) : PEQ (prR I p) (psF I C) :=
  pr_eq h60 hI 8 0 0 60 _ _ _ C rfl (by omega) (by omega) (by omega) fun k hk => absurd hk (Nat.not_lt_zero _)
