/-! ===== the model: it reads commands ===== -/
/-- commands, their number, 'here' and 'error' -/
abbrev wK (m : MS) (C : FI) (n : Nat) (s : PQ) : MS := (m.1, m.2.1, m.2.2.1, (m.2.2.2.1.1, m.2.2.2.1.2.1, nI s.1, erI s.2, m.2.2.2.1.2.2.2.2), (C, nI n))
def z4 (C : FI) (n : Nat) : Nat → FI
  | 0 => C
  | k + 1 => upd (z4 C n k) (4 * n + k) 0
def isLB (x : Int32) : Bool := decide (x = 116) || decide (x = 108) || decide (x = 117) || decide (x = 115) || decide (x = 112) || decide (x = 109)
def argF (I : SBB) (k n : Nat) (C : FI) (s : PQ) : FI × PQ :=
  if k = 116 then (upd (upd C (4 * n + 1) (sgd I s).1) (4 * n + 2) (nmb I 3 (sgd I s).2).1, (nmb I 3 (sgd I s).2).2)
  else if k = 108 ∨ k = 107 ∨ k = 109 then (upd (upd C (4 * n + 1) (nmb I 1 s).1) (4 * n + 2) (nmb I 3 (nmb I 1 s).2).1, (nmb I 3 (nmb I 1 s).2).2)
  else if k = 105 ∨ k = 111 then (upd (upd C (4 * n + 1) (nmb I 3 s).1) (4 * n + 2) (nmb I 1 (nmb I 3 s).2).1, (nmb I 1 (nmb I 3 s).2).2)
  else if k = 118 then (upd (upd (upd C (4 * n + 1) (nmb I 1 s).1) (4 * n + 2) (nmb I 1 (nmb I 1 s).2).1) (4 * n + 3) (nmb I 3 (nmb I 1 (nmb I 1 s).2).2).1, (nmb I 3 (nmb I 1 (nmb I 1 s).2).2).2)
  else if k = 119 then (upd C (4 * n + 1) (nmb I 1 s).1, (nmb I 1 s).2)
  else (upd C (4 * n + 1) (nmb I 3 s).1, (nmb I 3 s).2)
def cm (I : SBB) (n : Nat) (C : FI) (s : PQ) : FI × PQ :=
  if isLB (sg I s.1) = true then argF I (wd I (I.2.2 s.1) (s.1 + 1, none)).1 n (upd (z4 C n 4) (4 * n) (nI (wd I (I.2.2 s.1) (s.1 + 1, none)).1)) (wd I (I.2.2 s.1) (s.1 + 1, none)).2
  else (z4 C n 4, (s.1, some s.1))
def knd (k : Nat) : Prop := k = 116 ∨ k = 117 ∨ k = 107 ∨ k = 108 ∨ k = 111 ∨ k = 105 ∨ k = 119 ∨ k = 109 ∨ k = 110 ∨ k = 118
theorem wd_knd (I : SBB) (f : Nat) (s : PQ) : knd (wd I f s).1 := by
  unfold wd knd
  repeat' split
  all_goals simp
theorem okQ_nmb {I : SBB} (hI : I.1 ≤ 60) {k : Nat} {s : PQ} (h : okQ s) : okQ (nmb I k s).2 := okQ_dgt hI (okQ_nd hI h)
theorem okQ_arg {I : SBB} (hI : I.1 ≤ 60) {k n : Nat} {C : FI} {s : PQ} (h : okQ s) : okQ (argF I k n C s).2 := by
  unfold argF
  repeat' split
  all_goals first
    | exact okQ_nmb hI (okQ_sgd hI h)
    | exact okQ_nmb hI h
    | exact okQ_nmb hI (okQ_nmb hI h)
    | exact okQ_nmb hI (okQ_nmb hI (okQ_nmb hI h))
theorem isLB_lt {I : SBB} {q : Nat} (h : isLB (sg I q) = true) : q < I.1 ∧ sg I q = nI (I.2.2 q) := by
  unfold sg at h ⊢
  by_cases z : q < I.1
  · rw [if_pos z]; exact ⟨z, rfl⟩
  · rw [if_neg z] at h
    exact absurd h (by decide)
theorem okQ_cm {I : SBB} (hI : I.1 ≤ 60) {n : Nat} {C : FI} {s : PQ} (h : okQ s) : okQ (cm I n C s).2 := by
  unfold cm
  split
  · rename_i w
    have hq := (isLB_lt w).1
    exact okQ_arg hI (okQ_wd hI ⟨by show s.1 + 1 ≤ 60; omega, fun p hp => by cases hp⟩)
  · exact ⟨h.1, fun p hp => by cases hp; exact h.1⟩
theorem IR.wk {I : SBB} {m : MS} (h : IR I m) {C : FI} {n : Nat} {s : PQ} : IR I (wK m C n s) := h
section NK
variable {m : MS} {I : SBB}
theorem ix4 (n k : Nat) : (4 : Int32) * nI n + nI k = nI (4 * n + k) := by
  rw [show (4 : Int32) = nI 4 from rfl, nI_mul, nI_add]
theorem n_command (hI : IR I m) (n : Nat) (hn : n ≤ 60) (C : FI) (q : Nat) (hq : q ≤ 60) : Sp 4 0 0 mX11_command [vR 0 0] (mdl (wK m C n (q, none))) (PoV (mdl (wK m (cm I n C (q, none)).1 (n + 1) (cm I n C (q, none)).2))) := by
  refine Sp.of' false (fun h => by cases h) (by decide) rfl rfl (Nat.le_of_ble_eq_true rfl) fun γ σ B => ?_
  have F : Fit γ 0 0 0 0 0 := fiW B (by decide) (Nat.zero_le _) (Nat.zero_le _)
  have F2 : Fit γ 0 0 2 0 0 := fiW B (by decide) (Nat.zero_le _) (Nat.zero_le _)
  have F3 : Fit γ 0 0 3 0 0 := fiW B (by decide) (Nat.zero_le _) (Nat.zero_le _)
  have hl := hI.2.1
  have hs : okQ (q, none) := ⟨hq, fun p hp => by cases hp⟩
  have E0 : (4 : Int32) * nI n = nI (4 * n) := by rw [show (4 : Int32) = nI 4 from rfl, nI_mul]
  have Ek : ∀ k : Nat, nI (4 * n) + nI k = nI (4 * n + k) := fun k => nI_add _ _
  have ecm : cm I n C (q, none) = if isLB (sg I q) = true then argF I (wd I (I.2.2 q) (q + 1, none)).1 n (upd (z4 C n 4) (4 * n) (nI (wd I (I.2.2 q) (q + 1, none)).1)) (wd I (I.2.2 q) (q + 1, none)).2 else (z4 C n 4, (q, some q)) := rfl
  obtain ⟨len, dsw⟩ := dcSw okX11_command (pc := 113) (df := 219) (lo := 105) (hi := 119) (offs := #[132, 219, 103, 103, 103, 219, 132, 219, 219, 219, 219, 75, 219, 161, 203]) rfl
  have num : ∀ (pc : Nat) (C1 : FI) (s2 : PQ) (k j : Nat) (st : List AV), True := fun _ _ _ _ _ _ => trivial
  have sw : ∀ (k : Nat) (C1 : FI) (s2 : PQ), knd k → okQ s2 → argF I k n C1 s2 = cm I n C (q, none) → At γ σ 0 0 113 [(0, vR 0 0), (1, vI (nI (4 * n))), (3, vI (nI k))] [vI (nI k)] (mdl (wK m C1 (n + 1) s2)) := by
    intro k C1 s2 hk h2 ea
    have fin : ∀ (C2 : FI) (s3 : PQ), argF I k n C1 s2 = (C2, s3) → At γ σ 0 0 345 [(0, vR 0 0), (1, vI (nI (4 * n))), (3, vI (nI k))] [] (mdl (wK m C2 (n + 1) s3)) := fun C2 s3 e => by
      refine B.run okX11_command [] 60 ?_
      exact rV (by rw [← ea, e])
    rcases hk with rfl | rfl | rfl | rfl | rfl | rfl | rfl | rfl | rfl | rfl
    · have ef : argF I 116 n C1 s2 = _ := rfl
      refine At.swIn B.1 dsw (x := 116) (by decide) (by decide) (off := 75) (by decide) (t := 188) (by decide) ?_
      refine B.run okX11_command [(345, [0, 1, 3])] 60 ?_
      refine At.mI [] [vI (nI (4 * n) + 1), vR 4 0] B.1 (n_signed (m := wK m (C1) (n + 1) (0, none)) hI (s2) (h2)) kX11_signed ln_X11_235 F2 (dcV okX11_command rfl) ?_
      refine B.run okX11_command [(345, [0, 1, 3])] 60 ?_
      refine ⟨by rw [show nI (4 * n) + 1 = nI (4 * n + 1) from Ek 1]; exact vp_in_nI (by omega) (by decide), ?_⟩
      rw [show nI (4 * n) + 1 = nI (4 * n + 1) from Ek 1, nI_clamp (show 4 * n + 1 < 2 ^ 31 by omega)]
      refine B.run okX11_command [(345, [0, 1, 3])] 60 ?_
      refine At.mI [vI (nI 3)] [vI (nI (4 * n) + 2), vR 4 0] B.1 (n_number (m := wK m (upd (C1) (4 * n + 1) (sgd I (s2)).1) (n + 1) (0, none)) hI ((sgd I (s2)).2) (okQ_sgd hl (h2)) 3 (by decide)) kX11_number ln_X11_238 F2 (dcV okX11_command rfl) ?_
      refine B.run okX11_command [(345, [0, 1, 3])] 60 ?_
      refine ⟨by rw [show nI (4 * n) + 2 = nI (4 * n + 2) from Ek 2]; exact vp_in_nI (by omega) (by decide), ?_⟩
      rw [show nI (4 * n) + 2 = nI (4 * n + 2) from Ek 2, nI_clamp (show 4 * n + 2 < 2 ^ 31 by omega)]
      exact fin _ _ ef
    · have ef : argF I 117 n C1 s2 = _ := rfl
      refine At.swIn B.1 dsw (x := 117) (by decide) (by decide) (off := 219) (by decide) (t := 332) (by decide) ?_
      refine B.run okX11_command [(345, [0, 1, 3])] 60 ?_
      refine At.mI [vI (nI 3)] [vI (nI (4 * n) + 1), vR 4 0] B.1 (n_number (m := wK m (C1) (n + 1) (0, none)) hI (s2) (h2) 3 (by decide)) kX11_number ln_X11_238 F2 (dcV okX11_command rfl) ?_
      refine B.run okX11_command [(345, [0, 1, 3])] 60 ?_
      refine ⟨by rw [show nI (4 * n) + 1 = nI (4 * n + 1) from Ek 1]; exact vp_in_nI (by omega) (by decide), ?_⟩
      rw [show nI (4 * n) + 1 = nI (4 * n + 1) from Ek 1, nI_clamp (show 4 * n + 1 < 2 ^ 31 by omega)]
      exact fin _ _ ef
    · have ef : argF I 107 n C1 s2 = _ := rfl
      refine At.swIn B.1 dsw (x := 107) (by decide) (by decide) (off := 103) (by decide) (t := 216) (by decide) ?_
      refine B.run okX11_command [(345, [0, 1, 3])] 60 ?_
      refine At.mI [vI (nI 1)] [vI (nI (4 * n) + 1), vR 4 0] B.1 (n_number (m := wK m (C1) (n + 1) (0, none)) hI (s2) (h2) 1 (by decide)) kX11_number ln_X11_238 F2 (dcV okX11_command rfl) ?_
      refine B.run okX11_command [(345, [0, 1, 3])] 60 ?_
      refine ⟨by rw [show nI (4 * n) + 1 = nI (4 * n + 1) from Ek 1]; exact vp_in_nI (by omega) (by decide), ?_⟩
      rw [show nI (4 * n) + 1 = nI (4 * n + 1) from Ek 1, nI_clamp (show 4 * n + 1 < 2 ^ 31 by omega)]
      refine B.run okX11_command [(345, [0, 1, 3])] 60 ?_
      refine At.mI [vI (nI 3)] [vI (nI (4 * n) + 2), vR 4 0] B.1 (n_number (m := wK m (upd (C1) (4 * n + 1) (nmb I 1 (s2)).1) (n + 1) (0, none)) hI ((nmb I 1 (s2)).2) (okQ_nmb hl (h2)) 3 (by decide)) kX11_number ln_X11_238 F2 (dcV okX11_command rfl) ?_
      refine B.run okX11_command [(345, [0, 1, 3])] 60 ?_
      refine ⟨by rw [show nI (4 * n) + 2 = nI (4 * n + 2) from Ek 2]; exact vp_in_nI (by omega) (by decide), ?_⟩
      rw [show nI (4 * n) + 2 = nI (4 * n + 2) from Ek 2, nI_clamp (show 4 * n + 2 < 2 ^ 31 by omega)]
      exact fin _ _ ef
    · have ef : argF I 108 n C1 s2 = _ := rfl
      refine At.swIn B.1 dsw (x := 108) (by decide) (by decide) (off := 103) (by decide) (t := 216) (by decide) ?_
      refine B.run okX11_command [(345, [0, 1, 3])] 60 ?_
      refine At.mI [vI (nI 1)] [vI (nI (4 * n) + 1), vR 4 0] B.1 (n_number (m := wK m (C1) (n + 1) (0, none)) hI (s2) (h2) 1 (by decide)) kX11_number ln_X11_238 F2 (dcV okX11_command rfl) ?_
      refine B.run okX11_command [(345, [0, 1, 3])] 60 ?_
      refine ⟨by rw [show nI (4 * n) + 1 = nI (4 * n + 1) from Ek 1]; exact vp_in_nI (by omega) (by decide), ?_⟩
      rw [show nI (4 * n) + 1 = nI (4 * n + 1) from Ek 1, nI_clamp (show 4 * n + 1 < 2 ^ 31 by omega)]
      refine B.run okX11_command [(345, [0, 1, 3])] 60 ?_
      refine At.mI [vI (nI 3)] [vI (nI (4 * n) + 2), vR 4 0] B.1 (n_number (m := wK m (upd (C1) (4 * n + 1) (nmb I 1 (s2)).1) (n + 1) (0, none)) hI ((nmb I 1 (s2)).2) (okQ_nmb hl (h2)) 3 (by decide)) kX11_number ln_X11_238 F2 (dcV okX11_command rfl) ?_
      refine B.run okX11_command [(345, [0, 1, 3])] 60 ?_
      refine ⟨by rw [show nI (4 * n) + 2 = nI (4 * n + 2) from Ek 2]; exact vp_in_nI (by omega) (by decide), ?_⟩
      rw [show nI (4 * n) + 2 = nI (4 * n + 2) from Ek 2, nI_clamp (show 4 * n + 2 < 2 ^ 31 by omega)]
      exact fin _ _ ef
    · have ef : argF I 111 n C1 s2 = _ := rfl
      refine At.swIn B.1 dsw (x := 111) (by decide) (by decide) (off := 132) (by decide) (t := 245) (by decide) ?_
      refine B.run okX11_command [(345, [0, 1, 3])] 60 ?_
      refine At.mI [vI (nI 3)] [vI (nI (4 * n) + 1), vR 4 0] B.1 (n_number (m := wK m (C1) (n + 1) (0, none)) hI (s2) (h2) 3 (by decide)) kX11_number ln_X11_238 F2 (dcV okX11_command rfl) ?_
      refine B.run okX11_command [(345, [0, 1, 3])] 60 ?_
      refine ⟨by rw [show nI (4 * n) + 1 = nI (4 * n + 1) from Ek 1]; exact vp_in_nI (by omega) (by decide), ?_⟩
      rw [show nI (4 * n) + 1 = nI (4 * n + 1) from Ek 1, nI_clamp (show 4 * n + 1 < 2 ^ 31 by omega)]
      refine B.run okX11_command [(345, [0, 1, 3])] 60 ?_
      refine At.mI [vI (nI 1)] [vI (nI (4 * n) + 2), vR 4 0] B.1 (n_number (m := wK m (upd (C1) (4 * n + 1) (nmb I 3 (s2)).1) (n + 1) (0, none)) hI ((nmb I 3 (s2)).2) (okQ_nmb hl (h2)) 1 (by decide)) kX11_number ln_X11_238 F2 (dcV okX11_command rfl) ?_
      refine B.run okX11_command [(345, [0, 1, 3])] 60 ?_
      refine ⟨by rw [show nI (4 * n) + 2 = nI (4 * n + 2) from Ek 2]; exact vp_in_nI (by omega) (by decide), ?_⟩
      rw [show nI (4 * n) + 2 = nI (4 * n + 2) from Ek 2, nI_clamp (show 4 * n + 2 < 2 ^ 31 by omega)]
      exact fin _ _ ef
    · have ef : argF I 105 n C1 s2 = _ := rfl
      refine At.swIn B.1 dsw (x := 105) (by decide) (by decide) (off := 132) (by decide) (t := 245) (by decide) ?_
      refine B.run okX11_command [(345, [0, 1, 3])] 60 ?_
      refine At.mI [vI (nI 3)] [vI (nI (4 * n) + 1), vR 4 0] B.1 (n_number (m := wK m (C1) (n + 1) (0, none)) hI (s2) (h2) 3 (by decide)) kX11_number ln_X11_238 F2 (dcV okX11_command rfl) ?_
      refine B.run okX11_command [(345, [0, 1, 3])] 60 ?_
      refine ⟨by rw [show nI (4 * n) + 1 = nI (4 * n + 1) from Ek 1]; exact vp_in_nI (by omega) (by decide), ?_⟩
      rw [show nI (4 * n) + 1 = nI (4 * n + 1) from Ek 1, nI_clamp (show 4 * n + 1 < 2 ^ 31 by omega)]
      refine B.run okX11_command [(345, [0, 1, 3])] 60 ?_
      refine At.mI [vI (nI 1)] [vI (nI (4 * n) + 2), vR 4 0] B.1 (n_number (m := wK m (upd (C1) (4 * n + 1) (nmb I 3 (s2)).1) (n + 1) (0, none)) hI ((nmb I 3 (s2)).2) (okQ_nmb hl (h2)) 1 (by decide)) kX11_number ln_X11_238 F2 (dcV okX11_command rfl) ?_
      refine B.run okX11_command [(345, [0, 1, 3])] 60 ?_
      refine ⟨by rw [show nI (4 * n) + 2 = nI (4 * n + 2) from Ek 2]; exact vp_in_nI (by omega) (by decide), ?_⟩
      rw [show nI (4 * n) + 2 = nI (4 * n + 2) from Ek 2, nI_clamp (show 4 * n + 2 < 2 ^ 31 by omega)]
      exact fin _ _ ef
    · have ef : argF I 119 n C1 s2 = _ := rfl
      refine At.swIn B.1 dsw (x := 119) (by decide) (by decide) (off := 203) (by decide) (t := 316) (by decide) ?_
      refine B.run okX11_command [(345, [0, 1, 3])] 60 ?_
      refine At.mI [vI (nI 1)] [vI (nI (4 * n) + 1), vR 4 0] B.1 (n_number (m := wK m (C1) (n + 1) (0, none)) hI (s2) (h2) 1 (by decide)) kX11_number ln_X11_238 F2 (dcV okX11_command rfl) ?_
      refine B.run okX11_command [(345, [0, 1, 3])] 60 ?_
      refine ⟨by rw [show nI (4 * n) + 1 = nI (4 * n + 1) from Ek 1]; exact vp_in_nI (by omega) (by decide), ?_⟩
      rw [show nI (4 * n) + 1 = nI (4 * n + 1) from Ek 1, nI_clamp (show 4 * n + 1 < 2 ^ 31 by omega)]
      exact fin _ _ ef
    · have ef : argF I 109 n C1 s2 = _ := rfl
      refine At.swIn B.1 dsw (x := 109) (by decide) (by decide) (off := 103) (by decide) (t := 216) (by decide) ?_
      refine B.run okX11_command [(345, [0, 1, 3])] 60 ?_
      refine At.mI [vI (nI 1)] [vI (nI (4 * n) + 1), vR 4 0] B.1 (n_number (m := wK m (C1) (n + 1) (0, none)) hI (s2) (h2) 1 (by decide)) kX11_number ln_X11_238 F2 (dcV okX11_command rfl) ?_
      refine B.run okX11_command [(345, [0, 1, 3])] 60 ?_
      refine ⟨by rw [show nI (4 * n) + 1 = nI (4 * n + 1) from Ek 1]; exact vp_in_nI (by omega) (by decide), ?_⟩
      rw [show nI (4 * n) + 1 = nI (4 * n + 1) from Ek 1, nI_clamp (show 4 * n + 1 < 2 ^ 31 by omega)]
      refine B.run okX11_command [(345, [0, 1, 3])] 60 ?_
      refine At.mI [vI (nI 3)] [vI (nI (4 * n) + 2), vR 4 0] B.1 (n_number (m := wK m (upd (C1) (4 * n + 1) (nmb I 1 (s2)).1) (n + 1) (0, none)) hI ((nmb I 1 (s2)).2) (okQ_nmb hl (h2)) 3 (by decide)) kX11_number ln_X11_238 F2 (dcV okX11_command rfl) ?_
      refine B.run okX11_command [(345, [0, 1, 3])] 60 ?_
      refine ⟨by rw [show nI (4 * n) + 2 = nI (4 * n + 2) from Ek 2]; exact vp_in_nI (by omega) (by decide), ?_⟩
      rw [show nI (4 * n) + 2 = nI (4 * n + 2) from Ek 2, nI_clamp (show 4 * n + 2 < 2 ^ 31 by omega)]
      exact fin _ _ ef
    · have ef : argF I 110 n C1 s2 = _ := rfl
      refine At.swIn B.1 dsw (x := 110) (by decide) (by decide) (off := 219) (by decide) (t := 332) (by decide) ?_
      refine B.run okX11_command [(345, [0, 1, 3])] 60 ?_
      refine At.mI [vI (nI 3)] [vI (nI (4 * n) + 1), vR 4 0] B.1 (n_number (m := wK m (C1) (n + 1) (0, none)) hI (s2) (h2) 3 (by decide)) kX11_number ln_X11_238 F2 (dcV okX11_command rfl) ?_
      refine B.run okX11_command [(345, [0, 1, 3])] 60 ?_
      refine ⟨by rw [show nI (4 * n) + 1 = nI (4 * n + 1) from Ek 1]; exact vp_in_nI (by omega) (by decide), ?_⟩
      rw [show nI (4 * n) + 1 = nI (4 * n + 1) from Ek 1, nI_clamp (show 4 * n + 1 < 2 ^ 31 by omega)]
      exact fin _ _ ef
    · have ef : argF I 118 n C1 s2 = _ := rfl
      refine At.swIn B.1 dsw (x := 118) (by decide) (by decide) (off := 161) (by decide) (t := 274) (by decide) ?_
      refine B.run okX11_command [(345, [0, 1, 3])] 60 ?_
      refine At.mI [vI (nI 1)] [vI (nI (4 * n) + 1), vR 4 0] B.1 (n_number (m := wK m (C1) (n + 1) (0, none)) hI (s2) (h2) 1 (by decide)) kX11_number ln_X11_238 F2 (dcV okX11_command rfl) ?_
      refine B.run okX11_command [(345, [0, 1, 3])] 60 ?_
      refine ⟨by rw [show nI (4 * n) + 1 = nI (4 * n + 1) from Ek 1]; exact vp_in_nI (by omega) (by decide), ?_⟩
      rw [show nI (4 * n) + 1 = nI (4 * n + 1) from Ek 1, nI_clamp (show 4 * n + 1 < 2 ^ 31 by omega)]
      refine B.run okX11_command [(345, [0, 1, 3])] 60 ?_
      refine At.mI [vI (nI 1)] [vI (nI (4 * n) + 2), vR 4 0] B.1 (n_number (m := wK m (upd (C1) (4 * n + 1) (nmb I 1 (s2)).1) (n + 1) (0, none)) hI ((nmb I 1 (s2)).2) (okQ_nmb hl (h2)) 1 (by decide)) kX11_number ln_X11_238 F2 (dcV okX11_command rfl) ?_
      refine B.run okX11_command [(345, [0, 1, 3])] 60 ?_
      refine ⟨by rw [show nI (4 * n) + 2 = nI (4 * n + 2) from Ek 2]; exact vp_in_nI (by omega) (by decide), ?_⟩
      rw [show nI (4 * n) + 2 = nI (4 * n + 2) from Ek 2, nI_clamp (show 4 * n + 2 < 2 ^ 31 by omega)]
      refine B.run okX11_command [(345, [0, 1, 3])] 60 ?_
      refine At.mI [vI (nI 3)] [vI (nI (4 * n) + 3), vR 4 0] B.1 (n_number (m := wK m (upd (upd (C1) (4 * n + 1) (nmb I 1 (s2)).1) (4 * n + 2) (nmb I 1 ((nmb I 1 (s2)).2)).1) (n + 1) (0, none)) hI ((nmb I 1 ((nmb I 1 (s2)).2)).2) (okQ_nmb hl (okQ_nmb hl (h2))) 3 (by decide)) kX11_number ln_X11_238 F2 (dcV okX11_command rfl) ?_
      refine B.run okX11_command [(345, [0, 1, 3])] 60 ?_
      refine ⟨by rw [show nI (4 * n) + 3 = nI (4 * n + 3) from Ek 3]; exact vp_in_nI (by omega) (by decide), ?_⟩
      rw [show nI (4 * n) + 3 = nI (4 * n + 3) from Ek 3, nI_clamp (show 4 * n + 3 < 2 ^ 31 by omega)]
      exact fin _ _ ef
  -- behind the four zeros
  have from44 : ∀ (C0 : FI), C0 = z4 C n 4 → At γ σ 0 0 44 [(0, vR 0 0), (1, vI (nI (4 * n))), (2, vI (sg I q))] [] (mdl (wK m C0 (n + 1) (q, none))) := by
    intro C0 h0
    subst h0
    have go : isLB (sg I q) = true → At γ σ 0 0 89 [(0, vR 0 0), (1, vI (nI (4 * n))), (2, vI (sg I q))] [] (mdl (wK m (z4 C n 4) (n + 1) (q, none))) := by
      intro hb
      rw [if_pos hb] at ecm
      obtain ⟨hql, eq⟩ := isLB_lt hb
      have hc := (hI.2.2 q hql).2
      have hf : isL (I.2.2 q) := by
        unfold isLB at hb
        rw [eq] at hb
        simp only [Bool.or_eq_true, decide_eq_true_eq] at hb
        have e : ∀ a : Nat, a < 256 → (nI (I.2.2 q) = nI a → I.2.2 q = a) := fun a ha w => (nI_eq (by omega) (by omega)).mp w
        rcases hb with ((((w | w) | w) | w) | w) | w
        · exact Or.inl (e 116 (by decide) w)
        · exact Or.inr (Or.inl (e 108 (by decide) w))
        · exact Or.inr (Or.inr (Or.inl (e 117 (by decide) w)))
        · exact Or.inr (Or.inr (Or.inr (Or.inl (e 115 (by decide) w))))
        · exact Or.inr (Or.inr (Or.inr (Or.inr (Or.inl (e 112 (by decide) w)))))
        · exact Or.inr (Or.inr (Or.inr (Or.inr (Or.inr (e 109 (by decide) w)))))
      rw [eq]
      have ok1 : okQ (q + 1, none) := ⟨by show q + 1 ≤ 60; omega, fun p hp => by cases hp⟩
      have SW := n_word (m := wK m (z4 C n 4) (n + 1) (0, none)) hI (q + 1, none) ok1 (I.2.2 q) hf
      have ez : wQm (wK m (z4 C n 4) (n + 1) (0, none)) (q + 1, none) = (m.1, m.2.1, m.2.2.1, (m.2.2.2.1.1, m.2.2.2.1.2.1, nI q + 1, -1, m.2.2.2.1.2.2.2.2), (z4 C n 4, nI (n + 1))) := by rw [nI_1]; rfl
      rw [ez] at SW
      refine B.run okX11_command [(113, [0, 1, 3])] 60 ?_
      refine ⟨trivial, ?_⟩
      refine At.mI [vI (nI (I.2.2 q))] [] B.1 SW kX11_word ln_X11_232 F3 (dcV okX11_command rfl) ?_
      refine B.run okX11_command [(113, [0, 1, 3])] 60 ?_
      refine ⟨vp_in_nI (by omega) (by decide), ?_⟩
      rw [nI_clamp (show 4 * n < 2 ^ 31 by omega)]
      exact sw _ _ _ (wd_knd I _ _) (okQ_wd hl ok1) ecm.symm
    refine B.run okX11_command [(89, [0, 1, 2])] 60 ?_
    constructor
    · intro w
      exact go (by unfold isLB; rw [decide_eq_true w]; rfl)
    · intro w1
      constructor
      · intro w
        exact go (by unfold isLB; rw [decide_eq_true w, Bool.or_true]; rfl)
      · intro w2
        constructor
        · intro w
          exact go (by unfold isLB; rw [decide_eq_true w, Bool.or_true]; rfl)
        · intro w3
          constructor
          · intro w
            exact go (by unfold isLB; rw [decide_eq_true w, Bool.or_true]; rfl)
          · intro w4
            constructor
            · intro w
              exact go (by unfold isLB; rw [decide_eq_true w, Bool.or_true]; rfl)
            · intro w5
              constructor
              · intro w
                exact go (by unfold isLB; rw [decide_eq_true w, Bool.or_true])
              · intro w6
                have hb : isLB (sg I q) = false := by
                  unfold isLB
                  rw [decide_eq_false w1, decide_eq_false w2, decide_eq_false w3, decide_eq_false w4, decide_eq_false w5, decide_eq_false w6]; rfl
                rw [if_neg (by rw [hb]; decide)] at ecm
                exact ⟨trivial, rV (by rw [ecm]; rfl)⟩
  have zero : ∀ (j k : Nat), k + j = 4 → At γ σ 0 0 24 [(0, vR 0 0), (1, vI (nI (4 * n))), (2, vI (sg I q)), (3, vI (nI k))] [] (mdl (wK m (z4 C n k) (n + 1) (q, none))) := by
    intro j
    induction j with
    | zero =>
      intro k hk
      have hk : k = 4 := by omega
      subst hk
      refine B.run okX11_command [(44, [0, 1, 2])] 60 ?_
      constructor
      · intro _
        exact from44 _ rfl
      · intro w
        exact absurd (show nI 4 ≤ nI 4 from Int32.le_refl _) w
    | succ j ih =>
      intro k hk
      refine B.run okX11_command [(24, [0, 1, 2, 3])] 60 ?_
      constructor
      · intro w
        exact absurd w (nI_ge (a := k) (b := 4) (by omega) (by decide))
      · intro _
        refine ⟨by rw [Ek]; exact vp_in_nI (by omega) (by decide), ?_⟩
        rw [Ek, nI_clamp (show 4 * n + k < 2 ^ 31 by omega)]
        have z := ih (k + 1) (by omega)
        rw [← nI_1 k] at z
        exact z
  have SS := n_sign (m := wK m C (n + 1) (0, none)) hI (q, none) hs
  have ez : wQm (wK m C (n + 1) (0, none)) (q, none) = (m.1, m.2.1, m.2.2.1, (m.2.2.2.1.1, m.2.2.2.1.2.1, nI q, -1, m.2.2.2.1.2.2.2.2), (C, nI n + 1)) := by rw [nI_1]; rfl
  rw [ez] at SS
  refine B.run okX11_command [(24, [0, 1, 2, 3])] 60 ?_
  refine ⟨trivial, ?_⟩
  refine At.mI [] [] B.1 SS kX11_sign ln_X11_217 F (dcV okX11_command rfl) ?_
  have z := zero 4 0 rfl
  have ez2 : wK m (z4 C n 0) (n + 1) (q, none) = (m.1, m.2.1, m.2.2.1, (m.2.2.2.1.1, m.2.2.2.1.2.1, nI q, -1, m.2.2.2.1.2.2.2.2), (C, nI n + 1)) := by rw [nI_1]; rfl
  rw [← E0, ez2] at z
  refine B.run okX11_command [(24, [0, 1, 2, 3])] 60 ?_
  exact z
end NK
