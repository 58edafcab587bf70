/-! ===== run ===== -/
theorem At.acmpE {γ : CX} {own : String} {cc : ByteArray} {σ : Nat → Nat → Nat} {k n pc : Nat} {ls : List (Nat × AV)} {st : List AV} {h : AHp} (O : OK γ own cc) {i j t : Nat} {off : Int} (hi : i < 5) (hj : j < 5) (d : decode cc pc = .ok (.if_acmp .eq off, 3)) (ht : (pc : Int) + off = (t : Int)) (g : i = j → At γ σ k n t ls st h) (f : ¬ i = j → At γ σ k n (pc + 3) ls st h) : At γ σ k n pc ls (vK j :: vK i :: st) h := fun η H locs lsA a b c => by
  have hinj := O.2.2.2.2.2.1.1.2 i j hi hj
  refine lv_acmp_eq (rx := some (cκ γ i)) (ry := some (cκ γ j)) O.1 O.2.1 d ht (fun q => ?_) (fun q => ?_)
  all_goals first
    | exact g (hinj (Option.some.inj q)) η H locs lsA a b c
    | exact f (fun e => q (by rw [e])) η H locs lsA a b c
theorem dcAe {ini : Bool} {o : Nat} {cc : ByteArray} {l : List IE} (h : okL ini o cc l = true) {pc : Nat} {off : Int} (hd : dec_of l pc = some (.if_acmp .eq off)) : decode cc pc = .ok (.if_acmp .eq off, 3) := by
  obtain ⟨e, rfl, e2, h1, -⟩ := okL_dec h hd
  obtain ⟨len, h3, h4⟩ := okD_spec h1
  rw [e2] at h3 h4
  rw [h3, beq_iff_eq.mp h4]
section ATWR
variable {γ : CX} {own : String} {cc : ByteArray} {σ : Nat → Nat → Nat} {k n pc : Nat} {ls : List (Nat × AV)} {st : List AV} {hC hC2 : AHp} {mc2 ms2 d2 ix na : Nat} {M : MR} {v : Option AV} {K K2 : KS'} {P : List Nat}
theorem At.wR (r : Nat) (c : ACell) (E : FE P hC hC2 K K2) (As rest : List AV) (O : OK γ own cc) (S : Sp d2 mc2 ms2 M (vR r 0 :: As) hC (PoQ v hC2)) (Kk : KV M na) (w : Cond.methodLink own ix (mY M) ∈ GT) (hf : Fit γ k n d2 mc2 ms2) (d : decode cc pc = .ok (.invokevirtual ix, 3))
    (g : At γ σ (k + mc2) (n + ms2) (pc + 3) ls ((v.toList.map (ren P)) ++ rest) (world K2)) (hg : hget hC r 0 = some c := by rfl) (hrc : rcv c (mY M).cls := by exact ⟨_, _, rfl⟩) (hn : va_nd P = true := by rfl) (hna : As.length = na := by rfl) (hrw : wsum rest ≤ 8 := by exact Nat.le_of_ble_eq_true rfl) (hst : st = (As.map (ren P)).reverse ++ vR (rn P r) 0 :: rest := by rfl) (hl : hC2.length = hC.length := by rfl) : At γ σ k n pc ls st (world K) :=
  At.qV P As rest O S Kk w E.1 hf d hrc (by rw [E.2]; exact g) hg hn hna hrw hst hl
end ATWR
abbrev PPr : List Nat := [54, 53, 55, 56, 57, 58, 59, 60, 61, 62, 63, 64]
theorem fe_P (K : KS') (p : PS) : FE PPr (pgW (kI K) (kP K)) (pgW (kI K) p) K (stP K p) := ⟨⟨rfl, rfl, rfl, rfl, rfl, rfl, rfl, rfl, rfl, rfl, rfl, rfl, trivial⟩, rfl⟩
theorem prF_i (I : SBB) : ∀ (m i q : Nat) (v : Int32) (kw : Nat → Nat) (rw : Nat → FI), (∀ z, kw z < 10) → (∀ z, (prF I m i q v kw rw).2.2.2.2.1 z < 10) ∧ ∃ n, n ≤ i + m ∧ (prF I m i q v kw rw).2.1 = nI n
  | 0, i, q, v, kw, rw, h => ⟨h, i, Nat.le_refl _, rfl⟩
  | m + 1, i, q, v, kw, rw, h => by
    unfold prF
    generalize rkI I q = kk
    generalize raR I (shp kk) (rkQ I q) v (rw i) = A
    have hu : kk < 10 → ∀ z, updK kw i kk z < 10 := fun hk z => by
      unfold updK
      split
      · exact hk
      · exact h z
    split
    · rename_i hk
      split
      · split
        · exact ⟨hu hk, i + 1, by omega, rfl⟩
        · split
          · obtain ⟨g1, n, g2, g3⟩ := prF_i I m (i + 1) (A.2.1 + 1) A.2.2.1 (updK kw i kk) (updR rw i A.2.2.2) (hu hk)
            exact ⟨g1, n, by omega, g3⟩
          · exact ⟨hu hk, i + 1, by omega, rfl⟩
      · exact ⟨h, i, by omega, rfl⟩
    · exact ⟨h, i, by omega, rfl⟩
def rnF (kw : Nat → Nat) (rw : Nat → FI) : Nat → Nat → SH → Option Nat × SH
  | 0, _, S => (none, S)
  | m + 1, i, S => if fK (kw i) S (rw i 0) (rw i 1) (rw i 2) = 0 then rnF kw rw m (i + 1) (eK (kw i) S (rw i 0) (rw i 1) (rw i 2)) else (some i, S)
abbrev rnK1 (K : KS') (R : Bool × PS) : KS' := stIn (stP K R.2) (L0 (kI K))
abbrev rnBf (K : KS') : SH := cpS (kB K) (kS K)
abbrev rnK2 (K : KS') (R : Bool × PS) : KS' := stB (rnK1 K R) (rnBf K)
def fRun (R : Bool × PS) (Q : Option Nat × SH) : Nat := if R.1 = true then (if Q.1 = none then 0 else 3) else 2
abbrev rnOk (K : KS') (R : Bool × PS) (Q : Option Nat × SH) : KS' := stH (stS (rnK2 K R) Q.2) (keepH (kH K) (rnBf K))
abbrev rnFl (K : KS') (R : Bool × PS) (Q : Option Nat × SH) : KS' := stF (stS (rnK2 K R) (cpS Q.2 (rnBf K))) ((kF K).1, (kF K).2.1, (kF K).2.2.1, 1, nI (Q.1.getD 0))
abbrev rnEr (K : KS') (R : Bool × PS) : KS' := stF (rnK1 K R) ((kF K).1, 1, R.2.2.1, (kF K).2.2.2)
theorem argW_nth {i : Nat} (hi : i < 8) : (hnth [vR 57 0, vR 58 0, vR 59 0, vR 60 0, vR 61 0, vR 62 0, vR 63 0, vR 64 0] i).getD vN = vR (57 + i) 0 := by
  have : i = 0 ∨ i = 1 ∨ i = 2 ∨ i = 3 ∨ i = 4 ∨ i = 5 ∨ i = 6 ∨ i = 7 := by omega
  rcases this with rfl | rfl | rfl | rfl | rfl | rfl | rfl | rfl <;> rfl
theorem kwW_nth (q : Nat → Nat) {i : Nat} (hi : i < 8) : (hnth [vK (5 + q 0), vK (5 + q 1), vK (5 + q 2), vK (5 + q 3), vK (5 + q 4), vK (5 + q 5), vK (5 + q 6), vK (5 + q 7)] i).getD vN = vK (5 + q i) := by
  have : i = 0 ∨ i = 1 ∨ i = 2 ∨ i = 3 ∨ i = 4 ∨ i = 5 ∨ i = 6 ∨ i = 7 := by omega
  rcases this with rfl | rfl | rfl | rfl | rfl | rfl | rfl | rfl <;> rfl
theorem rowW_get (K : KS') {i : Nat} (hi : i < 8) : hget (world K) (57 + i) 0 = some (aI 3 ((kP K).2.2.2.2 i)) := by
  have : i = 0 ∨ i = 1 ∨ i = 2 ∨ i = 3 ∨ i = 4 ∨ i = 5 ∨ i = 6 ∨ i = 7 := by omega
  rcases this with rfl | rfl | rfl | rfl | rfl | rfl | rfl | rfl <;> rfl
theorem argW_get (K : KS') : hget (world K) 56 0 = some (.inl (.array .int, 8, .inr (.inr (.inr [vR 57 0, vR 58 0, vR 59 0, vR 60 0, vR 61 0, vR 62 0, vR 63 0, vR 64 0])))) := rfl
theorem kwW_get (K : KS') : hget (world K) 55 0 = some (.inl (.object RX6, 8, .inr (.inr (.inr [vK (5 + (kP K).2.2.2.1 0), vK (5 + (kP K).2.2.2.1 1), vK (5 + (kP K).2.2.2.1 2), vK (5 + (kP K).2.2.2.1 3), vK (5 + (kP K).2.2.2.1 4), vK (5 + (kP K).2.2.2.1 5), vK (5 + (kP K).2.2.2.1 6), vK (5 + (kP K).2.2.2.1 7)])))) := rfl
theorem m_run (K : KS') (hK : WK K) (R : Bool × PS) (hR : prR (kI K) (kP K) = R) (Q : Option Nat × SH) (nn : Nat) (hn : R.2.1 = nI nn) (hn8 : nn ≤ 8) (hkw : ∀ z, R.2.2.2.2.1 z < 10) (hQ : rnF R.2.2.2.2.1 R.2.2.2.2.2 nn 0 (kS K) = Q) (hI : (kI K).1 ≤ 1000) : Sp 12 12 2000 mX10_run [vR 0 0] (world K) (PoC (fRun R Q) (some (vI (nI nn))) (rnOk K R Q) (if R.1 = true then rnFl K R Q else rnEr K R)) := by
  refine Sp.of' false (fun h => by cases h) (by decide) rfl rfl (Nat.le_of_ble_eq_true rfl) fun γ σ B => ?_
  have con := s_p_parse (kI K) hI (kP K)
  rw [hR] at con
  obtain ⟨ok, cnt, pos, val, kw, rw⟩ := R
  have hn : cnt = nI nn := hn
  subst hn
  have hQ : rnF kw rw nn 0 (kS K) = Q := hQ
  have hkw : ∀ z, kw z < 10 := hkw
  have hBW : WF (rnBf K) := hK.1
  have hkB : gsk (rnBf K) = 0 ∨ gsk (rnBf K) = 1 := hK.1.2.2.2.2.1
  have loop : ∀ (m i : Nat) (S : SH), i + m = nn → WF S → rnF kw rw m i S = Q → ok = true → At γ σ 0 0 63 [(0, vR 0 0), (2, vI (nI i))] [] (world (stS (rnK2 K (ok, nI nn, pos, val, kw, rw)) S)) := by
    intro m
    induction m with
    | zero =>
      intro i S hi hS he hok
      have hi : i = nn := by omega
      subst hi
      have he : (none, S) = Q := he
      refine B.run okX10_run [(63, [0, 2]), (82, [0, 2]), (93, [0, 2, 3]), (96, [0, 2, 3]), (99, [0, 2, 3]), (102, [0, 2, 3]), (144, [0, 2, 3]), (153, [0, 2, 3]), (156, [0, 2, 3]), (159, [0, 2, 3]), (162, [0, 2, 3]), (172, [0]), (50, [0])] 60 ?_
      constructor
      · intro _
        refine B.run okX10_run [(63, [0, 2]), (82, [0, 2]), (93, [0, 2, 3]), (96, [0, 2, 3]), (99, [0, 2, 3]), (102, [0, 2, 3]), (144, [0, 2, 3]), (153, [0, 2, 3]), (156, [0, 2, 3]), (159, [0, 2, 3]), (162, [0, 2, 3]), (172, [0]), (50, [0])] 60 ?_
        refine At.wV (fe_Hb (stS (rnK2 K (ok, nI i, pos, val, kw, rw)) S) (keepH (kH K) (rnBf K))) [vR 34 0] [] B.1 (s_keep (kH K) (rnBf K) hK.2.2.2.2.1 hK.2.2.2.2.2.1 hkB) kX4_keep ln_X10_61 (B.fit (by decide) (by decide) (by decide)) (dcV okX10_run rfl) ?_
        refine B.run okX10_run [(63, [0, 2]), (82, [0, 2]), (93, [0, 2, 3]), (96, [0, 2, 3]), (99, [0, 2, 3]), (102, [0, 2, 3]), (144, [0, 2, 3]), (153, [0, 2, 3]), (156, [0, 2, 3]), (159, [0, 2, 3]), (162, [0, 2, 3]), (172, [0]), (50, [0])] 60 ?_
        exact rCo (by rw [← he]; unfold fRun; rw [if_pos hok]; rfl) rfl (kT K) (kC K) hK.2.1 (by rw [← he])
      · intro h
        exact absurd (nI_le (a := i) (b := i) (by omega) (by omega)) h
    | succ m ih =>
      intro i S hi hS he hok
      have hi8 : i < 8 := by omega
      have hKS : WK (stS (rnK2 K (ok, nI nn, pos, val, kw, rw)) S) := ⟨hS, hK.2.1, hBW, hK.2.2.2.1, hK.2.2.2.2⟩
      have hf5 := fK_lt S (rw i 0) (rw i 1) (rw i 2) (kw i) (hkw i)
      refine B.run okX10_run [(63, [0, 2]), (82, [0, 2]), (93, [0, 2, 3]), (96, [0, 2, 3]), (99, [0, 2, 3]), (102, [0, 2, 3]), (144, [0, 2, 3]), (153, [0, 2, 3]), (156, [0, 2, 3]), (159, [0, 2, 3]), (162, [0, 2, 3]), (172, [0]), (50, [0])] 60 ?_
      constructor
      · intro h
        exact absurd h (nI_ge (a := i) (b := nn) (by omega) (by omega))
      · intro _
        refine At.aald B.1 (ty := .array .int) rfl (dc1L okX10_run rfl (by simp [L1])) (argW_get (stS (rnK2 K (ok, nI nn, pos, val, kw, rw)) S)) (vp_in_nI hi8 (by decide)) ?_
        rw [nI_clamp (by omega), argW_nth hi8]
        refine B.run okX10_run [(63, [0, 2]), (82, [0, 2]), (93, [0, 2, 3]), (96, [0, 2, 3]), (99, [0, 2, 3]), (102, [0, 2, 3]), (144, [0, 2, 3]), (153, [0, 2, 3]), (156, [0, 2, 3]), (159, [0, 2, 3]), (162, [0, 2, 3]), (172, [0]), (50, [0])] 60 ?_
        refine At.aald B.1 (ty := .object RX6) rfl (dc1L okX10_run rfl (by simp [L1])) (kwW_get (stS (rnK2 K (ok, nI nn, pos, val, kw, rw)) S)) (vp_in_nI hi8 (by decide)) ?_
        rw [nI_clamp (by omega), kwW_nth _ hi8]
        refine B.run okX10_run [(63, [0, 2]), (82, [0, 2]), (93, [0, 2, 3]), (96, [0, 2, 3]), (99, [0, 2, 3]), (102, [0, 2, 3]), (144, [0, 2, 3]), (153, [0, 2, 3]), (156, [0, 2, 3]), (159, [0, 2, 3]), (162, [0, 2, 3]), (172, [0]), (50, [0])] 60 ?_
        refine At.iald B.1 (dc1L okX10_run rfl (by simp [L1])) (rowW_get (stS (rnK2 K (ok, nI nn, pos, val, kw, rw)) S) hi8) (vp_in_nI (n := 0) (by decide) (by decide)) ?_
        refine B.run okX10_run [(63, [0, 2]), (82, [0, 2]), (93, [0, 2, 3]), (96, [0, 2, 3]), (99, [0, 2, 3]), (102, [0, 2, 3]), (144, [0, 2, 3]), (153, [0, 2, 3]), (156, [0, 2, 3]), (159, [0, 2, 3]), (162, [0, 2, 3]), (172, [0]), (50, [0])] 60 ?_
        refine At.iald B.1 (dc1L okX10_run rfl (by simp [L1])) (rowW_get (stS (rnK2 K (ok, nI nn, pos, val, kw, rw)) S) hi8) (vp_in_nI (n := 1) (by decide) (by decide)) ?_
        refine B.run okX10_run [(63, [0, 2]), (82, [0, 2]), (93, [0, 2, 3]), (96, [0, 2, 3]), (99, [0, 2, 3]), (102, [0, 2, 3]), (144, [0, 2, 3]), (153, [0, 2, 3]), (156, [0, 2, 3]), (159, [0, 2, 3]), (162, [0, 2, 3]), (172, [0]), (50, [0])] 60 ?_
        refine At.iald B.1 (dc1L okX10_run rfl (by simp [L1])) (rowW_get (stS (rnK2 K (ok, nI nn, pos, val, kw, rw)) S) hi8) (vp_in_nI (n := 2) (by decide) (by decide)) ?_
        show At γ σ 0 0 103 [(0, vR 0 0), (2, vI (nI i)), (3, vR (57 + i) 0)] [vI (rw i 2), vI (rw i 1), vI (rw i 0), vK (5 + kw i), vR 0 0] (world (stS (rnK2 K (ok, nI nn, pos, val, kw, rw)) S))
        refine At.fI [vK (5 + kw i), vI (rw i 0), vI (rw i 1), vI (rw i 2)] [] B.1 B.2.1 (s_faultOf (stS (rnK2 K (ok, nI nn, pos, val, kw, rw)) S) hKS (kw i) (hkw i) (rw i 0) (rw i 1) (rw i 2)) kX10_faultOf ln_X10_396 (B.fit (by decide) (by decide) (by decide)) (by decide) (by decide) (dcV okX10_run rfl) (fun _ => ?_) (fun q => absurd rfl q)
        show At γ σ 0 0 106 [(0, vR 0 0), (2, vI (nI i)), (3, vR (57 + i) 0)] [vK (fK (kw i) S (rw i 0) (rw i 1) (rw i 2))] (world (stS (rnK2 K (ok, nI nn, pos, val, kw, rw)) S))
        refine At.getFault B.1 (i := 0) rfl fs_X10_402 (dcG okX10_run rfl) ?_
        refine At.acmpE B.1 hf5 (by decide) (dcAe okX10_run rfl) (t := 144) rfl (fun h0 => ?_) (fun h0 => ?_)
        · have he : rnF kw rw m (i + 1) (eK (kw i) S (rw i 0) (rw i 1) (rw i 2)) = Q := by
            rw [← he]; exact (if_pos h0).symm
          refine B.run okX10_run [(63, [0, 2]), (82, [0, 2]), (93, [0, 2, 3]), (96, [0, 2, 3]), (99, [0, 2, 3]), (102, [0, 2, 3]), (144, [0, 2, 3]), (153, [0, 2, 3]), (156, [0, 2, 3]), (159, [0, 2, 3]), (162, [0, 2, 3]), (172, [0]), (50, [0])] 60 ?_
          refine At.aald B.1 (ty := .object RX6) rfl (dc1L okX10_run rfl (by simp [L1])) (kwW_get (stS (rnK2 K (ok, nI nn, pos, val, kw, rw)) S)) (vp_in_nI hi8 (by decide)) ?_
          rw [nI_clamp (by omega), kwW_nth _ hi8]
          refine B.run okX10_run [(63, [0, 2]), (82, [0, 2]), (93, [0, 2, 3]), (96, [0, 2, 3]), (99, [0, 2, 3]), (102, [0, 2, 3]), (144, [0, 2, 3]), (153, [0, 2, 3]), (156, [0, 2, 3]), (159, [0, 2, 3]), (162, [0, 2, 3]), (172, [0]), (50, [0])] 60 ?_
          refine At.iald B.1 (dc1L okX10_run rfl (by simp [L1])) (rowW_get (stS (rnK2 K (ok, nI nn, pos, val, kw, rw)) S) hi8) (vp_in_nI (n := 0) (by decide) (by decide)) ?_
          refine B.run okX10_run [(63, [0, 2]), (82, [0, 2]), (93, [0, 2, 3]), (96, [0, 2, 3]), (99, [0, 2, 3]), (102, [0, 2, 3]), (144, [0, 2, 3]), (153, [0, 2, 3]), (156, [0, 2, 3]), (159, [0, 2, 3]), (162, [0, 2, 3]), (172, [0]), (50, [0])] 60 ?_
          refine At.iald B.1 (dc1L okX10_run rfl (by simp [L1])) (rowW_get (stS (rnK2 K (ok, nI nn, pos, val, kw, rw)) S) hi8) (vp_in_nI (n := 1) (by decide) (by decide)) ?_
          refine B.run okX10_run [(63, [0, 2]), (82, [0, 2]), (93, [0, 2, 3]), (96, [0, 2, 3]), (99, [0, 2, 3]), (102, [0, 2, 3]), (144, [0, 2, 3]), (153, [0, 2, 3]), (156, [0, 2, 3]), (159, [0, 2, 3]), (162, [0, 2, 3]), (172, [0]), (50, [0])] 60 ?_
          refine At.iald B.1 (dc1L okX10_run rfl (by simp [L1])) (rowW_get (stS (rnK2 K (ok, nI nn, pos, val, kw, rw)) S) hi8) (vp_in_nI (n := 2) (by decide) (by decide)) ?_
          show At γ σ 0 0 163 [(0, vR 0 0), (2, vI (nI i)), (3, vR (57 + i) 0)] [vI (rw i 2), vI (rw i 1), vI (rw i 0), vK (5 + kw i), vR 0 0] (world (stS (rnK2 K (ok, nI nn, pos, val, kw, rw)) S))
          refine At.fI [vK (5 + kw i), vI (rw i 0), vI (rw i 1), vI (rw i 2)] [] B.1 B.2.1 (s_carryOut (stS (rnK2 K (ok, nI nn, pos, val, kw, rw)) S) hKS (kw i) (hkw i) (rw i 0) (rw i 1) (rw i 2) h0) kX10_carryOut ln_X10_414 (B.fit (by decide) (by decide) (by decide)) (by decide) (by decide) (dcV okX10_run rfl) (fun _ => ?_) (fun q => absurd rfl q)
          refine B.run okX10_run [(63, [0, 2]), (82, [0, 2]), (93, [0, 2, 3]), (96, [0, 2, 3]), (99, [0, 2, 3]), (102, [0, 2, 3]), (144, [0, 2, 3]), (153, [0, 2, 3]), (156, [0, 2, 3]), (159, [0, 2, 3]), (162, [0, 2, 3]), (172, [0]), (50, [0])] 60 ?_
          show At γ σ 0 0 63 [(0, vR 0 0), (2, vI (nI i + 1))] [] (world (stS (rnK2 K (ok, nI nn, pos, val, kw, rw)) (eK (kw i) S (rw i 0) (rw i 1) (rw i 2))))
          rw [nI_1]
          exact ih (i + 1) _ (by omega) (WF_eK hS _ _ _ (kw i) (hkw i) h0) he hok
        · have he : (some i, S) = Q := by
            rw [← he]; exact (if_neg h0).symm
          refine B.run okX10_run [(63, [0, 2]), (82, [0, 2]), (93, [0, 2, 3]), (96, [0, 2, 3]), (99, [0, 2, 3]), (102, [0, 2, 3]), (144, [0, 2, 3]), (153, [0, 2, 3]), (156, [0, 2, 3]), (159, [0, 2, 3]), (162, [0, 2, 3]), (172, [0]), (50, [0])] 60 ?_
          refine At.wV (fe_SB (stS (rnK2 K (ok, nI nn, pos, val, kw, rw)) S) (cpS S (rnBf K))) [vR 4 0] [] B.1 (s_scopy S (rnBf K) hkB) kX8_copyFrom ln_X10_275 (B.fit (by decide) (by decide) (by decide)) (dcV okX10_run rfl) ?_
          refine B.run okX10_run [(63, [0, 2]), (82, [0, 2]), (93, [0, 2, 3]), (96, [0, 2, 3]), (99, [0, 2, 3]), (102, [0, 2, 3]), (144, [0, 2, 3]), (153, [0, 2, 3]), (156, [0, 2, 3]), (159, [0, 2, 3]), (162, [0, 2, 3]), (172, [0]), (50, [0])] 60 ?_
          refine ⟨Or.inr rfl, trivial, ?_⟩
          refine B.thrW okX10_run T_S ex_414 (PoC_n (m := 3) (by rw [← he]; unfold fRun; rw [if_pos hok]; rfl) (by decide) rfl (kT K) (kC K) hK.2.1 ?_) (by decide) (by decide) (by decide)
          rw [if_pos hok, ← he]; rfl
  refine B.run okX10_run [(63, [0, 2]), (82, [0, 2]), (93, [0, 2, 3]), (96, [0, 2, 3]), (99, [0, 2, 3]), (102, [0, 2, 3]), (144, [0, 2, 3]), (153, [0, 2, 3]), (156, [0, 2, 3]), (159, [0, 2, 3]), (162, [0, 2, 3]), (172, [0]), (50, [0])] 60 ?_
  refine At.wR 1 (aO 8 [vR 0 0, vR 2 0, vR 3 0, vI (kP K).1, vI (kP K).2.1, vI (kP K).2.2.1]) (fe_P K (nI nn, pos, val, kw, rw)) [] [] B.1 con kX7_parse ln_X10_373 (B.fit (by decide) (by decide) (by decide)) (dcV okX10_run rfl) ?_ (hl := (pgW_len _ _).trans (pgW_len _ _).symm)
  refine B.run okX10_run [(63, [0, 2]), (82, [0, 2]), (93, [0, 2, 3]), (96, [0, 2, 3]), (99, [0, 2, 3]), (102, [0, 2, 3]), (144, [0, 2, 3]), (153, [0, 2, 3]), (156, [0, 2, 3]), (159, [0, 2, 3]), (162, [0, 2, 3]), (172, [0]), (50, [0])] 60 ?_
  refine At.wB (fe_I (stP K (nI nn, pos, val, kw, rw)) (L0 (kI K))) [vI (nI 0)] [] B.1 (s_sSet (kI K).1 (kI K).2.1 (kI K).2.2) kJ4_setLength_d00df ln_X10_331 (B.fit (by decide) (by decide) (by decide)) (dcV okX10_run rfl) ?_
  refine B.run okX10_run [(63, [0, 2]), (82, [0, 2]), (93, [0, 2, 3]), (96, [0, 2, 3]), (99, [0, 2, 3]), (102, [0, 2, 3]), (144, [0, 2, 3]), (153, [0, 2, 3]), (156, [0, 2, 3]), (159, [0, 2, 3]), (162, [0, 2, 3]), (172, [0]), (50, [0])] 60 ?_
  constructor
  · intro h
    have h : ok = false := b2_eq0.mp h
    subst h
    refine ⟨Or.inr rfl, trivial, ?_⟩
    refine B.thrW okX10_run T_A ex_387 (PoC_n (m := 2) rfl (by decide) rfl (kT K) (kC K) hK.2.1 ?_) (by decide) (by decide) (by decide)
    rfl
  · intro h
    have h : ok = true := b2_ne0.mp h
    refine B.run okX10_run [(63, [0, 2]), (82, [0, 2]), (93, [0, 2, 3]), (96, [0, 2, 3]), (99, [0, 2, 3]), (102, [0, 2, 3]), (144, [0, 2, 3]), (153, [0, 2, 3]), (156, [0, 2, 3]), (159, [0, 2, 3]), (162, [0, 2, 3]), (172, [0]), (50, [0])] 60 ?_
    refine At.wV (fe_BS (rnK1 K (ok, nI nn, pos, val, kw, rw)) (rnBf K)) [vR 4 0] [] B.1 (s_scopy (kB K) (kS K) hK.1.2.2.2.2.1) kX8_copyFrom ln_X10_275 (B.fit (by decide) (by decide) (by decide)) (dcV okX10_run rfl) ?_
    refine B.run okX10_run [(63, [0, 2]), (82, [0, 2]), (93, [0, 2, 3]), (96, [0, 2, 3]), (99, [0, 2, 3]), (102, [0, 2, 3]), (144, [0, 2, 3]), (153, [0, 2, 3]), (156, [0, 2, 3]), (159, [0, 2, 3]), (162, [0, 2, 3]), (172, [0]), (50, [0])] 60 ?_
    exact loop nn 0 (kS K) (by omega) hK.1 hQ h
