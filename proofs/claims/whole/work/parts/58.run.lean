/-! ===== run ===== -/
abbrev PPr : List Nat := [53, 54, 55, 56, 57, 58, 59, 60, 61, 62, 63, 64]
theorem fe_P (K : KS') (p : PS) : FE PPr (pgW (kI K) (kP K)) (pgW (kI K) p) K (stP K p) := ⟨⟨rfl, rfl, rfl, rfl, rfl, rfl, rfl, rfl, rfl, rfl, rfl, rfl, trivial⟩, rfl⟩
theorem prF_i (I : SBB) : ∀ (m i q : Nat) (v : Int32) (kw : Nat → Nat) (rw : Nat → FI), (∀ z, kw z < 10) → (∀ z, (prF I m i q v kw rw).2.2.2.2.1 z < 10) ∧ ∃ n, n ≤ i + m ∧ (prF I m i q v kw rw).2.1 = nI n
  | 0, i, q, v, kw, rw, h => ⟨h, i, Nat.le_refl _, rfl⟩
  | m + 1, i, q, v, kw, rw, h => by
    unfold prF
    generalize rkI I q = kk
    generalize raR I (shp kk) (rkQ I q) v (rw i) = A
    have hu : kk < 10 → ∀ z, updK kw i kk z < 10 := fun hk z => by
      unfold updK
      split
      · exact hk
      · exact h z
    split
    · rename_i hk
      split
      · split
        · exact ⟨hu hk, i + 1, by omega, rfl⟩
        · split
          · obtain ⟨g1, n, g2, g3⟩ := prF_i I m (i + 1) (A.2.1 + 1) A.2.2.1 (updK kw i kk) (updR rw i A.2.2.2) (hu hk)
            exact ⟨g1, n, by omega, g3⟩
          · exact ⟨hu hk, i + 1, by omega, rfl⟩
      · exact ⟨h, i, by omega, rfl⟩
    · exact ⟨h, i, by omega, rfl⟩
def rnF (kw : Nat → Nat) (rw : Nat → FI) : Nat → Nat → SH → Option Nat × SH
  | 0, _, S => (none, S)
  | m + 1, i, S => if fK (kw i) S (rw i 0) (rw i 1) (rw i 2) = 0 then rnF kw rw m (i + 1) (eK (kw i) S (rw i 0) (rw i 1) (rw i 2)) else (some i, S)
abbrev rnK1 (K : KS') (R : Bool × PS) : KS' := stIn (stP K R.2) (L0 (kI K))
abbrev rnB (K : KS') : SH := cpS (kB K) (kS K)
abbrev rnK2 (K : KS') (R : Bool × PS) : KS' := stB (rnK1 K R) (rnB K)
def fRun (R : Bool × PS) (Q : Option Nat × SH) : Nat := if R.1 = true then (if Q.1 = none then 0 else 3) else 2
abbrev rnOk (K : KS') (R : Bool × PS) (Q : Option Nat × SH) : KS' := stH (stS (rnK2 K R) Q.2) (keepH (kH K) (rnB K))
abbrev rnFl (K : KS') (R : Bool × PS) (Q : Option Nat × SH) : KS' := stF (stS (rnK2 K R) (cpS Q.2 (rnB K))) ((kF K).1, (kF K).2.1, (kF K).2.2.1, 1, nI (Q.1.getD 0))
abbrev rnEr (K : KS') (R : Bool × PS) : KS' := stF (rnK1 K R) ((kF K).1, 1, R.2.2.1, (kF K).2.2.2)
theorem argW_nth {i : Nat} (hi : i < 8) : (hnth [vR 57 0, vR 58 0, vR 59 0, vR 60 0, vR 61 0, vR 62 0, vR 63 0, vR 64 0] i).getD vN = vR (57 + i) 0 := by
  have : i = 0 ∨ i = 1 ∨ i = 2 ∨ i = 3 ∨ i = 4 ∨ i = 5 ∨ i = 6 ∨ i = 7 := by omega
  rcases this with rfl | rfl | rfl | rfl | rfl | rfl | rfl | rfl <;> rfl
theorem kwW_nth (q : Nat → Nat) {i : Nat} (hi : i < 8) : (hnth [vK (5 + q 0), vK (5 + q 1), vK (5 + q 2), vK (5 + q 3), vK (5 + q 4), vK (5 + q 5), vK (5 + q 6), vK (5 + q 7)] i).getD vN = vK (5 + q i) := by
  have : i = 0 ∨ i = 1 ∨ i = 2 ∨ i = 3 ∨ i = 4 ∨ i = 5 ∨ i = 6 ∨ i = 7 := by omega
  rcases this with rfl | rfl | rfl | rfl | rfl | rfl | rfl | rfl <;> rfl
theorem rowW_get (K : KS') {i : Nat} (hi : i < 8) : hget (world K) (57 + i) 0 = some (aI 3 ((kP K).2.2.2.2 i)) := by
  have : i = 0 ∨ i = 1 ∨ i = 2 ∨ i = 3 ∨ i = 4 ∨ i = 5 ∨ i = 6 ∨ i = 7 := by omega
  rcases this with rfl | rfl | rfl | rfl | rfl | rfl | rfl | rfl <;> rfl
theorem argW_get (K : KS') : hget (world K) 56 0 = some (.inl (.array .int, 8, .inr (.inr (.inr [vR 57 0, vR 58 0, vR 59 0, vR 60 0, vR 61 0, vR 62 0, vR 63 0, vR 64 0])))) := rfl
theorem kwW_get (K : KS') : hget (world K) 55 0 = some (.inl (.object RX6, 8, .inr (.inr (.inr [vK (5 + (kP K).2.2.2.1 0), vK (5 + (kP K).2.2.2.1 1), vK (5 + (kP K).2.2.2.1 2), vK (5 + (kP K).2.2.2.1 3), vK (5 + (kP K).2.2.2.1 4), vK (5 + (kP K).2.2.2.1 5), vK (5 + (kP K).2.2.2.1 6), vK (5 + (kP K).2.2.2.1 7)])))) := rfl
theorem m_run (K : KS') (hK : WK K) (R : Bool × PS) (hR : prR (kI K) (kP K) = R) (Q : Option Nat × SH) (nn : Nat) (hn : R.2.1 = nI nn) (hn8 : nn ≤ 8) (hkw : ∀ z, R.2.2.2.2.1 z < 10) (hQ : rnF R.2.2.2.2.1 R.2.2.2.2.2 nn 0 (kS K) = Q) (hI : (kI K).1 ≤ 1000) : Sp 12 12 2000 mX10_run [vR 0 0] (world K) (PoC (fRun R Q) (some (vI (nI nn))) (rnOk K R Q) (if R.1 = true then rnFl K R Q else rnEr K R)) := by
  refine Sp.of' false (fun h => by cases h) (by decide) rfl rfl (Nat.le_of_ble_eq_true rfl) fun γ σ B => ?_
  have con := s_p_parse (kI K) hI (kP K)
  rw [hR] at con
  obtain ⟨ok, cnt, pos, val, kw, rw⟩ := R
  have hn : cnt = nI nn := hn
  subst hn
  have hQ : rnF kw rw nn 0 (kS K) = Q := hQ
  have hkw : ∀ z, kw z < 10 := hkw
  clear hR
  generalize hR : ((ok, nI nn, pos, val, kw, rw) : Bool × PS) = R at *
  have eR1 : R.1 = ok := by rw [← hR]
  have eR2 : R.2 = (nI nn, pos, val, kw, rw) := by rw [← hR]
  refine B.run okX10_run [(60, [0, 1, 2]), (79, [0, 1, 2]), (90, [0, 1, 2, 3]), (93, [0, 1, 2, 3]), (96, [0, 1, 2, 3]), (99, [0, 1, 2, 3]), (106, [0, 1, 2, 3]), (141, [0, 1, 2, 3]), (150, [0, 1, 2, 3]), (153, [0, 1, 2, 3]), (156, [0, 1, 2, 3]), (159, [0, 1, 2, 3]), (169, [0]), (47, [0, 1])] 60 ?_
  refine At.wV (c := aO 8 [vR 0 0, vR 2 0, vR 3 0, vI (kP K).1, vI (kP K).2.1, vI (kP K).2.2.1]) (fe_P K R.2) [] [] B.1 con kX7_parse ln_X10_375 (B.fit (by decide) (by decide) (by decide)) (dcV okX10_run rfl) ?_
  sorry
