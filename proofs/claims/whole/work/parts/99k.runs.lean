/-! ===== run: the class's state and the model's ===== -/
theorem ok_pl {I : SBB} (hI : I.1 ≤ 60) : ∀ (f n : Nat) (C : FI) (s : PQ), okQ s → okQ (plF I f n C s).2.2 ∧ (plF I f n C s).2.1 ≤ n + f
  | 0, n, C, s, h => ⟨h, Nat.le_refl _⟩
  | f + 1, n, C, s, h => by
    unfold plF
    by_cases b : semB I s = true
    · rw [if_pos b]
      have b2 : atB I s.1 59 = true := by
        unfold semB at b
        simp only [Bool.and_eq_true] at b
        exact b.2
      have hq := atB_lt b2
      obtain ⟨z1, z2⟩ := ok_pl hI f (n + 1) (cm I n C (s.1 + 1, none)).1 (cm I n C (s.1 + 1, none)).2 (okQ_cm hI ⟨by show s.1 + 1 ≤ 60; omega, fun p hp => by cases hp⟩)
      exact ⟨z1, by omega⟩
    · rw [if_neg b]
      exact ⟨h, by show n ≤ n + (f + 1); omega⟩
theorem ok_ps {I : SBB} (hI : I.1 ≤ 60) (C : FI) : okQ (psF I C).2.2 ∧ (psF I C).2.1 ≤ 61 := by
  obtain ⟨z1, z2⟩ := ok_pl hI 60 1 (cm I 0 C (0, none)).1 (cm I 0 C (0, none)).2 (okQ_cm hI ⟨by show 0 ≤ 60; omega, fun p hp => by cases hp⟩)
  unfold psF psE
  by_cases e : endB I (plF I 60 1 (cm I 0 C (0, none)).1 (cm I 0 C (0, none)).2).2.2 = true
  · rw [if_pos e]
    refine ⟨⟨z1.1, fun p hp => ?_⟩, by omega⟩
    cases hp
    exact z1.1
  · rw [if_neg e]
    exact ⟨z1, by omega⟩
theorem rnF_lt {kw : Nat → Nat} {rw' : Nat → FI} : ∀ (n i : Nat) (S : SH) (j : Nat), (rnF kw rw' n i S).1 = some j → j < i + n
  | 0, i, S, j, h => by cases h
  | n + 1, i, S, j, h => by
    unfold rnF at h
    by_cases f : fK (kw i) S (rw' i 0) (rw' i 1) (rw' i 2) = 0
    · rw [if_pos f] at h
      have := rnF_lt n (i + 1) _ j h
      omega
    · rw [if_neg f] at h
      cases h
      omega
theorem run_facts {B : Nat} {K : KS'} {m : MS} (h : EQ B K m) (R : Bool × PS) (hR : prR (kI K) (kP K) = R) : ∃ nn, nn ≤ 8 ∧ R.2.1 = nI nn ∧ ∀ z, R.2.2.2.2.1 z < 10 := by
  have z := prF_i (kI K) 8 0 0 (kP K).2.2.1 (kP K).2.2.2.1 (kP K).2.2.2.2 h.2.2.2.2.2.2.2
  rw [show prF (kI K) 8 0 0 (kP K).2.2.1 (kP K).2.2.2.1 (kP K).2.2.2.2 = R from hR] at z
  obtain ⟨z1, n, z2, z3⟩ := z
  exact ⟨n, z2, z3, z1⟩
theorem run_peq {B : Nat} {K : KS'} {m : MS} (h : EQ B K m) (R : Bool × PS) (hR : prR (kI K) (kP K) = R) (M : FI × Nat × PQ) (hM : psF (kI K) (zC m) = M) : PEQ R M ∧ okQ M.2.2 ∧ M.2.1 ≤ 61 := by
  have hI := h.2.2.2.2.2.2.1.1
  rw [← hR, ← hM]
  exact ⟨ps_eq hI.2.1 (fun j hj => (hI.2.2 j hj).2) (kP K) (zC m), ok_ps hI.2.1 (zC m)⟩
theorem EQ.parsed {B : Nat} {K : KS'} {m : MS} (h : EQ B K m) (R : Bool × PS) (hk : ∀ z, R.2.2.2.2.1 z < 10) (M : FI × Nat × PQ) : EQ B (rnK1 K R) (mPr m M) := by
  obtain ⟨g, r, x, v, f, l, i, kw⟩ := h
  exact ⟨g, r, x, v, f, l, ⟨⟨nI_0.symm, Nat.zero_le _, fun j hj => absurd hj (Nat.not_lt_zero _)⟩, i.2⟩, hk⟩
theorem run_err {B : Nat} {K : KS'} {m : MS} (h : EQ B K m) (R : Bool × PS) (hR : prR (kI K) (kP K) = R) (M : FI × Nat × PQ) (hM : psF (kI K) (zC m) = M) (he : ¬ R.1 = true) : ∃ p, p ≤ 60 ∧ M.2.2.2 = some p ∧ EQ B (rnEr K R) (wT (wEa (mPr m M) (nI p)) 1) := by
  obtain ⟨n, -, -, hk⟩ := run_facts h R hR
  obtain ⟨⟨nn, -, -, hc⟩, ok, -⟩ := run_peq h R hR M hM
  rw [if_neg he] at hc
  obtain ⟨p, e1, e2⟩ := hc
  have hp := ok.2 p e2
  obtain ⟨g, r, x, v, f, l, i, kw⟩ := h.parsed R hk M
  exact ⟨p, hp, e2, g, r, x, v, ⟨Or.inr ⟨rfl, p, hp, e1, rfl⟩, f.2⟩, l, i, kw⟩
theorem EQ.mid {B : Nat} {K : KS'} {m : MS} (h : EQ B K m) (R : Bool × PS) (hk : ∀ z, R.2.2.2.2.1 z < 10) (M : FI × Nat × PQ) : EQ B (rnK2 K R) (mPr m M) := by
  obtain ⟨⟨w, g1, g2, g3⟩, r⟩ := h.parsed R hk M
  exact ⟨⟨⟨w.1, w.2.1, g1.2.1, w.2.2.2⟩, g1, g2, g3⟩, r⟩
/-- a program that was read -/
theorem run_ok {B nn : Nat} {K : KS'} {m : MS} {T : SH} (h : EQ B K m) (hB : B ≤ 4900) (sp : SP (kS K) T) (R : Bool × PS) (hR : prR (kI K) (kP K) = R) (M : FI × Nat × PQ) (hM : psF (kI K) (zC m) = M) (ht : R.1 = true) (e : R.2.1 = nI nn) (n8 : nn ≤ 8) (Q : Option Nat × SH) (hQ : rnF R.2.2.2.2.1 R.2.2.2.2.2 nn 0 (kS K) = Q) :
    M.2.1 = nn ∧ M.2.2.2 = none ∧ PRm M.1 (fun k => kdJ (R.2.2.2.2.1 k)) nn 0 T ∧ (rnM M.1 (fun k => kdJ (R.2.2.2.2.1 k)) nn 0 T).1 = Q.1 ∧ WF (rnM M.1 (fun k => kdJ (R.2.2.2.2.1 k)) nn 0 T).2 ∧
    (Q.1 = none → ∀ m', PCh 0 (kH K).2.1 (mPr m M) m' (rnM M.1 (fun k => kdJ (R.2.2.2.2.1 k)) nn 0 T).2 → EQ (B + 8) (rnOk K R Q) m' ∧ zT m' = 0) ∧
    ∀ i, Q.1 = some i → ∀ m' T', PCh 2 (kH K).2.1 (wFa (mPr m M) (nI i)) m' T' → EQ (B + 8) (rnFl K R Q) m' ∧ zT m' = 2 := by
  obtain ⟨n1, -, -, hk⟩ := run_facts h R hR
  obtain ⟨⟨n2, h8, e2, hc⟩, -, -⟩ := run_peq h R hR M hM
  rw [if_pos ht] at hc
  have en : n2 = nn := (nI_eq (by omega) (by omega)).mp (e2.symm.trans e)
  subst en
  obtain ⟨c1, c2, c3⟩ := hc
  have gS := h.1.2.1
  obtain ⟨q1, q2⟩ := rn_eq c3 n2 0 (by omega) sp
  rw [hQ] at q1 q2
  have gQ : GS (B + 8) Q.2 := by
    rw [← hQ]
    exact (GS.rn (nn := n2) (fun k _ => hk k) n2 0 B (by omega) gS (by omega)).le (by omega)
  have mid := h.mid R hk M
  refine ⟨c1, c2, prm_of c3 n2 0 (120 * B) (by omega) sp gS.1 gS.2.1 gS.2.2.1 (by omega), q1, q2.wf gQ.2.1, fun hq m' c => ?_, fun i hq m' T' c => ?_⟩
  · exact EQ.push mid (h.2.1.cp (kB K)) (GS_cp gS (kB K)) gQ q2 c
  · have hi : i < 0 + n2 := rnF_lt n2 0 (kS K) i (by rw [hQ]; exact hq)
    have base : EQ B (rnFl K R Q) (wFa (mPr m M) (nI i)) := by
      obtain ⟨⟨w, g1, g2, g3⟩, r, x, v, f, l⟩ := mid
      refine ⟨⟨⟨g1.2.1, w.2⟩, g1, g2, g3⟩, (h.2.1.cp (kB K)).cp Q.2, x, v, ⟨f.1, Or.inr ⟨rfl, i, by omega, ?_, rfl⟩⟩, l⟩
      show nI (Q.1.getD 0) = nI i
      rw [hq]; rfl
    exact ⟨(EQ.no base c (by decide)).1.le (by omega), (EQ.no base c (by decide)).2⟩
section NRE
variable {m : MS} {I : SBB}
theorem n_runE (hI : IR I m) (R : FI × Nat × PQ) (hR : psF I (zC m) = R) (p : Nat) (he : R.2.2.2 = some p) (hp : p ≤ 60) :
    Sp 7 0 0 mX11_run [vR 0 0] (mdl m) (PoE (some (vI 0)) (fun m' => m' = wT (wEa (mPr m R) (nI p)) 1)) := by
  refine Sp.of' false (fun h => by cases h) (by decide) rfl rfl (Nat.le_of_ble_eq_true rfl) fun γ σ B => ?_
  have F5 : Fit γ 0 0 5 0 0 := fiW B (by decide) (Nat.zero_le _) (Nat.zero_le _)
  have SP := n_parse hI
  rw [hR] at SP
  obtain ⟨C, nn, q, e⟩ := R
  have he : e = some p := he
  subst he
  refine B.run okX11_run [] 60 ?_
  refine At.mV [] [] B.1 SP kX11_parse ln_X11_244 F5 (dcV okX11_run rfl) ?_
  refine B.run okX11_run [(37, [0, 1])] 60 ?_
  refine ⟨trivial, ?_⟩
  constructor
  · intro w
    exact absurd w (nI_pos (by omega))
  · intro _
    exact ⟨trivial, trivial, rEv (P := fun m' => m' = wT (wEa (mPr m (C, nn, q, some p)) (nI p)) 1) (m' := wT (wEa (mPr m (C, nn, q, some p)) (nI p)) 1) rfl rfl rfl⟩
theorem n_thrown (m : MS) : Sp 0 0 0 mX11_thrown [vR 0 0] (mdl m) (PoI (zT m) (mdl m)) := by
  refine Sp.of' false (fun h => by cases h) (by decide) rfl rfl (Nat.le_of_ble_eq_true rfl) fun γ σ B => ?_
  refine B.run okX11_thrown [] 60 ?_
  exact rI rfl
end NRE
/-! ===== the class: the means, without the premise where there is no compartment ===== -/
