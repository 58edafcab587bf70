/-! ===== the law's cases by hand: run, the means ===== -/
theorem run_all {i nn : Nat} {K : KS'} {m : MS} (h : EQ (8 * i) K m) (hi : i < 512) (R : Bool × PS) (hR : prR (kI K) (kP K) = R) (en : R.2.1 = nI nn) (n8 : nn ≤ 8) (Q : Option Nat × SH) (hQ : rnF R.2.2.2.2.1 R.2.2.2.2.2 nn 0 (kS K) = Q) :
    ∃ (bv : Int32) (P : MS → Prop), Sp 7 0 0 mX11_run [vR 0 0] (mdl m) (PoE (some (vI bv)) P) ∧ (∀ m', P m' → ∀ U C, WF U → EQ (8 * (i + 1)) (scr (if fRun R Q = 0 then rnOk K R Q else (if R.1 = true then rnFl K R Q else rnEr K R)) U C) m' ∧ zT m' = nI (thr (fRun R Q) 0 1 2 0)) ∧ (fRun R Q = 0 → bv = nI nn) := by
  obtain ⟨M, hM⟩ : ∃ M, psF (kI K) (zC m) = M := ⟨_, rfl⟩
  have hI := h.2.2.2.2.2.2.1.1
  by_cases ht : R.1 = true
  · obtain ⟨T, sp, rs⟩ := h.2.1
    have hT := sp.wf h.1.1.1
    obtain ⟨c1, c2, c3, c4, c5, c6, c7⟩ := run_ok h (by omega) sp R hR M hM ht en n8 Q hQ
    obtain ⟨-, -, h61⟩ := run_peq h R hR M hM
    generalize hkd : (fun k => kdJ (R.2.2.2.2.1 k)) = kd at c3 c4 c5 c6 c7
    obtain ⟨QM, hQM⟩ : ∃ QM, rnM M.1 kd nn 0 T = QM := ⟨_, rfl⟩
    rw [hQM] at c4 c5 c6
    have N := n_run hI rs hT h.2.2.1.2.2.2.1 h.2.2.1.2.1 M hM kd QM (by rw [c1]; exact hQM) (by rw [c1]; exact c3) h61 (fun p hp => by rw [c2] at hp; cases hp) (fun _ => c5)
    by_cases q : Q.1 = none
    · have hf : fRun R Q = 0 := by
        unfold fRun
        rw [if_pos ht, if_pos q]
      have hr : thR M QM = 0 := by
        unfold thR
        rw [c2, c4, q]; rfl
      rw [if_pos hr, c1] at N
      refine ⟨nI nn, _, N, fun m' P U C hU => ?_, fun _ => rfl⟩
      unfold RUN at P
      rw [c2] at P
      dsimp only at P
      rw [c4, q] at P
      dsimp only at P
      obtain ⟨z1, z2⟩ := c6 q m' P
      rw [if_pos hf, hf]
      exact ⟨(z1.le (by omega)).scr hU C, z2⟩
    · obtain ⟨j, hj⟩ : ∃ j, Q.1 = some j := by
        cases e : Q.1 with
        | none => exact absurd e q
        | some j => exact ⟨j, rfl⟩
      have hf : fRun R Q = 3 := by
        unfold fRun
        rw [if_pos ht, if_neg q]
      have hf0 : ¬ fRun R Q = 0 := by rw [hf]; decide
      refine ⟨_, _, N, fun m' P U C hU => ?_, fun z => absurd z hf0⟩
      unfold RUN at P
      rw [c2] at P
      dsimp only at P
      rw [c4, hj] at P
      dsimp only at P
      obtain ⟨z1, z2⟩ := c7 j hj m' _ P
      rw [if_neg hf0, if_pos ht, hf]
      exact ⟨(z1.le (by omega)).scr hU C, z2⟩
  · obtain ⟨p, hp, e2, he⟩ := run_err h R hR M hM ht
    have hf : fRun R Q = 2 := by
      unfold fRun
      rw [if_neg ht]
    have hf0 : ¬ fRun R Q = 0 := by rw [hf]; decide
    refine ⟨_, _, n_runE hI M hM p e2 hp, fun m' P U C hU => ?_, fun z => absurd z hf0⟩
    subst P
    rw [if_neg hf0, if_neg ht, hf]
    exact ⟨(he.le (by omega)).scr hU C, rfl⟩
theorem lc_57 {γ : CX} {σ : Nat → Nat → Nat} {b L i : Nat} {xs : Nat → Int32} (X : LX γ b L xs) (hi : 4 * i + 4 ≤ L) {K : KS'} {m : MS} {o : Nat → Int64} {d : Nat → UInt64} (h : EQ (8 * i) K m) (nx : NX γ σ b i) : At γ σ (1000 + 12 * i) (100000 + 2000 * i) 2971 (lsL b i) [] (LH K m o d) := by
  have hL := X.2.2.2.2.2.2
  have hK := h.1.1
  obtain ⟨R, hR⟩ : ∃ R, prR (kI K) (kP K) = R := ⟨_, rfl⟩
  obtain ⟨nn, n8, en, hk⟩ := run_facts h R hR
  obtain ⟨Q, hQ⟩ : ∃ Q, rnF R.2.2.2.2.1 R.2.2.2.2.2 nn 0 (kS K) = Q := ⟨_, rfl⟩
  obtain ⟨bv, P, N, fin, hb⟩ := run_all h (by omega) R hR en n8 Q hQ
  have H0 : thr (fRun R Q) 0 1 2 0 = 0 → fRun R Q = 0 := by
    rcases fs_fRun R Q with h9 | h9 | h9 <;> (rw [h9]; decide)
  refine X.run okK_57 [] 60 ?_
  refine At.lW [vR 0 0, vR 65 0] X.1 (w_run K hK R hR Q nn en n8 hk hQ (Nat.le_trans h.2.2.2.2.2.2.1.1.2.1 (by decide)) o) kL_run ln_L_374 X.fit (dcS okK_57 rfl) fun U C hU => ?_
  refine X.run okK_57 [] 60 ?_
  refine At.lE [] [] X.1 N kX11_run ln_L_376 X.fit (dcV okK_57 rfl) fun m' hP => ?_
  obtain ⟨hE, hz⟩ := fin m' hP U C hU
  refine X.run okK_57 [] 60 ?_
  refine At.lI [] [] X.1 (n_thrown _) kX11_thrown ln_L_182 X.fit (dcV okK_57 rfl) ?_
  refine X.run okK_57 [(3217, [0, 1, 2, 3, 4, 5])] 60 ?_
  exact tail_i (At.wid (kk_s i) (nn_20 i) (nx _ _ _ _ hE)) hz (e2_of (fun q => H0 (thr_n (by decide) q)) hb)
theorem dc_dl {ini : Bool} {o : Nat} {cc : ByteArray} {l : List IE} (h : okL ini o cc l = true) {pc i : Nat} (hd : dec_of l pc = some (.dload i)) : decode cc pc = .ok (.dload i, 2) := by
  obtain ⟨e, rfl, e2, h1, -⟩ := okL_dec h hd
  obtain ⟨len, h3, h4⟩ := okD_spec h1
  rw [e2] at h3 h4
  rw [h3, beq_iff_eq.mp h4]
theorem dc_fl {ini : Bool} {o : Nat} {cc : ByteArray} {l : List IE} (h : okL ini o cc l = true) {pc i : Nat} (hd : dec_of l pc = some (.fload i)) : decode cc pc = .ok (.fload i, 2) := by
  obtain ⟨e, rfl, e2, h1, -⟩ := okL_dec h hd
  obtain ⟨len, h3, h4⟩ := okD_spec h1
  rw [e2] at h3 h4
  rw [h3, beq_iff_eq.mp h4]
theorem dc_ds {ini : Bool} {o : Nat} {cc : ByteArray} {l : List IE} (h : okL ini o cc l = true) {pc i : Nat} (hd : dec_of l pc = some (.dstore i)) : decode cc pc = .ok (.dstore i, 2) := by
  obtain ⟨e, rfl, e2, h1, -⟩ := okL_dec h hd
  obtain ⟨len, h3, h4⟩ := okD_spec h1
  rw [e2] at h3 h4
  rw [h3, beq_iff_eq.mp h4]
theorem dc_fs {ini : Bool} {o : Nat} {cc : ByteArray} {l : List IE} (h : okL ini o cc l = true) {pc i : Nat} (hd : dec_of l pc = some (.fstore i)) : decode cc pc = .ok (.fstore i, 2) := by
  obtain ⟨e, rfl, e2, h1, -⟩ := okL_dec h hd
  obtain ⟨len, h3, h4⟩ := okD_spec h1
  rw [e2] at h3 h4
  rw [h3, beq_iff_eq.mp h4]
theorem dc_dc {ini : Bool} {o : Nat} {cc : ByteArray} {l : List IE} (h : okL ini o cc l = true) {pc : Nat} {op : CmpOp} (hd : dec_of l pc = some (.dcmp op)) : decode cc pc = .ok (.dcmp op, 1) := by
  obtain ⟨e, rfl, e2, h1, -⟩ := okL_dec h hd
  obtain ⟨len, h3, h4⟩ := okD_spec h1
  rw [e2] at h3 h4
  rw [h3, beq_iff_eq.mp h4]; rfl
theorem lc_49 {γ : CX} {σ : Nat → Nat → Nat} {b L i : Nat} {xs : Nat → Int32} (X : LX γ b L xs) (hi : 4 * i + 4 ≤ L) {K : KS'} {m : MS} {o : Nat → Int64} {d : Nat → UInt64} (h : EQ (8 * i) K m) (nx : NX γ σ b i) : At γ σ (1000 + 12 * i) (100000 + 2000 * i) 2588 (lsL b i) [] (LH K m o d) := by
  have hL := X.2.2.2.2.2.2
  have hK := h.1.1
  have gS := h.1.2.1
  obtain ⟨T, sp, rs⟩ := h.2.1
  have hT := sp.wf hK.1
  have vT := sp.vs gS.1
  obtain ⟨a', b', e9, -, -⟩ := id sp
  subst e9
  have nb : ¬ gc (kS K) = 0 → nb64 (FP.ddiv (FP.i2d (sumI (gw (kS K)) (gc (kS K)))) (FP.i2d (nI (gc (kS K))))) := fun z => mean_nb gS.1.1 hK.1 z
  have N := n_meanWater rs hT fun z => (nb z).n
  have hE : ∀ th, EQ (8 * (i + 1)) K (wT m th) := fun th => (show EQ (8 * i) K (wT m th) from h).le (by omega)
  refine X.run okK_49 [] 60 ?_
  refine At.lD [vR 0 0, vR 65 0] X.1 (w_meanWater K hK (fun z => (nb (fMean_0 z)).n) d) kL_meanWater ln_L_346 X.fit (dcS okK_49 rfl) fun U C hU => ?_
  by_cases h0 : gc (kS K) = 0
  · have hf : fMean (kS K) = 5 := if_pos h0
    rw [if_pos h0, if_pos h0] at N
    simp only [hf, show ¬ (5 : Nat) = 0 from by decide, if_false]
    refine X.run okK_49 [] 60 ?_
    refine At.lA [] [] X.1 N kX11_meanWater ln_L_349 X.fit (dcV okK_49 rfl) ?_
    refine At.dstore X.1 (dc_ds okK_49 rfl) (by rw [X.2.1]; decide) (by rfl) ?_
    refine X.run okK_49b [] 60 ?_
    refine At.lI [] [] X.1 (n_thrown _) kX11_thrown ln_L_182 X.fit (dcV okK_49b rfl) ?_
    refine X.run okK_49b [(3217, [0, 1, 2, 3, 4, 5])] 60 ?_
    exact ⟨fun _ => ⟨fun w => absurd w (by decide), fun _ => At.wid (kk_s i) (nn_7 i) (nx _ _ _ _ ((hE 1).scr hU C))⟩, fun w => absurd rfl w⟩
  · have hf : fMean (kS K) = 0 := if_neg h0
    rw [if_neg h0, if_neg h0] at N
    simp only [hf, if_true]
    refine X.run okK_49 [] 60 ?_
    refine At.lA [] [] X.1 N kX11_meanWater ln_L_349 X.fit (dcV okK_49 rfl) ?_
    refine At.dstore X.1 (dc_ds okK_49 rfl) (by rw [X.2.1]; decide) (by rfl) ?_
    refine X.run okK_49b [] 60 ?_
    refine At.lI [] [] X.1 (n_thrown _) kX11_thrown ln_L_182 X.fit (dcV okK_49b rfl) ?_
    refine X.run okK_49b [(3217, [0, 1, 2, 3, 4, 5])] 60 ?_
    have fin := At.wid (kk_s i) (nn_7 i) (nx _ _ o (oSd d (FP.ddiv (FP.i2d (sumI (gw (kS K)) (gc (kS K)))) (FP.i2d (nI (gc (kS K)))))) ((hE 0).scr hU C))
    refine ⟨fun _ => ⟨fun w => ⟨vk, ?_⟩, fun _ => fin⟩, fun w => absurd rfl w⟩
    refine At.dload X.1 (dc_dl okK_49b rfl) rfl ?_
    refine At.dcmp X.1 (dc_dc okK_49b rfl) ?_
    refine X.run okK_49b [(3217, [0, 1, 2, 3, 4, 5])] 60 ?_
    refine ⟨fun _ => fin, fun w => absurd ?_ w⟩
    rw [up_0d]
    exact dcmp_self (nb h0) _
theorem lc_50 {γ : CX} {σ : Nat → Nat → Nat} {b L i : Nat} {xs : Nat → Int32} (X : LX γ b L xs) (hi : 4 * i + 4 ≤ L) {K : KS'} {m : MS} {o : Nat → Int64} {d : Nat → UInt64} (h : EQ (8 * i) K m) (nx : NX γ σ b i) : At γ σ (1000 + 12 * i) (100000 + 2000 * i) 2653 (lsL b i) [] (LH K m o d) := by
  have hL := X.2.2.2.2.2.2
  have hK := h.1.1
  have gS := h.1.2.1
  obtain ⟨T, sp, rs⟩ := h.2.1
  have hT := sp.wf hK.1
  have vT := sp.vs gS.1
  obtain ⟨a', b', e9, -, -⟩ := id sp
  subst e9
  have nb : ¬ gc (kS K) = 0 → nb32 (FP.fdiv (FP.i2f (sumI (gw (kS K)) (gc (kS K)))) (FP.i2f (sumI (gcp (kS K)) (gc (kS K))))) := fun z => share_nb gS.1.1 hK.1 z
  have N := n_fillShare rs hT fun z => (nb z).n
  have hE : ∀ th, EQ (8 * (i + 1)) K (wT m th) := fun th => (show EQ (8 * i) K (wT m th) from h).le (by omega)
  refine X.run okK_50 [] 60 ?_
  refine At.lD [vR 0 0, vR 65 0] X.1 (w_fillShare K hK (fun z => (nb (fMean_0 z)).n) (fun z => (f2d_nb (nb (fMean_0 z))).n) d) kL_fillShare ln_L_350 X.fit (dcS okK_50 rfl) fun U C hU => ?_
  by_cases h0 : gc (kS K) = 0
  · have hf : fMean (kS K) = 5 := if_pos h0
    rw [if_pos h0, if_pos h0] at N
    simp only [hf, show ¬ (5 : Nat) = 0 from by decide, if_false]
    refine X.run okK_50 [] 60 ?_
    refine At.lA [] [] X.1 N kX11_fillShare ln_L_352 X.fit (dcV okK_50 rfl) ?_
    refine At.fstore X.1 (dc_fs okK_50 rfl) (by rw [X.2.1]; decide) (by rfl) ?_
    refine X.run okK_50b [] 60 ?_
    refine At.lI [] [] X.1 (n_thrown _) kX11_thrown ln_L_182 X.fit (dcV okK_50b rfl) ?_
    refine X.run okK_50b [(3217, [0, 1, 2, 3, 4, 5])] 60 ?_
    exact ⟨fun _ => ⟨fun w => absurd w (by decide), fun _ => At.wid (kk_s i) (nn_7 i) (nx _ _ _ _ ((hE 1).scr hU C))⟩, fun w => absurd rfl w⟩
  · have hf : fMean (kS K) = 0 := if_neg h0
    rw [if_neg h0, if_neg h0] at N
    simp only [hf, if_true]
    refine X.run okK_50 [] 60 ?_
    refine At.lA [] [] X.1 N kX11_fillShare ln_L_352 X.fit (dcV okK_50 rfl) ?_
    refine At.fstore X.1 (dc_fs okK_50 rfl) (by rw [X.2.1]; decide) (by rfl) ?_
    refine X.run okK_50b [] 60 ?_
    refine At.lI [] [] X.1 (n_thrown _) kX11_thrown ln_L_182 X.fit (dcV okK_50b rfl) ?_
    refine X.run okK_50b [(3217, [0, 1, 2, 3, 4, 5])] 60 ?_
    have fin := At.wid (kk_s i) (nn_7 i) (nx _ _ o (oSd d (FP.f2d (FP.fdiv (FP.i2f (sumI (gw (kS K)) (gc (kS K)))) (FP.i2f (sumI (gcp (kS K)) (gc (kS K))))))) ((hE 0).scr hU C))
    refine ⟨fun _ => ⟨fun w => ⟨vk, ?_⟩, fun _ => fin⟩, fun w => absurd rfl w⟩
    refine At.fload X.1 (dc_fl okK_50b rfl) rfl ?_
    refine At.f2d X.1 (f2d_nb (nb h0)).n (dc1L okK_50b rfl (by simp [L1])) ?_
    refine At.dcmp X.1 (dc_dc okK_50b rfl) ?_
    refine X.run okK_50b [(3217, [0, 1, 2, 3, 4, 5])] 60 ?_
    refine ⟨fun _ => fin, fun w => absurd ?_ w⟩
    rw [up_0d]
    exact dcmp_self (f2d_nb (nb h0)) _
