/-! ===== the law's cases (by program), 4 ===== -/
theorem lc_32 {γ : CX} {σ : Nat → Nat → Nat} {b L i : Nat} {xs : Nat → Int32} (X : LX γ b L xs) (hi : 4 * i + 4 ≤ L) {K : KS'} {m : MS} {o : Nat → Int64} {d : Nat → UInt64} (h : EQ (8 * i) K m) (nx : NX γ σ b i) : At γ σ (1000 + 12 * i) (100000 + 2000 * i) 1898 (lsL b i) [] (LH K m o d) := by
  have hL := X.2.2.2.2.2.2
  have hK := h.1.1
  have gS := h.1.2.1
  obtain ⟨T, sp, rs⟩ := h.2.1
  have hT := sp.wf hK.1
  have vT := sp.vs gS.1
  obtain ⟨a', b', e9, -, -⟩ := id sp
  subst e9
  have N := n_trim rs hT (vT.1.w100 hT).1
  refine X.run okK_32 [] 60 ?_
  refine At.lX X.1 (m_trim K hK ) kX10_trim ln_L_288 X.fit (dcV okK_32 rfl) fun U C hU => ?_
  refine X.run okK_32 [] 60 ?_
  refine At.lI [] [vI (trimI (tmI (kS K)) (twI (kS K)))] X.1 N kX11_trim ln_L_291 X.fit (dcV okK_32 rfl) ?_
  have hE : EQ (8 * (i + 1)) (scr (K) U C) (wT m 0) := (h.le (by omega)).scr hU C
  refine X.run okK_32 [(3217, [0, 1, 2, 3, 4, 5])] 60 ?_
  exact ⟨fun _ => At.wid (kk_s i) (nn_7 i) (nx _ _ _ _ hE), fun w => absurd (gS.1.1.trim hK.1 _) w⟩
theorem lc_33 {γ : CX} {σ : Nat → Nat → Nat} {b L i : Nat} {xs : Nat → Int32} (X : LX γ b L xs) (hi : 4 * i + 4 ≤ L) {K : KS'} {m : MS} {o : Nat → Int64} {d : Nat → UInt64} (h : EQ (8 * i) K m) (nx : NX γ σ b i) : At γ σ (1000 + 12 * i) (100000 + 2000 * i) 1911 (lsL b i) [] (LH K m o d) := by
  have hL := X.2.2.2.2.2.2
  have hK := h.1.1
  have gS := h.1.2.1
  obtain ⟨T, sp, rs⟩ := h.2.1
  have hT := sp.wf hK.1
  have vT := sp.vs gS.1
  obtain ⟨a', b', e9, -, -⟩ := id sp
  subst e9
  have N := n_isBalanced rs hT (vT.1.w100 hT).1
  refine X.run okK_33 [] 60 ?_
  refine At.lX X.1 (m_isBalanced K hK ) kX10_isBalanced ln_L_292 X.fit (dcV okK_33 rfl) fun U C hU => ?_
  refine X.run okK_33 [] 60 ?_
  refine At.lI [] [vI (b2 (decide (absI (trimI (tmI (kS K)) (twI (kS K))) ≤ glm (kS K))))] X.1 N kX11_isBalanced ln_L_296 X.fit (dcV okK_33 rfl) ?_
  have hE : EQ (8 * (i + 1)) (scr (K) U C) (wT m 0) := (h.le (by omega)).scr hU C
  refine X.run okK_33 [(3217, [0, 1, 2, 3, 4, 5])] 60 ?_
  exact ⟨fun _ => At.wid (kk_s i) (nn_7 i) (nx _ _ _ _ hE), fun w => absurd ((congrArg (fun z => b2 (decide (absI z ≤ glm (kS K)))) (gS.1.1.trim hK.1 _))) w⟩
theorem lc_34 {γ : CX} {σ : Nat → Nat → Nat} {b L i : Nat} {xs : Nat → Int32} (X : LX γ b L xs) (hi : 4 * i + 4 ≤ L) {K : KS'} {m : MS} {o : Nat → Int64} {d : Nat → UInt64} (h : EQ (8 * i) K m) (nx : NX γ σ b i) : At γ σ (1000 + 12 * i) (100000 + 2000 * i) 1924 (lsL b i) [] (LH K m o d) := by
  have hL := X.2.2.2.2.2.2
  have hK := h.1.1
  have gS := h.1.2.1
  obtain ⟨T, sp, rs⟩ := h.2.1
  have hT := sp.wf hK.1
  have vT := sp.vs gS.1
  obtain ⟨a', b', e9, -, -⟩ := id sp
  subst e9
  have N := n_isAfloat rs
  refine X.run okK_34 [] 60 ?_
  refine At.lX X.1 (m_isAfloat K hK ) kX10_isAfloat ln_L_297 X.fit (dcV okK_34 rfl) fun U C hU => ?_
  refine X.run okK_34 [] 60 ?_
  refine At.lI [] [vI (b2 (decide (gsk (kS K) = 0)))] X.1 N kX11_isAfloat ln_L_300 X.fit (dcV okK_34 rfl) ?_
  have hE : EQ (8 * (i + 1)) (scr (K) U C) (wT m 0) := (h.le (by omega)).scr hU C
  refine X.run okK_34 [(3217, [0, 1, 2, 3, 4, 5])] 60 ?_
  exact ⟨fun _ => At.wid (kk_s i) (nn_7 i) (nx _ _ _ _ hE), fun w => absurd (rfl) w⟩
theorem lc_35 {γ : CX} {σ : Nat → Nat → Nat} {b L i : Nat} {xs : Nat → Int32} (X : LX γ b L xs) (hi : 4 * i + 4 ≤ L) {K : KS'} {m : MS} {o : Nat → Int64} {d : Nat → UInt64} (h : EQ (8 * i) K m) (nx : NX γ σ b i) : At γ σ (1000 + 12 * i) (100000 + 2000 * i) 1937 (lsL b i) [] (LH K m o d) := by
  have hL := X.2.2.2.2.2.2
  have hK := h.1.1
  have gS := h.1.2.1
  obtain ⟨T, sp, rs⟩ := h.2.1
  have hT := sp.wf hK.1
  have vT := sp.vs gS.1
  have mT := sp.mp gS.2.2.1
  obtain ⟨a', b', e9, -, -⟩ := id sp
  subst e9
  have H0 : thr (fBT (kS K) (xs (4 * i + 1)) (kC K)) 0 1 0 2 = 0 → (fBT (kS K) (xs (4 * i + 1)) (kC K)) = 0 := by
    rcases fs_fBT (kS K) (xs (4 * i + 1)) (kC K) with h9 | h9 | h9 <;> (rw [h9]; decide)
  have N := n_bestSource rs hT (xs (4 * i + 1)) (kC K)
  refine X.run okK_35 [] 60 ?_
  refine X.sld 1 hi (dcIa okK_35 rfl) ?_
  refine X.run okK_35 [] 60 ?_
  refine At.lW [vR 0 0, vI (xs (4 * i + 1)), vR 65 0] X.1 (w_bestSource K hK (xs (4 * i + 1))  o) kL_bestSource ln_L_301 X.fit (dcS okK_35 rfl) fun U C hU => ?_
  refine X.run okK_35 [] 60 ?_
  refine X.sld 1 hi (dcIa okK_35 rfl) ?_
  refine X.run okK_35 [] 60 ?_
  refine At.lI [vI (xs (4 * i + 1))] [] X.1 N kX11_bestSource ln_L_303 X.fit (dcV okK_35 rfl) ?_
  have hE := rd_fin (f := (fBT (kS K) (xs (4 * i + 1)) (kC K))) (th := nI (thr (fBT (kS K) (xs (4 * i + 1)) (kC K)) 0 1 0 2)) h hU C
  have hz := (rfl : nI (thr (fBT (kS K) (xs (4 * i + 1)) (kC K)) 0 1 0 2) = nI (thr (fBT (kS K) (xs (4 * i + 1)) (kC K)) 0 1 0 2))
  refine X.run okK_35 [] 60 ?_
  refine At.lI [] [] X.1 (n_thrown _) kX11_thrown ln_L_182 X.fit (dcV okK_35 rfl) ?_
  refine X.run okK_35 [(3217, [0, 1, 2, 3, 4, 5])] 60 ?_
  exact tail_i (At.wid (kk_s i) (nn_7 i) (nx _ _ _ _ hE)) hz (e2_of (fun q => H0 (thr_n (by decide) q)) (fun q => if_pos q))
theorem lc_36 {γ : CX} {σ : Nat → Nat → Nat} {b L i : Nat} {xs : Nat → Int32} (X : LX γ b L xs) (hi : 4 * i + 4 ≤ L) {K : KS'} {m : MS} {o : Nat → Int64} {d : Nat → UInt64} (h : EQ (8 * i) K m) (nx : NX γ σ b i) : At γ σ (1000 + 12 * i) (100000 + 2000 * i) 1993 (lsL b i) [] (LH K m o d) := by
  have hL := X.2.2.2.2.2.2
  have hK := h.1.1
  have gS := h.1.2.1
  obtain ⟨T, sp, rs⟩ := h.2.1
  have hT := sp.wf hK.1
  have vT := sp.vs gS.1
  have mT := sp.mp gS.2.2.1
  obtain ⟨a', b', e9, -, -⟩ := id sp
  subst e9
  have H0 : thr (fBT (kS K) (xs (4 * i + 1)) (kC K)) 0 1 0 2 = 0 → (fBT (kS K) (xs (4 * i + 1)) (kC K)) = 0 := by
    rcases fs_fBT (kS K) (xs (4 * i + 1)) (kC K) with h9 | h9 | h9 <;> (rw [h9]; decide)
  have N := n_bestTarget rs hT (xs (4 * i + 1)) (kC K)
  refine X.run okK_36 [] 60 ?_
  refine X.sld 1 hi (dcIa okK_36 rfl) ?_
  refine X.run okK_36 [] 60 ?_
  refine At.lW [vR 0 0, vI (xs (4 * i + 1)), vR 65 0] X.1 (w_bestTarget K hK (xs (4 * i + 1))  o) kL_bestTarget ln_L_304 X.fit (dcS okK_36 rfl) fun U C hU => ?_
  refine X.run okK_36 [] 60 ?_
  refine X.sld 1 hi (dcIa okK_36 rfl) ?_
  refine X.run okK_36 [] 60 ?_
  refine At.lI [vI (xs (4 * i + 1))] [] X.1 N kX11_bestTarget ln_L_306 X.fit (dcV okK_36 rfl) ?_
  have hE := rd_fin (f := (fBT (kS K) (xs (4 * i + 1)) (kC K))) (th := nI (thr (fBT (kS K) (xs (4 * i + 1)) (kC K)) 0 1 0 2)) h hU C
  have hz := (rfl : nI (thr (fBT (kS K) (xs (4 * i + 1)) (kC K)) 0 1 0 2) = nI (thr (fBT (kS K) (xs (4 * i + 1)) (kC K)) 0 1 0 2))
  refine X.run okK_36 [] 60 ?_
  refine At.lI [] [] X.1 (n_thrown _) kX11_thrown ln_L_182 X.fit (dcV okK_36 rfl) ?_
  refine X.run okK_36 [(3217, [0, 1, 2, 3, 4, 5])] 60 ?_
  exact tail_i (At.wid (kk_s i) (nn_7 i) (nx _ _ _ _ hE)) hz (e2_of (fun q => H0 (thr_n (by decide) q)) (fun q => if_pos q))
theorem lc_37 {γ : CX} {σ : Nat → Nat → Nat} {b L i : Nat} {xs : Nat → Int32} (X : LX γ b L xs) (hi : 4 * i + 4 ≤ L) {K : KS'} {m : MS} {o : Nat → Int64} {d : Nat → UInt64} (h : EQ (8 * i) K m) (nx : NX γ σ b i) : At γ σ (1000 + 12 * i) (100000 + 2000 * i) 2049 (lsL b i) [] (LH K m o d) := by
  have hL := X.2.2.2.2.2.2
  have hK := h.1.1
  have gS := h.1.2.1
  obtain ⟨T, sp, rs⟩ := h.2.1
  have hT := sp.wf hK.1
  have vT := sp.vs gS.1
  have mT := sp.mp gS.2.2.1
  obtain ⟨a', b', e9, -, -⟩ := id sp
  subst e9
  have H0 : thr (fBT (kS K) (xs (4 * i + 1)) (kC K)) 0 1 0 2 = 0 → (fBT (kS K) (xs (4 * i + 1)) (kC K)) = 0 := by
    rcases fs_fBT (kS K) (xs (4 * i + 1)) (kC K) with h9 | h9 | h9 <;> (rw [h9]; decide)
  have N := n_bestMoment rs hT (xs (4 * i + 1)) (kC K)
  refine X.run okK_37 [] 60 ?_
  refine X.sld 1 hi (dcIa okK_37 rfl) ?_
  refine X.run okK_37 [] 60 ?_
  refine At.lW [vR 0 0, vI (xs (4 * i + 1)), vR 65 0] X.1 (w_bestMoment K hK (xs (4 * i + 1))  o) kL_bestMoment ln_L_307 X.fit (dcS okK_37 rfl) fun U C hU => ?_
  refine X.run okK_37 [] 60 ?_
  refine X.sld 1 hi (dcIa okK_37 rfl) ?_
  refine X.run okK_37 [] 60 ?_
  refine At.lI [vI (xs (4 * i + 1))] [] X.1 N kX11_bestMoment ln_L_309 X.fit (dcV okK_37 rfl) ?_
  have hE := rd_fin (f := (fBT (kS K) (xs (4 * i + 1)) (kC K))) (th := nI (thr (fBT (kS K) (xs (4 * i + 1)) (kC K)) 0 1 0 2)) h hU C
  have hz := (rfl : nI (thr (fBT (kS K) (xs (4 * i + 1)) (kC K)) 0 1 0 2) = nI (thr (fBT (kS K) (xs (4 * i + 1)) (kC K)) 0 1 0 2))
  refine X.run okK_37 [] 60 ?_
  refine At.lI [] [] X.1 (n_thrown _) kX11_thrown ln_L_182 X.fit (dcV okK_37 rfl) ?_
  refine X.run okK_37 [(3217, [0, 1, 2, 3, 4, 5])] 60 ?_
  exact tail_i (At.wid (kk_s i) (nn_7 i) (nx _ _ _ _ hE)) hz (e2_of (fun q => H0 (thr_n (by decide) q)) (fun q => if_pos q))
theorem lc_38 {γ : CX} {σ : Nat → Nat → Nat} {b L i : Nat} {xs : Nat → Int32} (X : LX γ b L xs) (hi : 4 * i + 4 ≤ L) {K : KS'} {m : MS} {o : Nat → Int64} {d : Nat → UInt64} (h : EQ (8 * i) K m) (nx : NX γ σ b i) : At γ σ (1000 + 12 * i) (100000 + 2000 * i) 2105 (lsL b i) [] (LH K m o d) := by
  have hL := X.2.2.2.2.2.2
  have hK := h.1.1
  have gS := h.1.2.1
  obtain ⟨T, sp, rs, hT, vT, mT, gC⟩ := h.trial (by omega)
  have hM : ∃ M, M < 2 ^ 30 ∧ absI (tmI (kS K)) = nI M := by
    obtain ⟨M, q1, q2⟩ := (gS.1.1.tm hK.1).abs (A := 72000) (by decide)
    exact ⟨M, by omega, q2⟩
  have H0 : thr (fTB K (xs (4 * i + 1))) 0 1 0 2 = 0 → (fTB K (xs (4 * i + 1))) = 0 := by
    rcases fs_fTB K (xs (4 * i + 1)) with h9 | h9 | h9 <;> (rw [h9]; decide)
  have N := n_transfersToBalance rs hT vT.1 (xs (4 * i + 1)) (kC K)
  refine X.run okK_38 [] 60 ?_
  refine X.sld 1 hi (dcIa okK_38 rfl) ?_
  refine X.run okK_38 [] 60 ?_
  refine At.lW [vR 0 0, vI (xs (4 * i + 1)), vR 65 0] X.1 (w_transfersToBalance K hK (xs (4 * i + 1)) hM o) kL_transfersToBalance ln_L_310 X.fit (dcS okK_38 rfl) fun U C hU => ?_
  refine X.run okK_38 [] 60 ?_
  refine X.sld 1 hi (dcIa okK_38 rfl) ?_
  refine X.run okK_38 [] 60 ?_
  refine At.lE [vI (xs (4 * i + 1))] [] X.1 N kX11_transfersToBalance ln_L_312 X.fit (dcV okK_38 rfl) fun m' P => ?_
  obtain ⟨hE, hz⟩ := rd2_fin (f := (fTB K (xs (4 * i + 1)))) h P hU C
  have hz := hz.trans (tb_th (B := 8 * i) sp (xs (4 * i + 1)))
  refine X.run okK_38 [] 60 ?_
  refine At.lI [] [] X.1 (n_thrown _) kX11_thrown ln_L_182 X.fit (dcV okK_38 rfl) ?_
  refine X.run okK_38 [(3217, [0, 1, 2, 3, 4, 5])] 60 ?_
  exact tail_i (At.wid (kk_s i) (nn_7 i) (nx _ _ _ _ hE)) hz (e2_of (fun q => H0 (thr_n (by decide) q)) (fun q => tb_v (B := 8 * i) sp (xs (4 * i + 1)) q))
theorem lc_39 {γ : CX} {σ : Nat → Nat → Nat} {b L i : Nat} {xs : Nat → Int32} (X : LX γ b L xs) (hi : 4 * i + 4 ≤ L) {K : KS'} {m : MS} {o : Nat → Int64} {d : Nat → UInt64} (h : EQ (8 * i) K m) (nx : NX γ σ b i) : At γ σ (1000 + 12 * i) (100000 + 2000 * i) 2161 (lsL b i) [] (LH K m o d) := by
  have hL := X.2.2.2.2.2.2
  have hK := h.1.1
  have gS := h.1.2.1
  obtain ⟨T, sp, rs⟩ := h.2.1
  have hT := sp.wf hK.1
  have vT := sp.vs gS.1
  have mT := sp.mp gS.2.2.1
  obtain ⟨a', b', e9, -, -⟩ := id sp
  subst e9
  have H0 : thr (fBS (kS K) (kC K)) 0 0 0 1 = 0 → (fBS (kS K) (kC K)) = 0 := by
    rcases fs_fBS (kS K) (kC K) with h9 | h9 <;> (rw [h9]; decide)
  have N := n_bestShiftPiece rs hT (kC K)
  rw [fBS_eq sp, bH_eq sp] at N
  refine X.run okK_39 [] 60 ?_
  refine At.lW [vR 0 0, vR 65 0] X.1 (w_bestShiftPiece K hK   o) kL_bestShiftPiece ln_L_313 X.fit (dcS okK_39 rfl) fun U C hU => ?_
  refine X.run okK_39 [] 60 ?_
  refine At.lI [] [] X.1 N kX11_bestShiftPiece ln_L_315 X.fit (dcV okK_39 rfl) ?_
  have hE := rd_fin (f := (fBS (kS K) (kC K))) (th := (if (fBS (kS K) (kC K)) = 0 then 0 else 1)) h hU C
  have hz := th_01 (f := (fBS (kS K) (kC K))) (fs_fBS (kS K) (kC K))
  refine X.run okK_39 [] 60 ?_
  refine At.lI [] [] X.1 (n_thrown _) kX11_thrown ln_L_182 X.fit (dcV okK_39 rfl) ?_
  refine X.run okK_39 [(3217, [0, 1, 2, 3, 4, 5])] 60 ?_
  exact tail_i (At.wid (kk_s i) (nn_7 i) (nx _ _ _ _ hE)) hz (e2_of (fun q => H0 (thr_n (by decide) q)) (fun q => if_pos q))
