/-! ===== the law's cases (by program), 2 ===== -/
theorem lc_16 {γ : CX} {σ : Nat → Nat → Nat} {b L i : Nat} {xs : Nat → Int32} (X : LX γ b L xs) (hi : 4 * i + 4 ≤ L) {K : KS'} {m : MS} {o : Nat → Int64} {d : Nat → UInt64} (h : EQ (8 * i) K m) (nx : NX γ σ b i) : At γ σ (1000 + 12 * i) (100000 + 2000 * i) 1222 (lsL b i) [] (LH K m o d) := by
  have hL := X.2.2.2.2.2.2
  have hK := h.1.1
  have gS := h.1.2.1
  obtain ⟨T, sp, rs⟩ := h.2.1
  have hT := sp.wf hK.1
  have vT := sp.vs gS.1
  have mT := sp.mp gS.2.2.1
  obtain ⟨a', b', e9, -, -⟩ := id sp
  subst e9
  have H0 : thr (fChk (kS K) (xs (4 * i + 1))) 1 0 0 0 = 0 → (fChk (kS K) (xs (4 * i + 1))) = 0 := by
    rcases fs_fChk (kS K) (xs (4 * i + 1)) with h9 | h9 <;> (rw [h9]; decide)
  have N := n_capacity rs hT (xs (4 * i + 1))
  refine X.run okK_16 [] 60 ?_
  refine X.sld 1 hi (dcIa okK_16 rfl) ?_
  refine X.run okK_16 [] 60 ?_
  refine At.lW [vR 0 0, vI (xs (4 * i + 1)), vR 65 0] X.1 (w_capacity K hK (xs (4 * i + 1))  o) kL_capacity ln_L_234 X.fit (dcS okK_16 rfl) fun U C hU => ?_
  refine X.run okK_16 [] 60 ?_
  refine X.sld 1 hi (dcIa okK_16 rfl) ?_
  refine X.run okK_16 [] 60 ?_
  refine At.lI [vI (xs (4 * i + 1))] [] X.1 N kX11_capacity ln_L_236 X.fit (dcV okK_16 rfl) ?_
  have hE := rd_fin (f := (fChk (kS K) (xs (4 * i + 1)))) (th := ng (hsB (gc (kS K)) (xs (4 * i + 1)))) h hU C
  have hz := th_ng (b := hsB (gc (kS K)) (xs (4 * i + 1))) (f := (fChk (kS K) (xs (4 * i + 1)))) rfl
  refine X.run okK_16 [] 60 ?_
  refine At.lI [] [] X.1 (n_thrown _) kX11_thrown ln_L_182 X.fit (dcV okK_16 rfl) ?_
  refine X.run okK_16 [(3217, [0, 1, 2, 3, 4, 5])] 60 ?_
  exact tail_i (At.wid (kk_s i) (nn_7 i) (nx _ _ _ _ hE)) hz (e2_of (fun q => H0 (thr_n (by decide) q)) (fun q => if_pos (b_of rfl (by decide) q)))
theorem lc_17 {γ : CX} {σ : Nat → Nat → Nat} {b L i : Nat} {xs : Nat → Int32} (X : LX γ b L xs) (hi : 4 * i + 4 ≤ L) {K : KS'} {m : MS} {o : Nat → Int64} {d : Nat → UInt64} (h : EQ (8 * i) K m) (nx : NX γ σ b i) : At γ σ (1000 + 12 * i) (100000 + 2000 * i) 1278 (lsL b i) [] (LH K m o d) := by
  have hL := X.2.2.2.2.2.2
  have hK := h.1.1
  have gS := h.1.2.1
  obtain ⟨T, sp, rs⟩ := h.2.1
  have hT := sp.wf hK.1
  have vT := sp.vs gS.1
  have mT := sp.mp gS.2.2.1
  obtain ⟨a', b', e9, -, -⟩ := id sp
  subst e9
  have H0 : thr (fChk (kS K) (xs (4 * i + 1))) 1 0 0 0 = 0 → (fChk (kS K) (xs (4 * i + 1))) = 0 := by
    rcases fs_fChk (kS K) (xs (4 * i + 1)) with h9 | h9 <;> (rw [h9]; decide)
  have N := n_water rs hT (xs (4 * i + 1))
  refine X.run okK_17 [] 60 ?_
  refine X.sld 1 hi (dcIa okK_17 rfl) ?_
  refine X.run okK_17 [] 60 ?_
  refine At.lW [vR 0 0, vI (xs (4 * i + 1)), vR 65 0] X.1 (w_water K hK (xs (4 * i + 1))  o) kL_water ln_L_237 X.fit (dcS okK_17 rfl) fun U C hU => ?_
  refine X.run okK_17 [] 60 ?_
  refine X.sld 1 hi (dcIa okK_17 rfl) ?_
  refine X.run okK_17 [] 60 ?_
  refine At.lI [vI (xs (4 * i + 1))] [] X.1 N kX11_water ln_L_239 X.fit (dcV okK_17 rfl) ?_
  have hE := rd_fin (f := (fChk (kS K) (xs (4 * i + 1)))) (th := ng (hsB (gc (kS K)) (xs (4 * i + 1)))) h hU C
  have hz := th_ng (b := hsB (gc (kS K)) (xs (4 * i + 1))) (f := (fChk (kS K) (xs (4 * i + 1)))) rfl
  refine X.run okK_17 [] 60 ?_
  refine At.lI [] [] X.1 (n_thrown _) kX11_thrown ln_L_182 X.fit (dcV okK_17 rfl) ?_
  refine X.run okK_17 [(3217, [0, 1, 2, 3, 4, 5])] 60 ?_
  exact tail_i (At.wid (kk_s i) (nn_7 i) (nx _ _ _ _ hE)) hz (e2_of (fun q => H0 (thr_n (by decide) q)) (fun q => if_pos (b_of rfl (by decide) q)))
theorem lc_18 {γ : CX} {σ : Nat → Nat → Nat} {b L i : Nat} {xs : Nat → Int32} (X : LX γ b L xs) (hi : 4 * i + 4 ≤ L) {K : KS'} {m : MS} {o : Nat → Int64} {d : Nat → UInt64} (h : EQ (8 * i) K m) (nx : NX γ σ b i) : At γ σ (1000 + 12 * i) (100000 + 2000 * i) 1334 (lsL b i) [] (LH K m o d) := by
  have hL := X.2.2.2.2.2.2
  have hK := h.1.1
  have gS := h.1.2.1
  obtain ⟨T, sp, rs⟩ := h.2.1
  have hT := sp.wf hK.1
  have vT := sp.vs gS.1
  have mT := sp.mp gS.2.2.1
  obtain ⟨a', b', e9, -, -⟩ := id sp
  subst e9
  have H0 : thr (fChk (kS K) (xs (4 * i + 1))) 1 0 0 0 = 0 → (fChk (kS K) (xs (4 * i + 1))) = 0 := by
    rcases fs_fChk (kS K) (xs (4 * i + 1)) with h9 | h9 <;> (rw [h9]; decide)
  have N := n_leak rs hT (xs (4 * i + 1))
  refine X.run okK_18 [] 60 ?_
  refine X.sld 1 hi (dcIa okK_18 rfl) ?_
  refine X.run okK_18 [] 60 ?_
  refine At.lW [vR 0 0, vI (xs (4 * i + 1)), vR 65 0] X.1 (w_leak K hK (xs (4 * i + 1))  o) kL_leak ln_L_240 X.fit (dcS okK_18 rfl) fun U C hU => ?_
  refine X.run okK_18 [] 60 ?_
  refine X.sld 1 hi (dcIa okK_18 rfl) ?_
  refine X.run okK_18 [] 60 ?_
  refine At.lI [vI (xs (4 * i + 1))] [] X.1 N kX11_leak ln_L_242 X.fit (dcV okK_18 rfl) ?_
  have hE := rd_fin (f := (fChk (kS K) (xs (4 * i + 1)))) (th := ng (hsB (gc (kS K)) (xs (4 * i + 1)))) h hU C
  have hz := th_ng (b := hsB (gc (kS K)) (xs (4 * i + 1))) (f := (fChk (kS K) (xs (4 * i + 1)))) rfl
  refine X.run okK_18 [] 60 ?_
  refine At.lI [] [] X.1 (n_thrown _) kX11_thrown ln_L_182 X.fit (dcV okK_18 rfl) ?_
  refine X.run okK_18 [(3217, [0, 1, 2, 3, 4, 5])] 60 ?_
  exact tail_i (At.wid (kk_s i) (nn_7 i) (nx _ _ _ _ hE)) hz (e2_of (fun q => H0 (thr_n (by decide) q)) (fun q => if_pos (b_of rfl (by decide) q)))
theorem lc_19 {γ : CX} {σ : Nat → Nat → Nat} {b L i : Nat} {xs : Nat → Int32} (X : LX γ b L xs) (hi : 4 * i + 4 ≤ L) {K : KS'} {m : MS} {o : Nat → Int64} {d : Nat → UInt64} (h : EQ (8 * i) K m) (nx : NX γ σ b i) : At γ σ (1000 + 12 * i) (100000 + 2000 * i) 1390 (lsL b i) [] (LH K m o d) := by
  have hL := X.2.2.2.2.2.2
  have hK := h.1.1
  have gS := h.1.2.1
  obtain ⟨T, sp, rs⟩ := h.2.1
  have hT := sp.wf hK.1
  have vT := sp.vs gS.1
  have mT := sp.mp gS.2.2.1
  obtain ⟨a', b', e9, -, -⟩ := id sp
  subst e9
  have H0 : thr (fChk (kS K) (xs (4 * i + 1))) 1 0 0 0 = 0 → (fChk (kS K) (xs (4 * i + 1))) = 0 := by
    rcases fs_fChk (kS K) (xs (4 * i + 1)) with h9 | h9 <;> (rw [h9]; decide)
  have N := n_loadOf rs hT (xs (4 * i + 1))
  refine X.run okK_19 [] 60 ?_
  refine X.sld 1 hi (dcIa okK_19 rfl) ?_
  refine X.run okK_19 [] 60 ?_
  refine At.lW [vR 0 0, vI (xs (4 * i + 1)), vR 65 0] X.1 (w_loadOf K hK (xs (4 * i + 1))  o) kL_loadOf ln_L_243 X.fit (dcS okK_19 rfl) fun U C hU => ?_
  refine X.run okK_19 [] 60 ?_
  refine X.sld 1 hi (dcIa okK_19 rfl) ?_
  refine X.run okK_19 [] 60 ?_
  refine At.lI [vI (xs (4 * i + 1))] [] X.1 N kX11_loadOf ln_L_245 X.fit (dcV okK_19 rfl) ?_
  have hE := rd_fin (f := (fChk (kS K) (xs (4 * i + 1)))) (th := ng (hsB (gc (kS K)) (xs (4 * i + 1)))) h hU C
  have hz := th_ng (b := hsB (gc (kS K)) (xs (4 * i + 1))) (f := (fChk (kS K) (xs (4 * i + 1)))) rfl
  refine X.run okK_19 [] 60 ?_
  refine At.lI [] [] X.1 (n_thrown _) kX11_thrown ln_L_182 X.fit (dcV okK_19 rfl) ?_
  refine X.run okK_19 [(3217, [0, 1, 2, 3, 4, 5])] 60 ?_
  exact tail_i (At.wid (kk_s i) (nn_7 i) (nx _ _ _ _ hE)) hz (e2_of (fun q => H0 (thr_n (by decide) q)) (fun q => if_pos (b_of rfl (by decide) q)))
theorem lc_20 {γ : CX} {σ : Nat → Nat → Nat} {b L i : Nat} {xs : Nat → Int32} (X : LX γ b L xs) (hi : 4 * i + 4 ≤ L) {K : KS'} {m : MS} {o : Nat → Int64} {d : Nat → UInt64} (h : EQ (8 * i) K m) (nx : NX γ σ b i) : At γ σ (1000 + 12 * i) (100000 + 2000 * i) 1446 (lsL b i) [] (LH K m o d) := by
  have hL := X.2.2.2.2.2.2
  have hK := h.1.1
  have gS := h.1.2.1
  obtain ⟨T, sp, rs⟩ := h.2.1
  have hT := sp.wf hK.1
  have vT := sp.vs gS.1
  have mT := sp.mp gS.2.2.1
  obtain ⟨a', b', e9, -, -⟩ := id sp
  subst e9
  have H0 : thr (fChk (kS K) (xs (4 * i + 1))) 1 0 0 0 = 0 → (fChk (kS K) (xs (4 * i + 1))) = 0 := by
    rcases fs_fChk (kS K) (xs (4 * i + 1)) with h9 | h9 <;> (rw [h9]; decide)
  have N := n_wouldPump rs hT (xs (4 * i + 1))
  refine X.run okK_20 [] 60 ?_
  refine X.sld 1 hi (dcIa okK_20 rfl) ?_
  refine X.run okK_20 [] 60 ?_
  refine At.lW [vR 0 0, vI (xs (4 * i + 1)), vR 65 0] X.1 (w_wouldPump K hK (xs (4 * i + 1))  o) kL_wouldPump ln_L_246 X.fit (dcS okK_20 rfl) fun U C hU => ?_
  refine X.run okK_20 [] 60 ?_
  refine X.sld 1 hi (dcIa okK_20 rfl) ?_
  refine X.run okK_20 [] 60 ?_
  refine At.lI [vI (xs (4 * i + 1))] [] X.1 N kX11_wouldPump ln_L_248 X.fit (dcV okK_20 rfl) ?_
  have hE := rd_fin (f := (fChk (kS K) (xs (4 * i + 1)))) (th := ng (hsB (gc (kS K)) (xs (4 * i + 1)))) h hU C
  have hz := th_ng (b := hsB (gc (kS K)) (xs (4 * i + 1))) (f := (fChk (kS K) (xs (4 * i + 1)))) rfl
  refine X.run okK_20 [] 60 ?_
  refine At.lI [] [] X.1 (n_thrown _) kX11_thrown ln_L_182 X.fit (dcV okK_20 rfl) ?_
  refine X.run okK_20 [(3217, [0, 1, 2, 3, 4, 5])] 60 ?_
  exact tail_b (At.wid (kk_s i) (nn_7 i) (nx _ _ _ _ hE)) hz (fun q => H0 (thr_n (by decide) q)) (fun q => if_pos (b_of (b := hsB (gc (kS K)) (xs (4 * i + 1))) rfl (by decide) q))
theorem lc_21 {γ : CX} {σ : Nat → Nat → Nat} {b L i : Nat} {xs : Nat → Int32} (X : LX γ b L xs) (hi : 4 * i + 4 ≤ L) {K : KS'} {m : MS} {o : Nat → Int64} {d : Nat → UInt64} (h : EQ (8 * i) K m) (nx : NX γ σ b i) : At γ σ (1000 + 12 * i) (100000 + 2000 * i) 1509 (lsL b i) [] (LH K m o d) := by
  have hL := X.2.2.2.2.2.2
  have hK := h.1.1
  have gS := h.1.2.1
  obtain ⟨T, sp, rs⟩ := h.2.1
  have hT := sp.wf hK.1
  have vT := sp.vs gS.1
  have mT := sp.mp gS.2.2.1
  obtain ⟨a', b', e9, -, -⟩ := id sp
  subst e9
  have H0 : thr (fFst (pAt (kS K) (xs (4 * i + 1))) (gc (kS K))) 0 0 0 1 = 0 → (fFst (pAt (kS K) (xs (4 * i + 1))) (gc (kS K))) = 0 := by
    rcases fs_fFst (pAt (kS K) (xs (4 * i + 1))) (gc (kS K)) with h9 | h9 <;> (rw [h9]; decide)
  have N := n_pumpAt rs hT (xs (4 * i + 1))
  refine X.run okK_21 [] 60 ?_
  refine X.sld 1 hi (dcIa okK_21 rfl) ?_
  refine X.run okK_21 [] 60 ?_
  refine At.lW [vR 0 0, vI (xs (4 * i + 1)), vR 65 0] X.1 (w_pumpAt K hK (xs (4 * i + 1))  o) kL_pumpAt ln_L_249 X.fit (dcS okK_21 rfl) fun U C hU => ?_
  refine X.run okK_21 [] 60 ?_
  refine X.sld 1 hi (dcIa okK_21 rfl) ?_
  refine X.run okK_21 [] 60 ?_
  refine At.lI [vI (xs (4 * i + 1))] [] X.1 N kX11_pumpAt ln_L_251 X.fit (dcV okK_21 rfl) ?_
  have hE := rd_fin (f := (fFst (pAt (kS K) (xs (4 * i + 1))) (gc (kS K)))) (th := (if (fFst (pAt (kS K) (xs (4 * i + 1))) (gc (kS K))) = 0 then 0 else 1)) h hU C
  have hz := th_01 (f := (fFst (pAt (kS K) (xs (4 * i + 1))) (gc (kS K)))) (fs_fFst (pAt (kS K) (xs (4 * i + 1))) (gc (kS K)))
  refine X.run okK_21 [] 60 ?_
  refine At.lI [] [] X.1 (n_thrown _) kX11_thrown ln_L_182 X.fit (dcV okK_21 rfl) ?_
  refine X.run okK_21 [(3217, [0, 1, 2, 3, 4, 5])] 60 ?_
  exact tail_i (At.wid (kk_s i) (nn_7 i) (nx _ _ _ _ hE)) hz (e2_of (fun q => H0 (thr_n (by decide) q)) (fun q => if_pos q))
theorem lc_22 {γ : CX} {σ : Nat → Nat → Nat} {b L i : Nat} {xs : Nat → Int32} (X : LX γ b L xs) (hi : 4 * i + 4 ≤ L) {K : KS'} {m : MS} {o : Nat → Int64} {d : Nat → UInt64} (h : EQ (8 * i) K m) (nx : NX γ σ b i) : At γ σ (1000 + 12 * i) (100000 + 2000 * i) 1565 (lsL b i) [] (LH K m o d) := by
  have hL := X.2.2.2.2.2.2
  have hK := h.1.1
  have gS := h.1.2.1
  obtain ⟨T, sp, rs⟩ := h.2.1
  have hT := sp.wf hK.1
  have vT := sp.vs gS.1
  have mT := sp.mp gS.2.2.1
  obtain ⟨a', b', e9, -, -⟩ := id sp
  subst e9
  have H0 : thr (fFul (kS K) (xs (4 * i + 1))) 1 0 0 2 = 0 → (fFul (kS K) (xs (4 * i + 1))) = 0 := by
    rcases fs_fFul (kS K) (xs (4 * i + 1)) with h9 | h9 | h9 <;> (rw [h9]; decide)
  have N := n_minutesUntilFull rs hT (full_of vT.1) (xs (4 * i + 1))
  refine X.run okK_22 [] 60 ?_
  refine X.sld 1 hi (dcIa okK_22 rfl) ?_
  refine X.run okK_22 [] 60 ?_
  refine At.lW [vR 0 0, vI (xs (4 * i + 1)), vR 65 0] X.1 (w_minutesUntilFull K hK (xs (4 * i + 1))  o) kL_minutesUntilFull ln_L_252 X.fit (dcS okK_22 rfl) fun U C hU => ?_
  refine X.run okK_22 [] 60 ?_
  refine X.sld 1 hi (dcIa okK_22 rfl) ?_
  refine X.run okK_22 [] 60 ?_
  refine At.lI [vI (xs (4 * i + 1))] [] X.1 N kX11_minutesUntilFull ln_L_254 X.fit (dcV okK_22 rfl) ?_
  have hE := rd_fin (f := (fFul (kS K) (xs (4 * i + 1)))) (th := nI (thr (fFul (kS K) (xs (4 * i + 1))) 1 0 0 2)) h hU C
  have hz := (rfl : nI (thr (fFul (kS K) (xs (4 * i + 1))) 1 0 0 2) = nI (thr (fFul (kS K) (xs (4 * i + 1))) 1 0 0 2))
  refine X.run okK_22 [] 60 ?_
  refine At.lI [] [] X.1 (n_thrown _) kX11_thrown ln_L_182 X.fit (dcV okK_22 rfl) ?_
  refine X.run okK_22 [(3217, [0, 1, 2, 3, 4, 5])] 60 ?_
  exact tail_i (At.wid (kk_s i) (nn_7 i) (nx _ _ _ _ hE)) hz (e2_of (fun q => H0 (thr_n (by decide) q)) (fun q => if_pos q))
theorem lc_23 {γ : CX} {σ : Nat → Nat → Nat} {b L i : Nat} {xs : Nat → Int32} (X : LX γ b L xs) (hi : 4 * i + 4 ≤ L) {K : KS'} {m : MS} {o : Nat → Int64} {d : Nat → UInt64} (h : EQ (8 * i) K m) (nx : NX γ σ b i) : At γ σ (1000 + 12 * i) (100000 + 2000 * i) 1621 (lsL b i) [] (LH K m o d) := by
  have hL := X.2.2.2.2.2.2
  have hK := h.1.1
  have gS := h.1.2.1
  obtain ⟨T, sp, rs⟩ := h.2.1
  have hT := sp.wf hK.1
  have vT := sp.vs gS.1
  obtain ⟨a', b', e9, -, -⟩ := id sp
  subst e9
  have N := n_pieceCount rs
  refine X.run okK_23 [] 60 ?_
  refine At.lX X.1 (m_pieceCount K hK ) kX10_pieceCount ln_L_255 X.fit (dcV okK_23 rfl) fun U C hU => ?_
  refine X.run okK_23 [] 60 ?_
  refine At.lI [] [vI (nI (gp (kS K)))] X.1 N kX11_pieceCount ln_L_258 X.fit (dcV okK_23 rfl) ?_
  have hE : EQ (8 * (i + 1)) (scr (K) U C) (wT m 0) := (h.le (by omega)).scr hU C
  refine X.run okK_23 [(3217, [0, 1, 2, 3, 4, 5])] 60 ?_
  exact ⟨fun _ => At.wid (kk_s i) (nn_7 i) (nx _ _ _ _ hE), fun w => absurd (rfl) w⟩
