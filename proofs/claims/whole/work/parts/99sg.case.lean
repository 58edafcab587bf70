/-! ===== the law's cases (by program), 6 ===== -/
theorem lc_48 {γ : CX} {σ : Nat → Nat → Nat} {b L i : Nat} {xs : Nat → Int32} (X : LX γ b L xs) (hi : 4 * i + 4 ≤ L) {K : KS'} {m : MS} {o : Nat → Int64} {d : Nat → UInt64} (h : EQ (8 * i) K m) (nx : NX γ σ b i) : At γ σ (1000 + 12 * i) (100000 + 2000 * i) 2574 (lsL b i) [] (LH K m o d) := by
  have hL := X.2.2.2.2.2.2
  have hK := h.1.1
  have gS := h.1.2.1
  obtain ⟨T, sp, rs⟩ := h.2.1
  have hT := sp.wf hK.1
  have vT := sp.vs gS.1
  obtain ⟨a', b', e9, -, -⟩ := id sp
  subst e9
  have N := n_pumpedTotal rs
  refine X.run okK_48 [] 60 ?_
  refine At.lX X.1 (m_pumpedTotal K hK ) kX10_pumpedTotal ln_L_341 X.fit (dcV okK_48 rfl) fun U C hU => ?_
  refine X.run okK_48 [] 60 ?_
  refine At.lA [] [vL (gpu (kS K))] X.1 N kX11_pumpedTotal ln_L_345 X.fit (dcV okK_48 rfl) ?_
  have hE : EQ (8 * (i + 1)) (scr (K) U C) (wT m 0) := (h.le (by omega)).scr hU C
  refine X.run okK_48 [(3217, [0, 1, 2, 3, 4, 5])] 60 ?_
  exact ⟨fun _ => At.wid (kk_s i) (nn_7 i) (nx _ _ _ _ hE), fun w => absurd (lg_self _) w⟩
theorem lc_51 {γ : CX} {σ : Nat → Nat → Nat} {b L i : Nat} {xs : Nat → Int32} (X : LX γ b L xs) (hi : 4 * i + 4 ≤ L) {K : KS'} {m : MS} {o : Nat → Int64} {d : Nat → UInt64} (h : EQ (8 * i) K m) (nx : NX γ σ b i) : At γ σ (1000 + 12 * i) (100000 + 2000 * i) 2719 (lsL b i) [] (LH K m o d) := by
  have hL := X.2.2.2.2.2.2
  have hK := h.1.1
  have gS := h.1.2.1
  obtain ⟨T, sp, rs⟩ := h.2.1
  have hT := sp.wf hK.1
  have vT := sp.vs gS.1
  obtain ⟨a', b', e9, -, -⟩ := id sp
  subst e9
  have N := n_isConsistent m
  refine X.run okK_51 [] 60 ?_
  refine At.lX X.1 (m_isConsistent K hK ) kX10_isConsistent ln_L_353 X.fit (dcV okK_51 rfl) fun U C hU => ?_
  refine X.run okK_51 [] 60 ?_
  refine At.lI [] [vI (b2 (csB (kS K)))] X.1 N kX11_isConsistent ln_L_356 X.fit (dcV okK_51 rfl) ?_
  have hE : EQ (8 * (i + 1)) (scr (K) U C) (wT m 0) := (h.le (by omega)).scr hU C
  refine X.run okK_51 [(3217, [0, 1, 2, 3, 4, 5])] 60 ?_
  exact ⟨fun _ => At.wid (kk_s i) (nn_7 i) (nx _ _ _ _ hE), fun w => absurd ((show b2 (csB (kS K)) = 1 from by rw [cs_true hK.1 gS.1.1]; rfl)) w⟩
theorem lc_52 {γ : CX} {σ : Nat → Nat → Nat} {b L i : Nat} {xs : Nat → Int32} (X : LX γ b L xs) (hi : 4 * i + 4 ≤ L) {K : KS'} {m : MS} {o : Nat → Int64} {d : Nat → UInt64} (h : EQ (8 * i) K m) (nx : NX γ σ b i) : At γ σ (1000 + 12 * i) (100000 + 2000 * i) 2732 (lsL b i) [] (LH K m o d) := by
  have hL := X.2.2.2.2.2.2
  have hK := h.1.1
  have gS := h.1.2.1
  obtain ⟨T, sp, rs⟩ := h.2.1
  have hT := sp.wf hK.1
  have vT := sp.vs gS.1
  have mT := sp.mp gS.2.2.1
  obtain ⟨a', b', e9, -, -⟩ := id sp
  subst e9
  have nb := gS.nb (by omega)
  have H0 : thr (fChk (kS K) (xs (4 * i + 1))) 1 0 0 0 = 0 → (fChk (kS K) (xs (4 * i + 1))) = 0 := by
    rcases fs_fChk (kS K) (xs (4 * i + 1)) with h9 | h9 <;> (rw [h9]; decide)
  have N := n_formatCompartment rs hT (sp.nb nb) (xs (4 * i + 1)) (kL K)
  refine X.run okK_52 [] 60 ?_
  refine X.sld 1 hi (dcIa okK_52 rfl) ?_
  refine X.run okK_52 [] 60 ?_
  refine At.lW [vR 0 0, vI (xs (4 * i + 1)), vR 65 0] X.1 (w_formatCompartment K hK (xs (4 * i + 1)) nb h.2.2.2.2.2.1.2.2 o) kL_formatCompartment ln_L_357 X.fit (dcS okK_52 rfl) fun U C hU => ?_
  refine X.run okK_52 [] 60 ?_
  refine X.sld 1 hi (dcIa okK_52 rfl) ?_
  refine X.run okK_52 [] 60 ?_
  refine At.lE [vI (xs (4 * i + 1))] [] X.1 N kX11_formatCompartment ln_L_359 X.fit (dcV okK_52 rfl) fun m' P => ?_
  obtain ⟨hE, hz⟩ := tx_fin (f := (fChk (kS K) (xs (4 * i + 1)))) (b := hsB (gc (kS K)) (xs (4 * i + 1))) h rfl P (LC_fc h.2.2.2.2.2.1.2 _ _ _) hU C
  refine X.run okK_52 [] 60 ?_
  refine At.lI [] [] X.1 (n_thrown _) kX11_thrown ln_L_182 X.fit (dcV okK_52 rfl) ?_
  refine X.run okK_52 [(3217, [0, 1, 2, 3, 4, 5])] 60 ?_
  exact tail_i (At.wid (kk_s i) (nn_20 i) (nx _ _ _ _ hE)) hz (e2_of (fun q => H0 (thr_n (by decide) q)) (fun q => if_pos (b_of rfl (by decide) q)))
theorem lc_53 {γ : CX} {σ : Nat → Nat → Nat} {b L i : Nat} {xs : Nat → Int32} (X : LX γ b L xs) (hi : 4 * i + 4 ≤ L) {K : KS'} {m : MS} {o : Nat → Int64} {d : Nat → UInt64} (h : EQ (8 * i) K m) (nx : NX γ σ b i) : At γ σ (1000 + 12 * i) (100000 + 2000 * i) 2788 (lsL b i) [] (LH K m o d) := by
  have hL := X.2.2.2.2.2.2
  have hK := h.1.1
  have gS := h.1.2.1
  obtain ⟨T, sp, rs⟩ := h.2.1
  have hT := sp.wf hK.1
  have vT := sp.vs gS.1
  have mT := sp.mp gS.2.2.1
  obtain ⟨a', b', e9, -, -⟩ := id sp
  subst e9
  have nb := gS.nb (by omega)
  have H0 : thr (fChk (kS K) (xs (4 * i + 1))) 1 0 0 0 = 0 → (fChk (kS K) (xs (4 * i + 1))) = 0 := by
    rcases fs_fChk (kS K) (xs (4 * i + 1)) with h9 | h9 <;> (rw [h9]; decide)
  have N := n_formatCargo rs hT (sp.nb nb) (fun k hk => it2 (gS.1.1.2.1 k hk)) (xs (4 * i + 1)) (kL K)
  rw [fg_eq sp] at N
  refine X.run okK_53 [] 60 ?_
  refine X.sld 1 hi (dcIa okK_53 rfl) ?_
  refine X.run okK_53 [] 60 ?_
  refine At.lW [vR 0 0, vI (xs (4 * i + 1)), vR 65 0] X.1 (w_formatCargo K hK (xs (4 * i + 1)) nb h.2.2.2.2.2.1.2.2 o) kL_formatCargo ln_L_360 X.fit (dcS okK_53 rfl) fun U C hU => ?_
  refine X.run okK_53 [] 60 ?_
  refine X.sld 1 hi (dcIa okK_53 rfl) ?_
  refine X.run okK_53 [] 60 ?_
  refine At.lE [vI (xs (4 * i + 1))] [] X.1 N kX11_formatCargo ln_L_362 X.fit (dcV okK_53 rfl) fun m' P => ?_
  obtain ⟨hE, hz⟩ := tx_fin (f := (fChk (kS K) (xs (4 * i + 1)))) (b := hsB (gc (kS K)) (xs (4 * i + 1))) h rfl P (LC_fg h.2.2.2.2.2.1.2 _ _ _) hU C
  refine X.run okK_53 [] 60 ?_
  refine At.lI [] [] X.1 (n_thrown _) kX11_thrown ln_L_182 X.fit (dcV okK_53 rfl) ?_
  refine X.run okK_53 [(3217, [0, 1, 2, 3, 4, 5])] 60 ?_
  exact tail_i (At.wid (kk_s i) (nn_20 i) (nx _ _ _ _ hE)) hz (e2_of (fun q => H0 (thr_n (by decide) q)) (fun q => if_pos (b_of rfl (by decide) q)))
theorem lc_54 {γ : CX} {σ : Nat → Nat → Nat} {b L i : Nat} {xs : Nat → Int32} (X : LX γ b L xs) (hi : 4 * i + 4 ≤ L) {K : KS'} {m : MS} {o : Nat → Int64} {d : Nat → UInt64} (h : EQ (8 * i) K m) (nx : NX γ σ b i) : At γ σ (1000 + 12 * i) (100000 + 2000 * i) 2844 (lsL b i) [] (LH K m o d) := by
  have hL := X.2.2.2.2.2.2
  have hK := h.1.1
  have gS := h.1.2.1
  obtain ⟨T, sp, rs⟩ := h.2.1
  have hT := sp.wf hK.1
  have vT := sp.vs gS.1
  obtain ⟨a', b', e9, -, -⟩ := id sp
  subst e9
  have N := n_formatStorms rs hT (sp.nb (gS.nb (by omega))) (kL K)
  rw [show fmL (stSt (kS K) (gsc (kS K), a', b', glc (kS K), glg (kS K))) (kL K) (gsc (stSt (kS K) (gsc (kS K), a', b', glc (kS K), glg (kS K)))) = fsL (kS K) (kL K) (gsc (kS K)) from sp.text (kL K) _ (Nat.le_refl _)] at N
  refine X.run okK_54 [] 60 ?_
  refine At.lX X.1 (m_formatStorms K hK (gS.nb (by omega)) h.2.2.2.2.2.1.2.2) kX10_formatStorms ln_L_363 X.fit (dcV okK_54 rfl) fun U C hU => ?_
  refine X.run okK_54 [] 60 ?_
  refine At.lE [] [vI (nI (fsL (kS K) (kL K) (gsc (kS K))).1)] X.1 N kX11_formatStorms ln_L_366 X.fit (dcV okK_54 rfl) fun m' P => ?_
  have hE : EQ (8 * (i + 1)) (scr (stLn K (fsL (kS K) (kL K) (gsc (kS K)))) U C) m' := ((h.txt (LC_fs h.2.2.2.2.2.1.2 _ _) P).1.le (by omega)).scr hU C
  refine X.run okK_54 [(3217, [0, 1, 2, 3, 4, 5])] 60 ?_
  exact ⟨fun _ => At.wid (kk_s i) (nn_20 i) (nx _ _ _ _ hE), fun w => absurd (rfl) w⟩
theorem lc_55 {γ : CX} {σ : Nat → Nat → Nat} {b L i : Nat} {xs : Nat → Int32} (X : LX γ b L xs) (hi : 4 * i + 4 ≤ L) {K : KS'} {m : MS} {o : Nat → Int64} {d : Nat → UInt64} (h : EQ (8 * i) K m) (nx : NX γ σ b i) : At γ σ (1000 + 12 * i) (100000 + 2000 * i) 2857 (lsL b i) [] (LH K m o d) := by
  have hL := X.2.2.2.2.2.2
  have hK := h.1.1
  have gS := h.1.2.1
  have H0 : thr (fLch (kL K) (xs (4 * i + 1))) 1 0 0 0 = 0 → (fLch (kL K) (xs (4 * i + 1))) = 0 := by
    rcases fs_fLch (kL K) (xs (4 * i + 1)) with h9 | h9 <;> (rw [h9]; decide)
  have N := n_lineChar h.2.2.2.2.2.1.1 h.2.2.2.2.2.1.2.1 (xs (4 * i + 1))
  refine X.run okK_55 [] 60 ?_
  refine X.sld 1 hi (dcIa okK_55 rfl) ?_
  refine X.run okK_55 [] 60 ?_
  refine At.lW [vR 0 0, vI (xs (4 * i + 1)), vR 65 0] X.1 (w_lineChar K hK (xs (4 * i + 1)) (Nat.le_trans h.2.2.2.2.2.1.1.2.1 (by decide)) o) kL_lineChar ln_L_367 X.fit (dcS okK_55 rfl) fun U C hU => ?_
  refine X.run okK_55 [] 60 ?_
  refine X.sld 1 hi (dcIa okK_55 rfl) ?_
  refine X.run okK_55 [] 60 ?_
  refine At.lI [vI (xs (4 * i + 1))] [] X.1 N kX11_lineChar ln_L_369 X.fit (dcV okK_55 rfl) ?_
  have hE := rd_fin (f := (fLch (kL K) (xs (4 * i + 1)))) (th := ng (hsB (kL K).1 (xs (4 * i + 1)))) h hU C
  have hz := th_ng (b := hsB (kL K).1 (xs (4 * i + 1))) (f := (fLch (kL K) (xs (4 * i + 1)))) rfl
  refine X.run okK_55 [] 60 ?_
  refine At.lI [] [] X.1 (n_thrown _) kX11_thrown ln_L_182 X.fit (dcV okK_55 rfl) ?_
  refine X.run okK_55 [(3217, [0, 1, 2, 3, 4, 5])] 60 ?_
  exact tail_i (At.wid (kk_s i) (nn_7 i) (nx _ _ _ _ hE)) hz (e2_of (fun q => H0 (thr_n (by decide) q)) (fun q => if_pos (b_of rfl (by decide) q)))
theorem lc_56 {γ : CX} {σ : Nat → Nat → Nat} {b L i : Nat} {xs : Nat → Int32} (X : LX γ b L xs) (hi : 4 * i + 4 ≤ L) {K : KS'} {m : MS} {o : Nat → Int64} {d : Nat → UInt64} (h : EQ (8 * i) K m) (nx : NX γ σ b i) : At γ σ (1000 + 12 * i) (100000 + 2000 * i) 2913 (lsL b i) [] (LH K m o d) := by
  have hL := X.2.2.2.2.2.2
  have hK := h.1.1
  have gS := h.1.2.1
  have H0 : thr (fApp (kI K) ((xs (4 * i + 1)).toUInt32 % 65536).toInt32) 0 1 2 0 = 0 → (fApp (kI K) ((xs (4 * i + 1)).toUInt32 % 65536).toInt32) = 0 := by
    rcases fs_fApp (kI K) ((xs (4 * i + 1)).toUInt32 % 65536).toInt32 with h9 | h9 | h9 <;> (rw [h9]; decide)
  have N := n_append h.2.2.2.2.2.2.1.1 ((xs (4 * i + 1)).toUInt32 % 65536).toInt32
  refine X.run okK_56 [] 60 ?_
  refine X.sld 1 hi (dcIa okK_56 rfl) ?_
  refine X.run okK_56 [] 60 ?_
  refine At.lW [vR 0 0, vI ((xs (4 * i + 1)).toUInt32 % 65536).toInt32, vR 65 0] X.1 (w_append K hK ((xs (4 * i + 1)).toUInt32 % 65536).toInt32 (Nat.le_trans h.2.2.2.2.2.2.1.1.2.1 (by decide)) h.2.2.2.2.2.2.1.2 o) kL_append ln_L_370 X.fit (dcS okK_56 rfl) fun U C hU => ?_
  refine X.run okK_56 [] 60 ?_
  refine X.sld 1 hi (dcIa okK_56 rfl) ?_
  refine X.run okK_56 [] 60 ?_
  refine At.lE [vI ((xs (4 * i + 1)).toUInt32 % 65536).toInt32] [] X.1 N kX11_append ln_L_373 X.fit (dcV okK_56 rfl) fun m' P => ?_
  obtain ⟨hE, hz⟩ := ap_fin h P hU C
  refine X.run okK_56 [] 60 ?_
  refine At.lI [] [] X.1 (n_thrown _) kX11_thrown ln_L_182 X.fit (dcV okK_56 rfl) ?_
  refine X.run okK_56 [(3217, [0, 1, 2, 3, 4, 5])] 60 ?_
  exact tail_i (At.wid (kk_s i) (nn_20 i) (nx _ _ _ _ hE)) hz (e2_of (fun q => H0 (thr_n (by decide) q)) (fun q => if_pos q))
theorem lc_58 {γ : CX} {σ : Nat → Nat → Nat} {b L i : Nat} {xs : Nat → Int32} (X : LX γ b L xs) (hi : 4 * i + 4 ≤ L) {K : KS'} {m : MS} {o : Nat → Int64} {d : Nat → UInt64} (h : EQ (8 * i) K m) (nx : NX γ σ b i) : At γ σ (1000 + 12 * i) (100000 + 2000 * i) 3015 (lsL b i) [] (LH K m o d) := by
  have hL := X.2.2.2.2.2.2
  have hK := h.1.1
  have gS := h.1.2.1
  have H0 : thr (fFlag 4 (kF K).2.1) 0 0 0 1 = 0 → (fFlag 4 (kF K).2.1) = 0 := by
    rcases fs_fFlag 4 (kF K).2.1 with h9 | h9 <;> (rw [h9]; decide)
  have N := n_errorPosition m
  refine X.run okK_58 [] 60 ?_
  refine At.lW [vR 0 0, vR 65 0] X.1 (w_errorPosition K hK   o) kL_errorPosition ln_L_377 X.fit (dcS okK_58 rfl) fun U C hU => ?_
  refine X.run okK_58 [] 60 ?_
  refine At.lI [] [] X.1 N kX11_errorPosition ln_L_379 X.fit (dcV okK_58 rfl) ?_
  have hE := rd_fin (f := (fFlag 4 (kF K).2.1)) (th := (if zEa m = -1 then 1 else 0)) h hU C
  have hz := fl_th h.2.2.2.2.1.1
  refine X.run okK_58 [] 60 ?_
  refine At.lI [] [] X.1 (n_thrown _) kX11_thrown ln_L_182 X.fit (dcV okK_58 rfl) ?_
  refine X.run okK_58 [(3217, [0, 1, 2, 3, 4, 5])] 60 ?_
  exact tail_i (At.wid (kk_s i) (nn_7 i) (nx _ _ _ _ hE)) hz (e2_of (fun q => H0 (thr_n (by decide) q)) (fun q => fl_v h.2.2.2.2.1.1 q))
