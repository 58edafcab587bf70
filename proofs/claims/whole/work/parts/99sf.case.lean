/-! ===== the law's cases (by program), 5 ===== -/
theorem lc_40 {γ : CX} {σ : Nat → Nat → Nat} {b L i : Nat} {xs : Nat → Int32} (X : LX γ b L xs) (hi : 4 * i + 4 ≤ L) {K : KS'} {m : MS} {o : Nat → Int64} {d : Nat → UInt64} (h : EQ (8 * i) K m) (nx : NX γ σ b i) : At γ σ (1000 + 12 * i) (100000 + 2000 * i) 2205 (lsL b i) [] (LH K m o d) := by
  have hL := X.2.2.2.2.2.2
  have hK := h.1.1
  have gS := h.1.2.1
  obtain ⟨T, sp, rs⟩ := h.2.1
  have hT := sp.wf hK.1
  have vT := sp.vs gS.1
  have mT := sp.mp gS.2.2.1
  obtain ⟨a', b', e9, -, -⟩ := id sp
  subst e9
  have H0 : thr (fBS (kS K) (kC K)) 0 0 0 1 = 0 → (fBS (kS K) (kC K)) = 0 := by
    rcases fs_fBS (kS K) (kC K) with h9 | h9 <;> (rw [h9]; decide)
  have N := n_bestShiftCompartment rs hT (kC K)
  rw [fBS_eq sp, bH_eq sp] at N
  refine X.run okK_40 [] 60 ?_
  refine At.lW [vR 0 0, vR 65 0] X.1 (w_bestShiftCompartment K hK   o) kL_bestShiftCompartment ln_L_316 X.fit (dcS okK_40 rfl) fun U C hU => ?_
  refine X.run okK_40 [] 60 ?_
  refine At.lI [] [] X.1 N kX11_bestShiftCompartment ln_L_318 X.fit (dcV okK_40 rfl) ?_
  have hE := rd_fin (f := (fBS (kS K) (kC K))) (th := (if (fBS (kS K) (kC K)) = 0 then 0 else 1)) h hU C
  have hz := th_01 (f := (fBS (kS K) (kC K))) (fs_fBS (kS K) (kC K))
  refine X.run okK_40 [] 60 ?_
  refine At.lI [] [] X.1 (n_thrown _) kX11_thrown ln_L_182 X.fit (dcV okK_40 rfl) ?_
  refine X.run okK_40 [(3217, [0, 1, 2, 3, 4, 5])] 60 ?_
  exact tail_i (At.wid (kk_s i) (nn_7 i) (nx _ _ _ _ hE)) hz (e2_of (fun q => H0 (thr_n (by decide) q)) (fun q => if_pos q))
theorem lc_41 {γ : CX} {σ : Nat → Nat → Nat} {b L i : Nat} {xs : Nat → Int32} (X : LX γ b L xs) (hi : 4 * i + 4 ≤ L) {K : KS'} {m : MS} {o : Nat → Int64} {d : Nat → UInt64} (h : EQ (8 * i) K m) (nx : NX γ σ b i) : At γ σ (1000 + 12 * i) (100000 + 2000 * i) 2249 (lsL b i) [] (LH K m o d) := by
  have hL := X.2.2.2.2.2.2
  have hK := h.1.1
  have gS := h.1.2.1
  obtain ⟨T, sp, rs, hT, vT, mT, gC⟩ := h.trial (by omega)
  have H0 : thr (fMA (xs (4 * i + 1))) 0 1 0 0 = 0 → (fMA (xs (4 * i + 1))) = 0 := by
    rcases fs_fMA (xs (4 * i + 1)) with h9 | h9 <;> (rw [h9]; decide)
  have N := n_momentAfter rs hT (xs (4 * i + 1)) (fun w => pk_of mT (by omega) vT hT (by decide) w)
  refine X.run okK_41 [] 60 ?_
  refine X.sld 1 hi (dcIa okK_41 rfl) ?_
  refine X.run okK_41 [] 60 ?_
  refine At.lW [vR 0 0, vI (xs (4 * i + 1)), vR 65 0] X.1 (w_momentAfter K hK (xs (4 * i + 1))  o) kL_momentAfter ln_L_319 X.fit (dcS okK_41 rfl) fun U C hU => ?_
  refine X.run okK_41 [] 60 ?_
  refine X.sld 1 hi (dcIa okK_41 rfl) ?_
  refine X.run okK_41 [] 60 ?_
  refine At.lE [vI (xs (4 * i + 1))] [] X.1 N kX11_momentAfter ln_L_321 X.fit (dcV okK_41 rfl) fun m' P => ?_
  obtain ⟨hE, hz⟩ := rd2_fin (f := (fMA (xs (4 * i + 1)))) h P hU C
  refine X.run okK_41 [] 60 ?_
  refine At.lI [] [] X.1 (n_thrown _) kX11_thrown ln_L_182 X.fit (dcV okK_41 rfl) ?_
  refine X.run okK_41 [(3217, [0, 1, 2, 3, 4, 5])] 60 ?_
  exact tail_i (At.wid (kk_s i) (nn_7 i) (nx _ _ _ _ hE)) hz (e2_of (fun q => H0 (thr_n (by decide) q)) (fun q => (if_pos q).trans (SP_tks _ sp).tm))
theorem lc_42 {γ : CX} {σ : Nat → Nat → Nat} {b L i : Nat} {xs : Nat → Int32} (X : LX γ b L xs) (hi : 4 * i + 4 ≤ L) {K : KS'} {m : MS} {o : Nat → Int64} {d : Nat → UInt64} (h : EQ (8 * i) K m) (nx : NX γ σ b i) : At γ σ (1000 + 12 * i) (100000 + 2000 * i) 2305 (lsL b i) [] (LH K m o d) := by
  have hL := X.2.2.2.2.2.2
  have hK := h.1.1
  have gS := h.1.2.1
  obtain ⟨T, sp, rs, hT, vT, mT, gC⟩ := h.trial (by omega)
  have H0 : thr (fMS (cpT K)) 0 0 0 1 = 0 → (fMS (cpT K)) = 0 := by
    rcases fs_fMS (cpT K) with h9 | h9 <;> (rw [h9]; decide)
  have N := n_minutesUntilSunk rs hT (MP.ticks 120 mT (by omega) vT hT).2
  rw [fms_eq sp] at N
  refine X.run okK_42 [] 60 ?_
  refine At.lW [vR 0 0, vR 65 0] X.1 (w_minutesUntilSunk K hK   o) kL_minutesUntilSunk ln_L_322 X.fit (dcS okK_42 rfl) fun U C hU => ?_
  refine X.run okK_42 [] 60 ?_
  refine At.lE [] [] X.1 N kX11_minutesUntilSunk ln_L_324 X.fit (dcV okK_42 rfl) fun m' P => ?_
  obtain ⟨hE, hz⟩ := rd2_fin (f := (fMS (cpT K))) h P hU C
  have hz := hz.trans (th_01 (f := (fMS (cpT K))) (fs_fMS (cpT K)))
  refine X.run okK_42 [] 60 ?_
  refine At.lI [] [] X.1 (n_thrown _) kX11_thrown ln_L_182 X.fit (dcV okK_42 rfl) ?_
  refine X.run okK_42 [(3217, [0, 1, 2, 3, 4, 5])] 60 ?_
  exact tail_i (At.wid (kk_s i) (nn_7 i) (nx _ _ _ _ hE)) hz (e2_of (fun q => H0 (thr_n (by decide) q)) (fun q => (if_pos q).trans (congrArg nI (SP_tkc 120 sp))))
theorem lc_43 {γ : CX} {σ : Nat → Nat → Nat} {b L i : Nat} {xs : Nat → Int32} (X : LX γ b L xs) (hi : 4 * i + 4 ≤ L) {K : KS'} {m : MS} {o : Nat → Int64} {d : Nat → UInt64} (h : EQ (8 * i) K m) (nx : NX γ σ b i) : At γ σ (1000 + 12 * i) (100000 + 2000 * i) 2349 (lsL b i) [] (LH K m o d) := by
  have hL := X.2.2.2.2.2.2
  have hK := h.1.1
  have gS := h.1.2.1
  obtain ⟨T, sp, rs⟩ := h.2.1
  have hT := sp.wf hK.1
  have vT := sp.vs gS.1
  have mT := sp.mp gS.2.2.1
  obtain ⟨a', b', e9, -, -⟩ := id sp
  subst e9
  have H0 : thr (fFst (lAt (kS K) (xs (4 * i + 1))) (gc (kS K))) 0 0 0 1 = 0 → (fFst (lAt (kS K) (xs (4 * i + 1))) (gc (kS K))) = 0 := by
    rcases fs_fFst (lAt (kS K) (xs (4 * i + 1))) (gc (kS K)) with h9 | h9 <;> (rw [h9]; decide)
  have N := n_compartmentByLoad rs hT (xs (4 * i + 1))
  refine X.run okK_43 [] 60 ?_
  refine X.sld 1 hi (dcIa okK_43 rfl) ?_
  refine X.run okK_43 [] 60 ?_
  refine At.lW [vR 0 0, vI (xs (4 * i + 1)), vR 65 0] X.1 (w_compartmentByLoad K hK (xs (4 * i + 1))  o) kL_compartmentByLoad ln_L_325 X.fit (dcS okK_43 rfl) fun U C hU => ?_
  refine X.run okK_43 [] 60 ?_
  refine X.sld 1 hi (dcIa okK_43 rfl) ?_
  refine X.run okK_43 [] 60 ?_
  refine At.lI [vI (xs (4 * i + 1))] [] X.1 N kX11_compartmentByLoad ln_L_327 X.fit (dcV okK_43 rfl) ?_
  have hE := rd_fin (f := (fFst (lAt (kS K) (xs (4 * i + 1))) (gc (kS K)))) (th := (if (fFst (lAt (kS K) (xs (4 * i + 1))) (gc (kS K))) = 0 then 0 else 1)) h hU C
  have hz := th_01 (f := (fFst (lAt (kS K) (xs (4 * i + 1))) (gc (kS K)))) (fs_fFst (lAt (kS K) (xs (4 * i + 1))) (gc (kS K)))
  refine X.run okK_43 [] 60 ?_
  refine At.lI [] [] X.1 (n_thrown _) kX11_thrown ln_L_182 X.fit (dcV okK_43 rfl) ?_
  refine X.run okK_43 [(3217, [0, 1, 2, 3, 4, 5])] 60 ?_
  exact tail_i (At.wid (kk_s i) (nn_7 i) (nx _ _ _ _ hE)) hz (e2_of (fun q => H0 (thr_n (by decide) q)) (fun q => if_pos q))
theorem lc_44 {γ : CX} {σ : Nat → Nat → Nat} {b L i : Nat} {xs : Nat → Int32} (X : LX γ b L xs) (hi : 4 * i + 4 ≤ L) {K : KS'} {m : MS} {o : Nat → Int64} {d : Nat → UInt64} (h : EQ (8 * i) K m) (nx : NX γ σ b i) : At γ σ (1000 + 12 * i) (100000 + 2000 * i) 2405 (lsL b i) [] (LH K m o d) := by
  have hL := X.2.2.2.2.2.2
  have hK := h.1.1
  have gS := h.1.2.1
  obtain ⟨T, sp, rs⟩ := h.2.1
  have hT := sp.wf hK.1
  have vT := sp.vs gS.1
  obtain ⟨a', b', e9, -, -⟩ := id sp
  subst e9
  have N := n_stormCount rs
  refine X.run okK_44 [] 60 ?_
  refine At.lX X.1 (m_stormCount K hK ) kX10_stormCount ln_L_328 X.fit (dcV okK_44 rfl) fun U C hU => ?_
  refine X.run okK_44 [] 60 ?_
  refine At.lI [] [vI (nI (gsc (kS K)))] X.1 N kX11_stormCount ln_L_331 X.fit (dcV okK_44 rfl) ?_
  have hE : EQ (8 * (i + 1)) (scr (K) U C) (wT m 0) := (h.le (by omega)).scr hU C
  refine X.run okK_44 [(3217, [0, 1, 2, 3, 4, 5])] 60 ?_
  exact ⟨fun _ => At.wid (kk_s i) (nn_7 i) (nx _ _ _ _ hE), fun w => absurd (rfl) w⟩
theorem lc_45 {γ : CX} {σ : Nat → Nat → Nat} {b L i : Nat} {xs : Nat → Int32} (X : LX γ b L xs) (hi : 4 * i + 4 ≤ L) {K : KS'} {m : MS} {o : Nat → Int64} {d : Nat → UInt64} (h : EQ (8 * i) K m) (nx : NX γ σ b i) : At γ σ (1000 + 12 * i) (100000 + 2000 * i) 2418 (lsL b i) [] (LH K m o d) := by
  have hL := X.2.2.2.2.2.2
  have hK := h.1.1
  have gS := h.1.2.1
  obtain ⟨T, sp, rs⟩ := h.2.1
  have hT := sp.wf hK.1
  have vT := sp.vs gS.1
  have mT := sp.mp gS.2.2.1
  obtain ⟨a', b', e9, -, -⟩ := id sp
  subst e9
  have H0 : thr (fNxt (kS K)) 0 0 0 1 = 0 → (fNxt (kS K)) = 0 := by
    rcases fs_fNxt (kS K) with h9 | h9 <;> (rw [h9]; decide)
  have N := n_nextStorm rs hT
  refine X.run okK_45 [] 60 ?_
  refine At.lW [vR 0 0, vR 65 0] X.1 (w_nextStorm K hK   o) kL_nextStorm ln_L_332 X.fit (dcS okK_45 rfl) fun U C hU => ?_
  refine X.run okK_45 [] 60 ?_
  refine At.lI [] [] X.1 N kX11_nextStorm ln_L_334 X.fit (dcV okK_45 rfl) ?_
  have hE := rd_fin (f := (fNxt (kS K))) (th := (if (fNxt (kS K)) = 0 then 0 else 1)) h hU C
  have hz := th_01 (f := (fNxt (kS K))) (fs_fNxt (kS K))
  refine X.run okK_45 [] 60 ?_
  refine At.lI [] [] X.1 (n_thrown _) kX11_thrown ln_L_182 X.fit (dcV okK_45 rfl) ?_
  refine X.run okK_45 [(3217, [0, 1, 2, 3, 4, 5])] 60 ?_
  exact tail_i (At.wid (kk_s i) (nn_7 i) (nx _ _ _ _ hE)) hz (e2_of (fun q => H0 (thr_n (by decide) q)) (fun q => (if_pos q).trans (sp.nxt.2 q)))
theorem lc_46 {γ : CX} {σ : Nat → Nat → Nat} {b L i : Nat} {xs : Nat → Int32} (X : LX γ b L xs) (hi : 4 * i + 4 ≤ L) {K : KS'} {m : MS} {o : Nat → Int64} {d : Nat → UInt64} (h : EQ (8 * i) K m) (nx : NX γ σ b i) : At γ σ (1000 + 12 * i) (100000 + 2000 * i) 2462 (lsL b i) [] (LH K m o d) := by
  have hL := X.2.2.2.2.2.2
  have hK := h.1.1
  have gS := h.1.2.1
  obtain ⟨T, sp, rs⟩ := h.2.1
  have hT := sp.wf hK.1
  have vT := sp.vs gS.1
  have mT := sp.mp gS.2.2.1
  obtain ⟨a', b', e9, -, -⟩ := id sp
  subst e9
  have H0 : thr (fStm (kS K) (xs (4 * i + 1))) 0 0 0 1 = 0 → (fStm (kS K) (xs (4 * i + 1))) = 0 := by
    rcases fs_fStm (kS K) (xs (4 * i + 1)) with h9 | h9 <;> (rw [h9]; decide)
  have N := n_strengthAt rs hT (xs (4 * i + 1))
  rw [(sp.fstm (xs (4 * i + 1))).1] at N
  refine X.run okK_46 [] 60 ?_
  refine X.sld 1 hi (dcIa okK_46 rfl) ?_
  refine X.run okK_46 [] 60 ?_
  refine At.lW [vR 0 0, vI (xs (4 * i + 1)), vR 65 0] X.1 (w_strengthAt K hK (xs (4 * i + 1))  o) kL_strengthAt ln_L_335 X.fit (dcS okK_46 rfl) fun U C hU => ?_
  refine X.run okK_46 [] 60 ?_
  refine X.sld 1 hi (dcIa okK_46 rfl) ?_
  refine X.run okK_46 [] 60 ?_
  refine At.lI [vI (xs (4 * i + 1))] [] X.1 N kX11_strengthAt ln_L_337 X.fit (dcV okK_46 rfl) ?_
  have hE := rd_fin (f := (fStm (kS K) (xs (4 * i + 1)))) (th := (if (fStm (kS K) (xs (4 * i + 1))) = 0 then 0 else 1)) h hU C
  have hz := th_01 (f := (fStm (kS K) (xs (4 * i + 1)))) (fs_fStm (kS K) (xs (4 * i + 1)))
  refine X.run okK_46 [] 60 ?_
  refine At.lI [] [] X.1 (n_thrown _) kX11_thrown ln_L_182 X.fit (dcV okK_46 rfl) ?_
  refine X.run okK_46 [(3217, [0, 1, 2, 3, 4, 5])] 60 ?_
  exact tail_i (At.wid (kk_s i) (nn_7 i) (nx _ _ _ _ hE)) hz (e2_of (fun q => H0 (thr_n (by decide) q)) (fun q => (if_pos q).trans ((sp.fstm (xs (4 * i + 1))).2 q)))
theorem lc_47 {γ : CX} {σ : Nat → Nat → Nat} {b L i : Nat} {xs : Nat → Int32} (X : LX γ b L xs) (hi : 4 * i + 4 ≤ L) {K : KS'} {m : MS} {o : Nat → Int64} {d : Nat → UInt64} (h : EQ (8 * i) K m) (nx : NX γ σ b i) : At γ σ (1000 + 12 * i) (100000 + 2000 * i) 2518 (lsL b i) [] (LH K m o d) := by
  have hL := X.2.2.2.2.2.2
  have hK := h.1.1
  have gS := h.1.2.1
  obtain ⟨T, sp, rs⟩ := h.2.1
  have hT := sp.wf hK.1
  have vT := sp.vs gS.1
  have mT := sp.mp gS.2.2.1
  obtain ⟨a', b', e9, -, -⟩ := id sp
  subst e9
  have H0 : thr (fLogA (kS K) (xs (4 * i + 1))) 0 0 0 1 = 0 → (fLogA (kS K) (xs (4 * i + 1))) = 0 := by
    rcases fs_fLogA (kS K) (xs (4 * i + 1)) with h9 | h9 <;> (rw [h9]; decide)
  have N := n_loggedMinute rs hT (xs (4 * i + 1))
  refine X.run okK_47 [] 60 ?_
  refine X.sld 1 hi (dcIa okK_47 rfl) ?_
  refine X.run okK_47 [] 60 ?_
  refine At.lW [vR 0 0, vI (xs (4 * i + 1)), vR 65 0] X.1 (w_loggedMinute K hK (xs (4 * i + 1))  o) kL_loggedMinute ln_L_338 X.fit (dcS okK_47 rfl) fun U C hU => ?_
  refine X.run okK_47 [] 60 ?_
  refine X.sld 1 hi (dcIa okK_47 rfl) ?_
  refine X.run okK_47 [] 60 ?_
  refine At.lI [vI (xs (4 * i + 1))] [] X.1 N kX11_loggedMinute ln_L_340 X.fit (dcV okK_47 rfl) ?_
  have hE := rd_fin (f := (fLogA (kS K) (xs (4 * i + 1)))) (th := ng (hsB (glc (kS K)) (xs (4 * i + 1)))) h hU C
  have hz := th_ng4 (b := hsB (glc (kS K)) (xs (4 * i + 1))) (f := (fLogA (kS K) (xs (4 * i + 1)))) rfl
  refine X.run okK_47 [] 60 ?_
  refine At.lI [] [] X.1 (n_thrown _) kX11_thrown ln_L_182 X.fit (dcV okK_47 rfl) ?_
  refine X.run okK_47 [(3217, [0, 1, 2, 3, 4, 5])] 60 ?_
  exact tail_i (At.wid (kk_s i) (nn_7 i) (nx _ _ _ _ hE)) hz (e2_of (fun q => H0 (thr_n (by decide) q)) (fun q => if_pos (b_of rfl (by decide) q)))
