/-! ===== the law's cases (by program), 1 ===== -/
theorem lc_8 {γ : CX} {σ : Nat → Nat → Nat} {b L i : Nat} {xs : Nat → Int32} (X : LX γ b L xs) (hi : 4 * i + 4 ≤ L) {K : KS'} {m : MS} {o : Nat → Int64} {d : Nat → UInt64} (h : EQ (8 * i) K m) (nx : NX γ σ b i) : At γ σ (1000 + 12 * i) (100000 + 2000 * i) 848 (lsL b i) [] (LH K m o d) := by
  have hL := X.2.2.2.2.2.2
  have hK := h.1.1
  have gS := h.1.2.1
  obtain ⟨T, sp, rs⟩ := h.2.1
  have hT := sp.wf hK.1
  have vT := sp.vs gS.1
  have mT := sp.mp gS.2.2.1
  obtain ⟨a', b', e9, -, -⟩ := id sp
  subst e9
  have H0 : thr (fPow (xs (4 * i + 1))) 0 1 0 0 = 0 → (fPow (xs (4 * i + 1))) = 0 := by
    rcases fs_fPow (xs (4 * i + 1)) with h9 | h9 <;> (rw [h9]; decide)
  have N := n_setPower rs hT h.2.2.1.2.2.2.1 h.2.2.1.2.1 (xs (4 * i + 1))
  refine X.run okK_8 [] 60 ?_
  refine X.sld 1 hi (dcIa okK_8 rfl) ?_
  refine X.run okK_8 [] 60 ?_
  refine At.lW [vR 0 0, vI (xs (4 * i + 1)), vR 65 0] X.1 (w_setPower K hK (xs (4 * i + 1))  o) kL_setPower ln_L_208 X.fit (dcS okK_8 rfl) fun U C hU => ?_
  refine X.run okK_8 [] 60 ?_
  refine X.sld 1 hi (dcIa okK_8 rfl) ?_
  refine X.run okK_8 [] 60 ?_
  refine At.lE [vI (xs (4 * i + 1))] [] X.1 N kX11_setPower ln_L_210 X.fit (dcV okK_8 rfl) fun m' P => ?_
  obtain ⟨hE, hz⟩ := ch_fin (f := (fPow (xs (4 * i + 1)))) h (fun q => ⟨gS.eK (by omega) (xs (4 * i + 1)) 0 0 7 (by decide) q, (sp.pow (xs (4 * i + 1))).1⟩) (fun q => by rw [q]; rfl) H0 P hU C
  refine X.run okK_8 [] 60 ?_
  refine At.lI [] [] X.1 (n_thrown _) kX11_thrown ln_L_182 X.fit (dcV okK_8 rfl) ?_
  refine X.run okK_8 [(3217, [0, 1, 2, 3, 4, 5])] 60 ?_
  exact tail_i (At.wid (kk_s i) (nn_7 i) (nx _ _ _ _ hE)) hz (e2_of (fun q => H0 (thr_n (by decide) q)) (fun q => if_pos (by rw [q]; rfl)))
theorem lc_9 {γ : CX} {σ : Nat → Nat → Nat} {b L i : Nat} {xs : Nat → Int32} (X : LX γ b L xs) (hi : 4 * i + 4 ≤ L) {K : KS'} {m : MS} {o : Nat → Int64} {d : Nat → UInt64} (h : EQ (8 * i) K m) (nx : NX γ σ b i) : At γ σ (1000 + 12 * i) (100000 + 2000 * i) 904 (lsL b i) [] (LH K m o d) := by
  have hL := X.2.2.2.2.2.2
  have hK := h.1.1
  have gS := h.1.2.1
  obtain ⟨T, sp, rs⟩ := h.2.1
  have hT := sp.wf hK.1
  have vT := sp.vs gS.1
  have mT := sp.mp gS.2.2.1
  obtain ⟨a', b', e9, -, -⟩ := id sp
  subst e9
  have H0 : thr (fLim (xs (4 * i + 1))) 0 1 0 0 = 0 → (fLim (xs (4 * i + 1))) = 0 := by
    rcases fs_fLim (xs (4 * i + 1)) with h9 | h9 <;> (rw [h9]; decide)
  have N := n_setLimit rs hT h.2.2.1.2.2.2.1 h.2.2.1.2.1 (xs (4 * i + 1))
  refine X.run okK_9 [] 60 ?_
  refine X.sld 1 hi (dcIa okK_9 rfl) ?_
  refine X.run okK_9 [] 60 ?_
  refine At.lW [vR 0 0, vI (xs (4 * i + 1)), vR 65 0] X.1 (w_setLimit K hK (xs (4 * i + 1))  o) kL_setLimit ln_L_211 X.fit (dcS okK_9 rfl) fun U C hU => ?_
  refine X.run okK_9 [] 60 ?_
  refine X.sld 1 hi (dcIa okK_9 rfl) ?_
  refine X.run okK_9 [] 60 ?_
  refine At.lE [vI (xs (4 * i + 1))] [] X.1 N kX11_setLimit ln_L_213 X.fit (dcV okK_9 rfl) fun m' P => ?_
  obtain ⟨hE, hz⟩ := ch_fin (f := (fLim (xs (4 * i + 1)))) h (fun q => ⟨gS.lim q, (sp.pow (xs (4 * i + 1))).2⟩) (fun q => by rw [q]; rfl) H0 P hU C
  refine X.run okK_9 [] 60 ?_
  refine At.lI [] [] X.1 (n_thrown _) kX11_thrown ln_L_182 X.fit (dcV okK_9 rfl) ?_
  refine X.run okK_9 [(3217, [0, 1, 2, 3, 4, 5])] 60 ?_
  exact tail_i (At.wid (kk_s i) (nn_7 i) (nx _ _ _ _ hE)) hz (e2_of (fun q => H0 (thr_n (by decide) q)) (fun q => if_pos (by rw [q]; rfl)))
theorem lc_10 {γ : CX} {σ : Nat → Nat → Nat} {b L i : Nat} {xs : Nat → Int32} (X : LX γ b L xs) (hi : 4 * i + 4 ≤ L) {K : KS'} {m : MS} {o : Nat → Int64} {d : Nat → UInt64} (h : EQ (8 * i) K m) (nx : NX γ σ b i) : At γ σ (1000 + 12 * i) (100000 + 2000 * i) 960 (lsL b i) [] (LH K m o d) := by
  have hL := X.2.2.2.2.2.2
  have hK := h.1.1
  have gS := h.1.2.1
  obtain ⟨T, sp, rs⟩ := h.2.1
  have hT := sp.wf hK.1
  have vT := sp.vs gS.1
  have mT := sp.mp gS.2.2.1
  obtain ⟨a', b', e9, -, -⟩ := id sp
  subst e9
  obtain ⟨M, P9, hM1, hM, -, -⟩ := mT
  have hM2 : M < 1073741824 := by omega
  have H0 : thr (fSch (kS K) (xs (4 * i + 1)) (xs (4 * i + 2))) 0 1 2 0 = 0 → (fSch (kS K) (xs (4 * i + 1)) (xs (4 * i + 2))) = 0 := by
    rcases fs_fSch (kS K) (xs (4 * i + 1)) (xs (4 * i + 2)) with h9 | h9 | h9 <;> (rw [h9]; decide)
  have N := n_schedule rs hT h.2.2.1.2.2.2.1 h.2.2.1.2.1 (xs (4 * i + 1)) (xs (4 * i + 2)) hM hM2 (fun q => (sp.sch ((sp.fsch (xs (4 * i + 1)) (xs (4 * i + 2))).symm.trans q)).wf (gS.eK (by omega) (xs (4 * i + 1)) (xs (4 * i + 2)) 0 8 (by decide) ((sp.fsch (xs (4 * i + 1)) (xs (4 * i + 2))).symm.trans q)).2.1)
  rw [show fSch (stSt (kS K) (gsc (kS K), a', b', glc (kS K), glg (kS K))) (xs (4 * i + 1)) (xs (4 * i + 2)) = _ from sp.fsch (xs (4 * i + 1)) (xs (4 * i + 2))] at N
  refine X.run okK_10 [] 60 ?_
  refine X.sld 1 hi (dcIa okK_10 rfl) ?_
  refine X.run okK_10 [] 60 ?_
  refine X.sld 2 hi (dcIa okK_10 rfl) ?_
  refine X.run okK_10 [] 60 ?_
  refine At.lW [vR 0 0, vI (xs (4 * i + 1)), vI (xs (4 * i + 2)), vR 65 0] X.1 (w_schedule K hK (xs (4 * i + 1)) (xs (4 * i + 2))  o) kL_schedule ln_L_214 X.fit (dcS okK_10 rfl) fun U C hU => ?_
  refine X.run okK_10 [] 60 ?_
  refine X.sld 1 hi (dcIa okK_10 rfl) ?_
  refine X.run okK_10 [] 60 ?_
  refine X.sld 2 hi (dcIa okK_10 rfl) ?_
  refine X.run okK_10 [] 60 ?_
  refine At.lE [vI (xs (4 * i + 1)), vI (xs (4 * i + 2))] [] X.1 N kX11_schedule ln_L_216 X.fit (dcV okK_10 rfl) fun m' P => ?_
  obtain ⟨hE, hz⟩ := ch_fin (f := (fSch (kS K) (xs (4 * i + 1)) (xs (4 * i + 2)))) h (fun q => ⟨gS.eK (by omega) (xs (4 * i + 1)) (xs (4 * i + 2)) 0 8 (by decide) q, sp.sch q⟩) (fun q => by rw [q]; rfl) H0 P hU C
  refine X.run okK_10 [] 60 ?_
  refine At.lI [] [] X.1 (n_thrown _) kX11_thrown ln_L_182 X.fit (dcV okK_10 rfl) ?_
  refine X.run okK_10 [(3217, [0, 1, 2, 3, 4, 5])] 60 ?_
  exact tail_i (At.wid (kk_s i) (nn_7 i) (nx _ _ _ _ hE)) hz (e2_of (fun q => H0 (thr_n (by decide) q)) (fun q => if_pos (by rw [q]; rfl)))
theorem lc_11 {γ : CX} {σ : Nat → Nat → Nat} {b L i : Nat} {xs : Nat → Int32} (X : LX γ b L xs) (hi : 4 * i + 4 ≤ L) {K : KS'} {m : MS} {o : Nat → Int64} {d : Nat → UInt64} (h : EQ (8 * i) K m) (nx : NX γ σ b i) : At γ σ (1000 + 12 * i) (100000 + 2000 * i) 1028 (lsL b i) [] (LH K m o d) := by
  have hL := X.2.2.2.2.2.2
  have hK := h.1.1
  have gS := h.1.2.1
  obtain ⟨T, sp, rs⟩ := h.2.1
  have hT := sp.wf hK.1
  have vT := sp.vs gS.1
  have mT := sp.mp gS.2.2.1
  obtain ⟨a', b', e9, -, -⟩ := id sp
  subst e9
  have H0 : thr (fStm (kS K) (xs (4 * i + 1))) 0 0 0 1 = 0 → (fStm (kS K) (xs (4 * i + 1))) = 0 := by
    rcases fs_fStm (kS K) (xs (4 * i + 1)) with h9 | h9 <;> (rw [h9]; decide)
  have N := n_cancelStorm rs hT h.2.2.1.2.2.2.1 h.2.2.1.2.1 (xs (4 * i + 1)) (fun q => (sp.can ((sp.fstm (xs (4 * i + 1))).1.symm.trans q)).wf (gS.can (xs (4 * i + 1))).2.1)
  rw [show fStm (stSt (kS K) (gsc (kS K), a', b', glc (kS K), glg (kS K))) (xs (4 * i + 1)) = _ from (sp.fstm (xs (4 * i + 1))).1] at N
  refine X.run okK_11 [] 60 ?_
  refine X.sld 1 hi (dcIa okK_11 rfl) ?_
  refine X.run okK_11 [] 60 ?_
  refine At.lW [vR 0 0, vI (xs (4 * i + 1)), vR 65 0] X.1 (w_cancelStorm K hK (xs (4 * i + 1))  o) kL_cancelStorm ln_L_217 X.fit (dcS okK_11 rfl) fun U C hU => ?_
  refine X.run okK_11 [] 60 ?_
  refine X.sld 1 hi (dcIa okK_11 rfl) ?_
  refine X.run okK_11 [] 60 ?_
  refine At.lE [vI (xs (4 * i + 1))] [] X.1 N kX11_cancelStorm ln_L_219 X.fit (dcV okK_11 rfl) fun m' P => ?_
  obtain ⟨hE, hz⟩ := ch_fin (f := (fStm (kS K) (xs (4 * i + 1)))) h (fun q => ⟨gS.can (xs (4 * i + 1)), sp.can q⟩) (fun q => by rw [q]; rfl) H0 P hU C
  refine X.run okK_11 [] 60 ?_
  refine At.lI [] [] X.1 (n_thrown _) kX11_thrown ln_L_182 X.fit (dcV okK_11 rfl) ?_
  refine X.run okK_11 [(3217, [0, 1, 2, 3, 4, 5])] 60 ?_
  exact tail_i (At.wid (kk_s i) (nn_7 i) (nx _ _ _ _ hE)) hz (e2_of (fun q => H0 (thr_n (by decide) q)) (fun q => (if_pos (by rw [q]; rfl)).trans ((sp.fstm (xs (4 * i + 1))).2 q)))
theorem lc_12 {γ : CX} {σ : Nat → Nat → Nat} {b L i : Nat} {xs : Nat → Int32} (X : LX γ b L xs) (hi : 4 * i + 4 ≤ L) {K : KS'} {m : MS} {o : Nat → Int64} {d : Nat → UInt64} (h : EQ (8 * i) K m) (nx : NX γ σ b i) : At γ σ (1000 + 12 * i) (100000 + 2000 * i) 1084 (lsL b i) [] (LH K m o d) := by
  have hL := X.2.2.2.2.2.2
  have hK := h.1.1
  have gS := h.1.2.1
  obtain ⟨T, sp, rs⟩ := h.2.1
  have hT := sp.wf hK.1
  have vT := sp.vs gS.1
  have mT := sp.mp gS.2.2.1
  obtain ⟨a', b', e9, -, -⟩ := id sp
  subst e9
  have H0 : thr (fPas (kS K) (xs (4 * i + 1))) 0 1 2 0 = 0 → (fPas (kS K) (xs (4 * i + 1))) = 0 := by
    rcases fs_fPas (kS K) (xs (4 * i + 1)) with h9 | h9 | h9 <;> (rw [h9]; decide)
  have N := n_pass rs hT h.2.2.1.2.2.2.1 h.2.2.1.2.1 (xs (4 * i + 1)) (fun w => pk_of mT (by omega) vT hT (by decide) w)
  rw [show fPas (stSt (kS K) (gsc (kS K), a', b', glc (kS K), glg (kS K))) (xs (4 * i + 1)) = _ from (sp.pas (xs (4 * i + 1))).2] at N
  refine X.run okK_12 [] 60 ?_
  refine X.sld 1 hi (dcIa okK_12 rfl) ?_
  refine X.run okK_12 [] 60 ?_
  refine At.lW [vR 0 0, vI (xs (4 * i + 1)), vR 65 0] X.1 (w_pass K hK (xs (4 * i + 1))  o) kL_pass ln_L_220 X.fit (dcS okK_12 rfl) fun U C hU => ?_
  refine X.run okK_12 [] 60 ?_
  refine X.sld 1 hi (dcIa okK_12 rfl) ?_
  refine X.run okK_12 [] 60 ?_
  refine At.lE [vI (xs (4 * i + 1))] [] X.1 N kX11_pass ln_L_222 X.fit (dcV okK_12 rfl) fun m' P => ?_
  obtain ⟨hE, hz⟩ := ch_fin (f := (fPas (kS K) (xs (4 * i + 1)))) h (fun q => ⟨gS.eK (by omega) (xs (4 * i + 1)) 0 0 9 (by decide) q, (sp.pas (xs (4 * i + 1))).1⟩) (fun q => by rw [q]; rfl) H0 P hU C
  refine X.run okK_12 [] 60 ?_
  refine At.lI [] [] X.1 (n_thrown _) kX11_thrown ln_L_182 X.fit (dcV okK_12 rfl) ?_
  refine X.run okK_12 [(3217, [0, 1, 2, 3, 4, 5])] 60 ?_
  exact tail_i (At.wid (kk_s i) (nn_7 i) (nx _ _ _ _ hE)) hz (e2_of (fun q => H0 (thr_n (by decide) q)) (fun q => (if_pos (by rw [q]; rfl)).trans (congrArg nI (SP_tkc _ sp))))
theorem lc_13 {γ : CX} {σ : Nat → Nat → Nat} {b L i : Nat} {xs : Nat → Int32} (X : LX γ b L xs) (hi : 4 * i + 4 ≤ L) {K : KS'} {m : MS} {o : Nat → Int64} {d : Nat → UInt64} (h : EQ (8 * i) K m) (nx : NX γ σ b i) : At γ σ (1000 + 12 * i) (100000 + 2000 * i) 1140 (lsL b i) [] (LH K m o d) := by
  have hL := X.2.2.2.2.2.2
  have hK := h.1.1
  have gS := h.1.2.1
  obtain ⟨T, sp, rs⟩ := h.2.1
  have hT := sp.wf hK.1
  have vT := sp.vs gS.1
  obtain ⟨a', b', e9, -, -⟩ := id sp
  subst e9
  have N := n_minute rs
  refine X.run okK_13 [] 60 ?_
  refine At.lX X.1 (m_minute K hK ) kX10_minute ln_L_223 X.fit (dcV okK_13 rfl) fun U C hU => ?_
  refine X.run okK_13 [] 60 ?_
  refine At.lI [] [vI (gmn (kS K))] X.1 N kX11_minute ln_L_226 X.fit (dcV okK_13 rfl) ?_
  have hE : EQ (8 * (i + 1)) (scr (K) U C) (wT m 0) := (h.le (by omega)).scr hU C
  refine X.run okK_13 [(3217, [0, 1, 2, 3, 4, 5])] 60 ?_
  exact ⟨fun _ => At.wid (kk_s i) (nn_7 i) (nx _ _ _ _ hE), fun w => absurd (rfl) w⟩
theorem lc_14 {γ : CX} {σ : Nat → Nat → Nat} {b L i : Nat} {xs : Nat → Int32} (X : LX γ b L xs) (hi : 4 * i + 4 ≤ L) {K : KS'} {m : MS} {o : Nat → Int64} {d : Nat → UInt64} (h : EQ (8 * i) K m) (nx : NX γ σ b i) : At γ σ (1000 + 12 * i) (100000 + 2000 * i) 1153 (lsL b i) [] (LH K m o d) := by
  have hL := X.2.2.2.2.2.2
  have hK := h.1.1
  have gS := h.1.2.1
  obtain ⟨T, sp, rs⟩ := h.2.1
  have hT := sp.wf hK.1
  have vT := sp.vs gS.1
  obtain ⟨a', b', e9, -, -⟩ := id sp
  subst e9
  have N := n_compartmentCount rs
  refine X.run okK_14 [] 60 ?_
  refine At.lX X.1 (m_compartmentCount K hK ) kX10_compartmentCount ln_L_227 X.fit (dcV okK_14 rfl) fun U C hU => ?_
  refine X.run okK_14 [] 60 ?_
  refine At.lI [] [vI (nI (gc (kS K)))] X.1 N kX11_compartmentCount ln_L_230 X.fit (dcV okK_14 rfl) ?_
  have hE : EQ (8 * (i + 1)) (scr (K) U C) (wT m 0) := (h.le (by omega)).scr hU C
  refine X.run okK_14 [(3217, [0, 1, 2, 3, 4, 5])] 60 ?_
  exact ⟨fun _ => At.wid (kk_s i) (nn_7 i) (nx _ _ _ _ hE), fun w => absurd (rfl) w⟩
theorem lc_15 {γ : CX} {σ : Nat → Nat → Nat} {b L i : Nat} {xs : Nat → Int32} (X : LX γ b L xs) (hi : 4 * i + 4 ≤ L) {K : KS'} {m : MS} {o : Nat → Int64} {d : Nat → UInt64} (h : EQ (8 * i) K m) (nx : NX γ σ b i) : At γ σ (1000 + 12 * i) (100000 + 2000 * i) 1166 (lsL b i) [] (LH K m o d) := by
  have hL := X.2.2.2.2.2.2
  have hK := h.1.1
  have gS := h.1.2.1
  obtain ⟨T, sp, rs⟩ := h.2.1
  have hT := sp.wf hK.1
  have vT := sp.vs gS.1
  have mT := sp.mp gS.2.2.1
  obtain ⟨a', b', e9, -, -⟩ := id sp
  subst e9
  have H0 : thr (fChk (kS K) (xs (4 * i + 1))) 1 0 0 0 = 0 → (fChk (kS K) (xs (4 * i + 1))) = 0 := by
    rcases fs_fChk (kS K) (xs (4 * i + 1)) with h9 | h9 <;> (rw [h9]; decide)
  have N := n_arm rs hT (xs (4 * i + 1))
  refine X.run okK_15 [] 60 ?_
  refine X.sld 1 hi (dcIa okK_15 rfl) ?_
  refine X.run okK_15 [] 60 ?_
  refine At.lW [vR 0 0, vI (xs (4 * i + 1)), vR 65 0] X.1 (w_arm K hK (xs (4 * i + 1))  o) kL_arm ln_L_231 X.fit (dcS okK_15 rfl) fun U C hU => ?_
  refine X.run okK_15 [] 60 ?_
  refine X.sld 1 hi (dcIa okK_15 rfl) ?_
  refine X.run okK_15 [] 60 ?_
  refine At.lI [vI (xs (4 * i + 1))] [] X.1 N kX11_arm ln_L_233 X.fit (dcV okK_15 rfl) ?_
  have hE := rd_fin (f := (fChk (kS K) (xs (4 * i + 1)))) (th := ng (hsB (gc (kS K)) (xs (4 * i + 1)))) h hU C
  have hz := th_ng (b := hsB (gc (kS K)) (xs (4 * i + 1))) (f := (fChk (kS K) (xs (4 * i + 1)))) rfl
  refine X.run okK_15 [] 60 ?_
  refine At.lI [] [] X.1 (n_thrown _) kX11_thrown ln_L_182 X.fit (dcV okK_15 rfl) ?_
  refine X.run okK_15 [(3217, [0, 1, 2, 3, 4, 5])] 60 ?_
  exact tail_i (At.wid (kk_s i) (nn_7 i) (nx _ _ _ _ hE)) hz (e2_of (fun q => H0 (thr_n (by decide) q)) (fun q => if_pos (b_of rfl (by decide) q)))
