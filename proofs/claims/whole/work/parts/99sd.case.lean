/-! ===== the law's cases (by program), 3 ===== -/
theorem lc_24 {γ : CX} {σ : Nat → Nat → Nat} {b L i : Nat} {xs : Nat → Int32} (X : LX γ b L xs) (hi : 4 * i + 4 ≤ L) {K : KS'} {m : MS} {o : Nat → Int64} {d : Nat → UInt64} (h : EQ (8 * i) K m) (nx : NX γ σ b i) : At γ σ (1000 + 12 * i) (100000 + 2000 * i) 1634 (lsL b i) [] (LH K m o d) := by
  have hL := X.2.2.2.2.2.2
  have hK := h.1.1
  have gS := h.1.2.1
  obtain ⟨T, sp, rs⟩ := h.2.1
  have hT := sp.wf hK.1
  have vT := sp.vs gS.1
  have mT := sp.mp gS.2.2.1
  obtain ⟨a', b', e9, -, -⟩ := id sp
  subst e9
  have H0 : thr (fIdA (kS K) (xs (4 * i + 1))) 1 0 0 0 = 0 → (fIdA (kS K) (xs (4 * i + 1))) = 0 := by
    rcases fs_fIdA (kS K) (xs (4 * i + 1)) with h9 | h9 <;> (rw [h9]; decide)
  have N := n_idAt rs hT (xs (4 * i + 1))
  refine X.run okK_24 [] 60 ?_
  refine X.sld 1 hi (dcIa okK_24 rfl) ?_
  refine X.run okK_24 [] 60 ?_
  refine At.lW [vR 0 0, vI (xs (4 * i + 1)), vR 65 0] X.1 (w_idAt K hK (xs (4 * i + 1))  o) kL_idAt ln_L_259 X.fit (dcS okK_24 rfl) fun U C hU => ?_
  refine X.run okK_24 [] 60 ?_
  refine X.sld 1 hi (dcIa okK_24 rfl) ?_
  refine X.run okK_24 [] 60 ?_
  refine At.lI [vI (xs (4 * i + 1))] [] X.1 N kX11_idAt ln_L_261 X.fit (dcV okK_24 rfl) ?_
  have hE := rd_fin (f := (fIdA (kS K) (xs (4 * i + 1)))) (th := ng (hsB (gp (kS K)) (xs (4 * i + 1)))) h hU C
  have hz := th_ng (b := hsB (gp (kS K)) (xs (4 * i + 1))) (f := (fIdA (kS K) (xs (4 * i + 1)))) rfl
  refine X.run okK_24 [] 60 ?_
  refine At.lI [] [] X.1 (n_thrown _) kX11_thrown ln_L_182 X.fit (dcV okK_24 rfl) ?_
  refine X.run okK_24 [(3217, [0, 1, 2, 3, 4, 5])] 60 ?_
  exact tail_i (At.wid (kk_s i) (nn_7 i) (nx _ _ _ _ hE)) hz (e2_of (fun q => H0 (thr_n (by decide) q)) (fun q => if_pos (b_of rfl (by decide) q)))
theorem lc_25 {γ : CX} {σ : Nat → Nat → Nat} {b L i : Nat} {xs : Nat → Int32} (X : LX γ b L xs) (hi : 4 * i + 4 ≤ L) {K : KS'} {m : MS} {o : Nat → Int64} {d : Nat → UInt64} (h : EQ (8 * i) K m) (nx : NX γ σ b i) : At γ σ (1000 + 12 * i) (100000 + 2000 * i) 1690 (lsL b i) [] (LH K m o d) := by
  have hL := X.2.2.2.2.2.2
  have hK := h.1.1
  have gS := h.1.2.1
  obtain ⟨T, sp, rs⟩ := h.2.1
  have hT := sp.wf hK.1
  have vT := sp.vs gS.1
  have mT := sp.mp gS.2.2.1
  obtain ⟨a', b', e9, -, -⟩ := id sp
  subst e9
  have H0 : thr (fUnl (kS K) (xs (4 * i + 1))) 0 0 0 1 = 0 → (fUnl (kS K) (xs (4 * i + 1))) = 0 := by
    rcases fs_fUnl (kS K) (xs (4 * i + 1)) with h9 | h9 <;> (rw [h9]; decide)
  have N := n_weightOf rs hT (xs (4 * i + 1))
  refine X.run okK_25 [] 60 ?_
  refine X.sld 1 hi (dcIa okK_25 rfl) ?_
  refine X.run okK_25 [] 60 ?_
  refine At.lW [vR 0 0, vI (xs (4 * i + 1)), vR 65 0] X.1 (w_weightOf K hK (xs (4 * i + 1))  o) kL_weightOf ln_L_262 X.fit (dcS okK_25 rfl) fun U C hU => ?_
  refine X.run okK_25 [] 60 ?_
  refine X.sld 1 hi (dcIa okK_25 rfl) ?_
  refine X.run okK_25 [] 60 ?_
  refine At.lI [vI (xs (4 * i + 1))] [] X.1 N kX11_weightOf ln_L_264 X.fit (dcV okK_25 rfl) ?_
  have hE := rd_fin (f := (fUnl (kS K) (xs (4 * i + 1)))) (th := (if (fUnl (kS K) (xs (4 * i + 1))) = 0 then 0 else 1)) h hU C
  have hz := th_01 (f := (fUnl (kS K) (xs (4 * i + 1)))) (fs_fUnl (kS K) (xs (4 * i + 1)))
  refine X.run okK_25 [] 60 ?_
  refine At.lI [] [] X.1 (n_thrown _) kX11_thrown ln_L_182 X.fit (dcV okK_25 rfl) ?_
  refine X.run okK_25 [(3217, [0, 1, 2, 3, 4, 5])] 60 ?_
  exact tail_i (At.wid (kk_s i) (nn_7 i) (nx _ _ _ _ hE)) hz (e2_of (fun q => H0 (thr_n (by decide) q)) (fun q => if_pos q))
theorem lc_26 {γ : CX} {σ : Nat → Nat → Nat} {b L i : Nat} {xs : Nat → Int32} (X : LX γ b L xs) (hi : 4 * i + 4 ≤ L) {K : KS'} {m : MS} {o : Nat → Int64} {d : Nat → UInt64} (h : EQ (8 * i) K m) (nx : NX γ σ b i) : At γ σ (1000 + 12 * i) (100000 + 2000 * i) 1746 (lsL b i) [] (LH K m o d) := by
  have hL := X.2.2.2.2.2.2
  have hK := h.1.1
  have gS := h.1.2.1
  obtain ⟨T, sp, rs⟩ := h.2.1
  have hT := sp.wf hK.1
  have vT := sp.vs gS.1
  have mT := sp.mp gS.2.2.1
  obtain ⟨a', b', e9, -, -⟩ := id sp
  subst e9
  have H0 : thr (fUnl (kS K) (xs (4 * i + 1))) 0 0 0 1 = 0 → (fUnl (kS K) (xs (4 * i + 1))) = 0 := by
    rcases fs_fUnl (kS K) (xs (4 * i + 1)) with h9 | h9 <;> (rw [h9]; decide)
  have N := n_compartmentOf rs hT (xs (4 * i + 1))
  refine X.run okK_26 [] 60 ?_
  refine X.sld 1 hi (dcIa okK_26 rfl) ?_
  refine X.run okK_26 [] 60 ?_
  refine At.lW [vR 0 0, vI (xs (4 * i + 1)), vR 65 0] X.1 (w_compartmentOf K hK (xs (4 * i + 1))  o) kL_compartmentOf ln_L_265 X.fit (dcS okK_26 rfl) fun U C hU => ?_
  refine X.run okK_26 [] 60 ?_
  refine X.sld 1 hi (dcIa okK_26 rfl) ?_
  refine X.run okK_26 [] 60 ?_
  refine At.lI [vI (xs (4 * i + 1))] [] X.1 N kX11_compartmentOf ln_L_267 X.fit (dcV okK_26 rfl) ?_
  have hE := rd_fin (f := (fUnl (kS K) (xs (4 * i + 1)))) (th := (if (fUnl (kS K) (xs (4 * i + 1))) = 0 then 0 else 1)) h hU C
  have hz := th_01 (f := (fUnl (kS K) (xs (4 * i + 1)))) (fs_fUnl (kS K) (xs (4 * i + 1)))
  refine X.run okK_26 [] 60 ?_
  refine At.lI [] [] X.1 (n_thrown _) kX11_thrown ln_L_182 X.fit (dcV okK_26 rfl) ?_
  refine X.run okK_26 [(3217, [0, 1, 2, 3, 4, 5])] 60 ?_
  exact tail_i (At.wid (kk_s i) (nn_7 i) (nx _ _ _ _ hE)) hz (e2_of (fun q => H0 (thr_n (by decide) q)) (fun q => if_pos q))
theorem lc_27 {γ : CX} {σ : Nat → Nat → Nat} {b L i : Nat} {xs : Nat → Int32} (X : LX γ b L xs) (hi : 4 * i + 4 ≤ L) {K : KS'} {m : MS} {o : Nat → Int64} {d : Nat → UInt64} (h : EQ (8 * i) K m) (nx : NX γ σ b i) : At γ σ (1000 + 12 * i) (100000 + 2000 * i) 1802 (lsL b i) [] (LH K m o d) := by
  have hL := X.2.2.2.2.2.2
  have hK := h.1.1
  have gS := h.1.2.1
  obtain ⟨T, sp, rs⟩ := h.2.1
  have hT := sp.wf hK.1
  have vT := sp.vs gS.1
  have mT := sp.mp gS.2.2.1
  obtain ⟨a', b', e9, -, -⟩ := id sp
  subst e9
  have H0 : thr (fHvy (kS K)) 0 0 0 1 = 0 → (fHvy (kS K)) = 0 := by
    rcases fs_fHvy (kS K) with h9 | h9 <;> (rw [h9]; decide)
  have N := n_heaviestPiece rs hT
  refine X.run okK_27 [] 60 ?_
  refine At.lW [vR 0 0, vR 65 0] X.1 (w_heaviestPiece K hK   o) kL_heaviestPiece ln_L_268 X.fit (dcS okK_27 rfl) fun U C hU => ?_
  refine X.run okK_27 [] 60 ?_
  refine At.lI [] [] X.1 N kX11_heaviestPiece ln_L_271 X.fit (dcV okK_27 rfl) ?_
  have hE := rd_fin (f := (fHvy (kS K))) (th := (if (fHvy (kS K)) = 0 then 0 else 1)) h hU C
  have hz := th_01 (f := (fHvy (kS K))) (fs_fHvy (kS K))
  refine X.run okK_27 [] 60 ?_
  refine At.lI [] [] X.1 (n_thrown _) kX11_thrown ln_L_182 X.fit (dcV okK_27 rfl) ?_
  refine X.run okK_27 [(3217, [0, 1, 2, 3, 4, 5])] 60 ?_
  exact tail_i (At.wid (kk_s i) (nn_7 i) (nx _ _ _ _ hE)) hz (e2_of (fun q => H0 (thr_n (by decide) q)) (fun q => if_pos q))
theorem lc_28 {γ : CX} {σ : Nat → Nat → Nat} {b L i : Nat} {xs : Nat → Int32} (X : LX γ b L xs) (hi : 4 * i + 4 ≤ L) {K : KS'} {m : MS} {o : Nat → Int64} {d : Nat → UInt64} (h : EQ (8 * i) K m) (nx : NX γ σ b i) : At γ σ (1000 + 12 * i) (100000 + 2000 * i) 1846 (lsL b i) [] (LH K m o d) := by
  have hL := X.2.2.2.2.2.2
  have hK := h.1.1
  have gS := h.1.2.1
  obtain ⟨T, sp, rs⟩ := h.2.1
  have hT := sp.wf hK.1
  have vT := sp.vs gS.1
  obtain ⟨a', b', e9, -, -⟩ := id sp
  subst e9
  have N := n_weight rs hT
  refine X.run okK_28 [] 60 ?_
  refine At.lX X.1 (m_weight K hK ) kX10_weight ln_L_272 X.fit (dcV okK_28 rfl) fun U C hU => ?_
  refine X.run okK_28 [] 60 ?_
  refine At.lI [] [vI (twI (kS K))] X.1 N kX11_weight ln_L_275 X.fit (dcV okK_28 rfl) ?_
  have hE : EQ (8 * (i + 1)) (scr (K) U C) (wT m 0) := (h.le (by omega)).scr hU C
  refine X.run okK_28 [(3217, [0, 1, 2, 3, 4, 5])] 60 ?_
  exact ⟨fun _ => At.wid (kk_s i) (nn_7 i) (nx _ _ _ _ hE), fun w => absurd (rfl) w⟩
theorem lc_29 {γ : CX} {σ : Nat → Nat → Nat} {b L i : Nat} {xs : Nat → Int32} (X : LX γ b L xs) (hi : 4 * i + 4 ≤ L) {K : KS'} {m : MS} {o : Nat → Int64} {d : Nat → UInt64} (h : EQ (8 * i) K m) (nx : NX γ σ b i) : At γ σ (1000 + 12 * i) (100000 + 2000 * i) 1859 (lsL b i) [] (LH K m o d) := by
  have hL := X.2.2.2.2.2.2
  have hK := h.1.1
  have gS := h.1.2.1
  obtain ⟨T, sp, rs⟩ := h.2.1
  have hT := sp.wf hK.1
  have vT := sp.vs gS.1
  obtain ⟨a', b', e9, -, -⟩ := id sp
  subst e9
  have N := n_weightByParts rs hT
  refine X.run okK_29 [] 60 ?_
  refine At.lX X.1 (m_weightByParts K hK ) kX10_weightByParts ln_L_276 X.fit (dcV okK_29 rfl) fun U C hU => ?_
  refine X.run okK_29 [] 60 ?_
  refine At.lI [] [vI (sumI (gw (kS K)) (gc (kS K)) + sumI (gwt (kS K)) (gp (kS K)))] X.1 N kX11_weightByParts ln_L_279 X.fit (dcV okK_29 rfl) ?_
  have hE : EQ (8 * (i + 1)) (scr (K) U C) (wT m 0) := (h.le (by omega)).scr hU C
  refine X.run okK_29 [(3217, [0, 1, 2, 3, 4, 5])] 60 ?_
  exact ⟨fun _ => At.wid (kk_s i) (nn_7 i) (nx _ _ _ _ hE), fun w => absurd ((tw_parts hK.1).symm) w⟩
theorem lc_30 {γ : CX} {σ : Nat → Nat → Nat} {b L i : Nat} {xs : Nat → Int32} (X : LX γ b L xs) (hi : 4 * i + 4 ≤ L) {K : KS'} {m : MS} {o : Nat → Int64} {d : Nat → UInt64} (h : EQ (8 * i) K m) (nx : NX γ σ b i) : At γ σ (1000 + 12 * i) (100000 + 2000 * i) 1872 (lsL b i) [] (LH K m o d) := by
  have hL := X.2.2.2.2.2.2
  have hK := h.1.1
  have gS := h.1.2.1
  obtain ⟨T, sp, rs⟩ := h.2.1
  have hT := sp.wf hK.1
  have vT := sp.vs gS.1
  obtain ⟨a', b', e9, -, -⟩ := id sp
  subst e9
  have N := n_moment rs hT
  refine X.run okK_30 [] 60 ?_
  refine At.lX X.1 (m_moment K hK ) kX10_moment ln_L_280 X.fit (dcV okK_30 rfl) fun U C hU => ?_
  refine X.run okK_30 [] 60 ?_
  refine At.lI [] [vI (tmI (kS K))] X.1 N kX11_moment ln_L_283 X.fit (dcV okK_30 rfl) ?_
  have hE : EQ (8 * (i + 1)) (scr (K) U C) (wT m 0) := (h.le (by omega)).scr hU C
  refine X.run okK_30 [(3217, [0, 1, 2, 3, 4, 5])] 60 ?_
  exact ⟨fun _ => At.wid (kk_s i) (nn_7 i) (nx _ _ _ _ hE), fun w => absurd (rfl) w⟩
theorem lc_31 {γ : CX} {σ : Nat → Nat → Nat} {b L i : Nat} {xs : Nat → Int32} (X : LX γ b L xs) (hi : 4 * i + 4 ≤ L) {K : KS'} {m : MS} {o : Nat → Int64} {d : Nat → UInt64} (h : EQ (8 * i) K m) (nx : NX γ σ b i) : At γ σ (1000 + 12 * i) (100000 + 2000 * i) 1885 (lsL b i) [] (LH K m o d) := by
  have hL := X.2.2.2.2.2.2
  have hK := h.1.1
  have gS := h.1.2.1
  obtain ⟨T, sp, rs⟩ := h.2.1
  have hT := sp.wf hK.1
  have vT := sp.vs gS.1
  obtain ⟨a', b', e9, -, -⟩ := id sp
  subst e9
  have N := n_momentByParts rs hT
  refine X.run okK_31 [] 60 ?_
  refine At.lX X.1 (m_momentByParts K hK ) kX10_momentByParts ln_L_284 X.fit (dcV okK_31 rfl) fun U C hU => ?_
  refine X.run okK_31 [] 60 ?_
  refine At.lI [] [vI (mpI (kS K))] X.1 N kX11_momentByParts ln_L_287 X.fit (dcV okK_31 rfl) ?_
  have hE : EQ (8 * (i + 1)) (scr (K) U C) (wT m 0) := (h.le (by omega)).scr hU C
  refine X.run okK_31 [(3217, [0, 1, 2, 3, 4, 5])] 60 ?_
  exact ⟨fun _ => At.wid (kk_s i) (nn_7 i) (nx _ _ _ _ hE), fun w => absurd ((tm_parts hK.1).symm) w⟩
