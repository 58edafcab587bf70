/-! ===== the law's cases (by program), 7 ===== -/
theorem lc_59 {γ : CX} {σ : Nat → Nat → Nat} {b L i : Nat} {xs : Nat → Int32} (X : LX γ b L xs) (hi : 4 * i + 4 ≤ L) {K : KS'} {m : MS} {o : Nat → Int64} {d : Nat → UInt64} (h : EQ (8 * i) K m) (nx : NX γ σ b i) : At γ σ (1000 + 12 * i) (100000 + 2000 * i) 3059 (lsL b i) [] (LH K m o d) := by
  have hL := X.2.2.2.2.2.2
  have hK := h.1.1
  have gS := h.1.2.1
  have H0 : thr (fFlag 4 (kF K).2.2.2.1) 0 0 0 1 = 0 → (fFlag 4 (kF K).2.2.2.1) = 0 := by
    rcases fs_fFlag 4 (kF K).2.2.2.1 with h9 | h9 <;> (rw [h9]; decide)
  have N := n_failedCommand m
  refine X.run okK_59 [] 60 ?_
  refine At.lW [vR 0 0, vR 65 0] X.1 (w_failedCommand K hK   o) kL_failedCommand ln_L_380 X.fit (dcS okK_59 rfl) fun U C hU => ?_
  refine X.run okK_59 [] 60 ?_
  refine At.lI [] [] X.1 N kX11_failedCommand ln_L_382 X.fit (dcV okK_59 rfl) ?_
  have hE := rd_fin (f := (fFlag 4 (kF K).2.2.2.1)) (th := (if zFa m = -1 then 1 else 0)) h hU C
  have hz := fl_th h.2.2.2.2.1.2
  refine X.run okK_59 [] 60 ?_
  refine At.lI [] [] X.1 (n_thrown _) kX11_thrown ln_L_182 X.fit (dcV okK_59 rfl) ?_
  refine X.run okK_59 [(3217, [0, 1, 2, 3, 4, 5])] 60 ?_
  exact tail_i (At.wid (kk_s i) (nn_7 i) (nx _ _ _ _ hE)) hz (e2_of (fun q => H0 (thr_n (by decide) q)) (fun q => fl_v h.2.2.2.2.1.2 q))
theorem lc_60 {γ : CX} {σ : Nat → Nat → Nat} {b L i : Nat} {xs : Nat → Int32} (X : LX γ b L xs) (hi : 4 * i + 4 ≤ L) {K : KS'} {m : MS} {o : Nat → Int64} {d : Nat → UInt64} (h : EQ (8 * i) K m) (nx : NX γ σ b i) : At γ σ (1000 + 12 * i) (100000 + 2000 * i) 3103 (lsL b i) [] (LH K m o d) := by
  have hL := X.2.2.2.2.2.2
  have hK := h.1.1
  have gS := h.1.2.1
  obtain ⟨T, sp, rs⟩ := h.2.1
  have hT := sp.wf hK.1
  have vT := sp.vs gS.1
  obtain ⟨a', b', e9, -, -⟩ := id sp
  subst e9
  have N := n_undoableCount m
  refine X.run okK_60 [] 60 ?_
  refine At.lX X.1 (m_undoableCount K hK ) kX10_undoableCount ln_L_383 X.fit (dcV okK_60 rfl) fun U C hU => ?_
  refine X.run okK_60 [] 60 ?_
  refine At.lI [] [vI (nI (kH K).2.1)] X.1 N kX11_undoableCount ln_L_386 X.fit (dcV okK_60 rfl) ?_
  have hE : EQ (8 * (i + 1)) (scr (K) U C) (wT m 0) := (h.le (by omega)).scr hU C
  refine X.run okK_60 [(3217, [0, 1, 2, 3, 4, 5])] 60 ?_
  exact ⟨fun _ => At.wid (kk_s i) (nn_7 i) (nx _ _ _ _ hE), fun w => absurd (h.2.2.1.2.2.2.1.symm) w⟩
theorem lc_61 {γ : CX} {σ : Nat → Nat → Nat} {b L i : Nat} {xs : Nat → Int32} (X : LX γ b L xs) (hi : 4 * i + 4 ≤ L) {K : KS'} {m : MS} {o : Nat → Int64} {d : Nat → UInt64} (h : EQ (8 * i) K m) (nx : NX γ σ b i) : At γ σ (1000 + 12 * i) (100000 + 2000 * i) 3116 (lsL b i) [] (LH K m o d) := by
  have hL := X.2.2.2.2.2.2
  have hK := h.1.1
  have gS := h.1.2.1
  have H0 : thr (fUnd (kH K)) 0 0 1 0 = 0 → (fUnd (kH K)) = 0 := by
    rcases fs_fUnd (kH K) with h9 | h9 <;> (rw [h9]; decide)
  have N := n_undo m h.2.2.1.2.2.2.1 h.2.2.1.2.1
  refine X.run okK_61 [] 60 ?_
  refine At.lW [vR 0 0, vR 65 0] X.1 (w_undo K hK   o) kL_undo ln_L_387 X.fit (dcS okK_61 rfl) fun U C hU => ?_
  refine X.run okK_61 [] 60 ?_
  refine At.lI [] [] X.1 N kX11_undo ln_L_389 X.fit (dcV okK_61 rfl) ?_
  obtain ⟨hE, hz⟩ := un_fin h hU C
  refine X.run okK_61 [] 60 ?_
  refine At.lI [] [] X.1 (n_thrown _) kX11_thrown ln_L_182 X.fit (dcV okK_61 rfl) ?_
  refine X.run okK_61 [(3217, [0, 1, 2, 3, 4, 5])] 60 ?_
  exact tail_i (At.wid (kk_s i) (nn_7 i) (nx _ _ _ _ hE)) hz (e2_of (fun q => H0 (thr_n (by decide) q)) (fun q => un_v q))
theorem lc_62 {γ : CX} {σ : Nat → Nat → Nat} {b L i : Nat} {xs : Nat → Int32} (X : LX γ b L xs) (hi : 4 * i + 4 ≤ L) {K : KS'} {m : MS} {o : Nat → Int64} {d : Nat → UInt64} (h : EQ (8 * i) K m) (nx : NX γ σ b i) : At γ σ (1000 + 12 * i) (100000 + 2000 * i) 3160 (lsL b i) [] (LH K m o d) := by
  have hL := X.2.2.2.2.2.2
  have hK := h.1.1
  have gS := h.1.2.1
  obtain ⟨T, sp, rs⟩ := h.2.1
  have hT := sp.wf hK.1
  have vT := sp.vs gS.1
  obtain ⟨a', b', e9, -, -⟩ := id sp
  subst e9
  have N := n_save rs
  refine X.run okK_62 [] 60 ?_
  refine At.lX X.1 (m_save K hK ) kX10_save ln_L_390 X.fit (dcV okK_62 rfl) fun U C hU => ?_
  refine X.run okK_62 [] 60 ?_
  refine At.lI [] [vI (nI (gc (kS K)))] X.1 N kX11_save ln_L_393 X.fit (dcV okK_62 rfl) ?_
  have hE : EQ (8 * (i + 1)) (scr (stF (stV K (cpS (kV K) (kS K))) (1, (kF K).2)) U C) (wV (wT (wA m (cpF (zA m) 0 9)) 0) 1) := (h.save.le (by omega)).scr hU C
  refine X.run okK_62 [(3217, [0, 1, 2, 3, 4, 5])] 60 ?_
  exact ⟨fun _ => At.wid (kk_s i) (nn_7 i) (nx _ _ _ _ hE), fun w => absurd (rfl) w⟩
theorem lc_63 {γ : CX} {σ : Nat → Nat → Nat} {b L i : Nat} {xs : Nat → Int32} (X : LX γ b L xs) (hi : 4 * i + 4 ≤ L) {K : KS'} {m : MS} {o : Nat → Int64} {d : Nat → UInt64} (h : EQ (8 * i) K m) (nx : NX γ σ b i) : At γ σ (1000 + 12 * i) (100000 + 2000 * i) 3173 (lsL b i) [] (LH K m o d) := by
  have hL := X.2.2.2.2.2.2
  have hK := h.1.1
  have gS := h.1.2.1
  obtain ⟨b9, hb1, hb2, -⟩ := h.2.2.2.1
  have H0 : thr (fFlag 3 (kF K).1) 0 0 1 0 = 0 → (fFlag 3 (kF K).1) = 0 := by
    rcases fs_fFlag 3 (kF K).1 with h9 | h9 <;> (rw [h9]; decide)
  have N := n_restore m b9 hb1
  refine X.run okK_63 [] 60 ?_
  refine At.lW [vR 0 0, vR 65 0] X.1 (w_restore K hK   o) kL_restore ln_L_394 X.fit (dcS okK_63 rfl) fun U C hU => ?_
  refine X.run okK_63 [] 60 ?_
  refine At.lI [] [] X.1 N kX11_restore ln_L_396 X.fit (dcV okK_63 rfl) ?_
  obtain ⟨hE, hz⟩ := re_fin h hb1 hb2 hU C
  refine X.run okK_63 [] 60 ?_
  refine At.lI [] [] X.1 (n_thrown _) kX11_thrown ln_L_182 X.fit (dcV okK_63 rfl) ?_
  refine X.run okK_63 [(3217, [0, 1, 2, 3, 4, 5])] 60 ?_
  exact tail_i (At.wid (kk_s i) (nn_7 i) (nx _ _ _ _ hE)) hz (e2_of (fun q => H0 (thr_n (by decide) q)) (fun q => re_v h hb1 hb2 q))
