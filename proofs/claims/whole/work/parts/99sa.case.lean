/-! ===== the law's cases (by program), 0 ===== -/
/-- the comparison of a boolean answer -/
theorem tail_b {A : Prop} {x : Int32} {f c : Nat} {v : Bool} {o : Nat → Int64} {bb : Int32} (hA : A) (e1 : x = nI c) (hc : nI c = 0 → f = 0) (hb : f = 0 → bb = b2 v) : (x = nI c → (nI c = 0 → vp_in 0 1 ∧ (bb = 0 → (lg_cmp ((if f = 0 then oS o (bL v) else o) (Int32.toNatClampNeg 0)) (Int64.ofNat ((0 : _root_.Fin 2) : Nat)) = 0 → A) ∧ (¬ lg_cmp ((if f = 0 then oS o (bL v) else o) (Int32.toNatClampNeg 0)) (Int64.ofNat ((0 : _root_.Fin 2) : Nat)) = 0 → ((0 : Int32) = 0 ∨ (0 : Int32) = 1) ∧ False)) ∧ (¬ bb = 0 → (lg_cmp ((if f = 0 then oS o (bL v) else o) (Int32.toNatClampNeg 0)) (Int64.ofNat ((1 : _root_.Fin 2) : Nat)) = 0 → A) ∧ (¬ lg_cmp ((if f = 0 then oS o (bL v) else o) (Int32.toNatClampNeg 0)) (Int64.ofNat ((1 : _root_.Fin 2) : Nat)) = 0 → ((0 : Int32) = 0 ∨ (0 : Int32) = 1) ∧ False))) ∧ (¬ nI c = 0 → A)) ∧ (¬ x = nI c → ((0 : Int32) = 0 ∨ (0 : Int32) = 1) ∧ False) := by
  refine ⟨fun _ => ⟨fun w => ⟨vk, fun z => ⟨fun _ => hA, fun q => absurd ?_ q⟩, fun z => ⟨fun _ => hA, fun q => absurd ?_ q⟩⟩, fun _ => hA⟩, fun w => absurd e1 w⟩
  · rw [if_pos (hc w), up_0]
    rw [hb (hc w)] at z
    rw [b2_eq0.mp z]
    exact lg_self _
  · rw [if_pos (hc w), up_0]
    rw [hb (hc w)] at z
    rw [b2_ne0.mp z]
    exact lg_self _
theorem lc_0 {γ : CX} {σ : Nat → Nat → Nat} {b L i : Nat} {xs : Nat → Int32} (X : LX γ b L xs) (hi : 4 * i + 4 ≤ L) {K : KS'} {m : MS} {o : Nat → Int64} {d : Nat → UInt64} (h : EQ (8 * i) K m) (nx : NX γ σ b i) : At γ σ (1000 + 12 * i) (100000 + 2000 * i) 316 (lsL b i) [] (LH K m o d) := by
  have hL := X.2.2.2.2.2.2
  have hK := h.1.1
  have gS := h.1.2.1
  obtain ⟨T, sp, rs⟩ := h.2.1
  have hT := sp.wf hK.1
  have vT := sp.vs gS.1
  have mT := sp.mp gS.2.2.1
  obtain ⟨a', b', e9, -, -⟩ := id sp
  subst e9
  have H0 : thr (fAdd (kS K) (xs (4 * i + 1)) (xs (4 * i + 2))) 0 1 2 0 = 0 → (fAdd (kS K) (xs (4 * i + 1)) (xs (4 * i + 2))) = 0 := by
    rcases fs_fAdd (kS K) (xs (4 * i + 1)) (xs (4 * i + 2)) with h9 | h9 | h9 <;> (rw [h9]; decide)
  have N := n_addCompartment rs hT h.2.2.1.2.2.2.1 h.2.2.1.2.1 (xs (4 * i + 1)) (xs (4 * i + 2)) (fun q => ((sp.add (xs (4 * i + 1)) (xs (4 * i + 2))).1).wf (gS.eK (by omega) (xs (4 * i + 1)) (xs (4 * i + 2)) 0 0 (by decide) ((sp.add (xs (4 * i + 1)) (xs (4 * i + 2))).2.symm.trans q)).2.1)
  rw [show fAdd (stSt (kS K) (gsc (kS K), a', b', glc (kS K), glg (kS K))) (xs (4 * i + 1)) (xs (4 * i + 2)) = _ from (sp.add (xs (4 * i + 1)) (xs (4 * i + 2))).2] at N
  refine X.run okK_0 [] 60 ?_
  refine X.sld 1 hi (dcIa okK_0 rfl) ?_
  refine X.run okK_0 [] 60 ?_
  refine X.sld 2 hi (dcIa okK_0 rfl) ?_
  refine X.run okK_0 [] 60 ?_
  refine At.lW [vR 0 0, vI (xs (4 * i + 1)), vI (xs (4 * i + 2)), vR 65 0] X.1 (w_addCompartment K hK (xs (4 * i + 1)) (xs (4 * i + 2))  o) kL_addCompartment ln_L_176 X.fit (dcS okK_0 rfl) fun U C hU => ?_
  refine X.run okK_0 [] 60 ?_
  refine X.sld 1 hi (dcIa okK_0 rfl) ?_
  refine X.run okK_0 [] 60 ?_
  refine X.sld 2 hi (dcIa okK_0 rfl) ?_
  refine X.run okK_0 [] 60 ?_
  refine At.lE [vI (xs (4 * i + 1)), vI (xs (4 * i + 2))] [] X.1 N kX11_addCompartment ln_L_181 X.fit (dcV okK_0 rfl) fun m' P => ?_
  obtain ⟨hE, hz⟩ := ch_fin (f := (fAdd (kS K) (xs (4 * i + 1)) (xs (4 * i + 2)))) h (fun q => ⟨gS.eK (by omega) (xs (4 * i + 1)) (xs (4 * i + 2)) 0 0 (by decide) q, (sp.add (xs (4 * i + 1)) (xs (4 * i + 2))).1⟩) (fun q => by rw [q]; rfl) H0 P hU C
  refine X.run okK_0 [] 60 ?_
  refine At.lI [] [] X.1 (n_thrown _) kX11_thrown ln_L_182 X.fit (dcV okK_0 rfl) ?_
  refine X.run okK_0 [(3217, [0, 1, 2, 3, 4, 5])] 60 ?_
  exact tail_i (At.wid (kk_s i) (nn_7 i) (nx _ _ _ _ hE)) hz (e2_of (fun q => H0 (thr_n (by decide) q)) (fun q => if_pos (by rw [q]; rfl)))
theorem lc_1 {γ : CX} {σ : Nat → Nat → Nat} {b L i : Nat} {xs : Nat → Int32} (X : LX γ b L xs) (hi : 4 * i + 4 ≤ L) {K : KS'} {m : MS} {o : Nat → Int64} {d : Nat → UInt64} (h : EQ (8 * i) K m) (nx : NX γ σ b i) : At γ σ (1000 + 12 * i) (100000 + 2000 * i) 384 (lsL b i) [] (LH K m o d) := by
  have hL := X.2.2.2.2.2.2
  have hK := h.1.1
  have gS := h.1.2.1
  obtain ⟨T, sp, rs⟩ := h.2.1
  have hT := sp.wf hK.1
  have vT := sp.vs gS.1
  have mT := sp.mp gS.2.2.1
  obtain ⟨a', b', e9, -, -⟩ := id sp
  subst e9
  have H0 : thr (fLoad (kS K) (xs (4 * i + 1)) (xs (4 * i + 2))) 1 2 3 0 = 0 → (fLoad (kS K) (xs (4 * i + 1)) (xs (4 * i + 2))) = 0 := by
    rcases fs_fLoad (kS K) (xs (4 * i + 1)) (xs (4 * i + 2)) with h9 | h9 | h9 | h9 <;> (rw [h9]; decide)
  have N := n_load rs hT h.2.2.1.2.2.2.1 h.2.2.1.2.1 (xs (4 * i + 1)) (xs (4 * i + 2)) (fun q => ((sp.put (xs (4 * i + 1)) (xs (4 * i + 2))).1).wf (gS.eK (by omega) (xs (4 * i + 1)) (xs (4 * i + 2)) 0 1 (by decide) ((sp.put (xs (4 * i + 1)) (xs (4 * i + 2))).2.symm.trans q)).2.1)
  rw [show fLoad (stSt (kS K) (gsc (kS K), a', b', glc (kS K), glg (kS K))) (xs (4 * i + 1)) (xs (4 * i + 2)) = _ from (sp.put (xs (4 * i + 1)) (xs (4 * i + 2))).2] at N
  refine X.run okK_1 [] 60 ?_
  refine X.sld 1 hi (dcIa okK_1 rfl) ?_
  refine X.run okK_1 [] 60 ?_
  refine X.sld 2 hi (dcIa okK_1 rfl) ?_
  refine X.run okK_1 [] 60 ?_
  refine At.lW [vR 0 0, vI (xs (4 * i + 1)), vI (xs (4 * i + 2)), vR 65 0] X.1 (w_load K hK (xs (4 * i + 1)) (xs (4 * i + 2))  o) kL_load ln_L_185 X.fit (dcS okK_1 rfl) fun U C hU => ?_
  refine X.run okK_1 [] 60 ?_
  refine X.sld 1 hi (dcIa okK_1 rfl) ?_
  refine X.run okK_1 [] 60 ?_
  refine X.sld 2 hi (dcIa okK_1 rfl) ?_
  refine X.run okK_1 [] 60 ?_
  refine At.lE [vI (xs (4 * i + 1)), vI (xs (4 * i + 2))] [] X.1 N kX11_load ln_L_187 X.fit (dcV okK_1 rfl) fun m' P => ?_
  obtain ⟨hE, hz⟩ := ch_fin (f := (fLoad (kS K) (xs (4 * i + 1)) (xs (4 * i + 2)))) h (fun q => ⟨gS.eK (by omega) (xs (4 * i + 1)) (xs (4 * i + 2)) 0 1 (by decide) q, (sp.put (xs (4 * i + 1)) (xs (4 * i + 2))).1⟩) (fun q => by rw [q]; rfl) H0 P hU C
  refine X.run okK_1 [] 60 ?_
  refine At.lI [] [] X.1 (n_thrown _) kX11_thrown ln_L_182 X.fit (dcV okK_1 rfl) ?_
  refine X.run okK_1 [(3217, [0, 1, 2, 3, 4, 5])] 60 ?_
  exact tail_i (At.wid (kk_s i) (nn_7 i) (nx _ _ _ _ hE)) hz (e2_of (fun q => H0 (thr_n (by decide) q)) (fun q => if_pos (by rw [q]; rfl)))
theorem lc_2 {γ : CX} {σ : Nat → Nat → Nat} {b L i : Nat} {xs : Nat → Int32} (X : LX γ b L xs) (hi : 4 * i + 4 ≤ L) {K : KS'} {m : MS} {o : Nat → Int64} {d : Nat → UInt64} (h : EQ (8 * i) K m) (nx : NX γ σ b i) : At γ σ (1000 + 12 * i) (100000 + 2000 * i) 452 (lsL b i) [] (LH K m o d) := by
  have hL := X.2.2.2.2.2.2
  have hK := h.1.1
  have gS := h.1.2.1
  obtain ⟨T, sp, rs⟩ := h.2.1
  have hT := sp.wf hK.1
  have vT := sp.vs gS.1
  have mT := sp.mp gS.2.2.1
  obtain ⟨a', b', e9, -, -⟩ := id sp
  subst e9
  have H0 : thr (fUnl (kS K) (xs (4 * i + 1))) 0 0 0 1 = 0 → (fUnl (kS K) (xs (4 * i + 1))) = 0 := by
    rcases fs_fUnl (kS K) (xs (4 * i + 1)) with h9 | h9 <;> (rw [h9]; decide)
  have N := n_unload rs hT h.2.2.1.2.2.2.1 h.2.2.1.2.1 (xs (4 * i + 1)) (fun q => ((sp.rem (xs (4 * i + 1))).1).wf (gS.eK (by omega) (xs (4 * i + 1)) 0 0 2 (by decide) ((sp.rem (xs (4 * i + 1))).2.symm.trans q)).2.1)
  rw [show fUnl (stSt (kS K) (gsc (kS K), a', b', glc (kS K), glg (kS K))) (xs (4 * i + 1)) = _ from (sp.rem (xs (4 * i + 1))).2] at N
  refine X.run okK_2 [] 60 ?_
  refine X.sld 1 hi (dcIa okK_2 rfl) ?_
  refine X.run okK_2 [] 60 ?_
  refine At.lW [vR 0 0, vI (xs (4 * i + 1)), vR 65 0] X.1 (w_unload K hK (xs (4 * i + 1))  o) kL_unload ln_L_188 X.fit (dcS okK_2 rfl) fun U C hU => ?_
  refine X.run okK_2 [] 60 ?_
  refine X.sld 1 hi (dcIa okK_2 rfl) ?_
  refine X.run okK_2 [] 60 ?_
  refine At.lE [vI (xs (4 * i + 1))] [] X.1 N kX11_unload ln_L_191 X.fit (dcV okK_2 rfl) fun m' P => ?_
  obtain ⟨hE, hz⟩ := ch_fin (f := (fUnl (kS K) (xs (4 * i + 1)))) h (fun q => ⟨gS.eK (by omega) (xs (4 * i + 1)) 0 0 2 (by decide) q, (sp.rem (xs (4 * i + 1))).1⟩) (fun q => by rw [q]; rfl) H0 P hU C
  refine X.run okK_2 [] 60 ?_
  refine At.lI [] [] X.1 (n_thrown _) kX11_thrown ln_L_182 X.fit (dcV okK_2 rfl) ?_
  refine X.run okK_2 [(3217, [0, 1, 2, 3, 4, 5])] 60 ?_
  exact tail_i (At.wid (kk_s i) (nn_7 i) (nx _ _ _ _ hE)) hz (e2_of (fun q => H0 (thr_n (by decide) q)) (fun q => if_pos (by rw [q]; rfl)))
theorem lc_3 {γ : CX} {σ : Nat → Nat → Nat} {b L i : Nat} {xs : Nat → Int32} (X : LX γ b L xs) (hi : 4 * i + 4 ≤ L) {K : KS'} {m : MS} {o : Nat → Int64} {d : Nat → UInt64} (h : EQ (8 * i) K m) (nx : NX γ σ b i) : At γ σ (1000 + 12 * i) (100000 + 2000 * i) 508 (lsL b i) [] (LH K m o d) := by
  have hL := X.2.2.2.2.2.2
  have hK := h.1.1
  have gS := h.1.2.1
  obtain ⟨T, sp, rs⟩ := h.2.1
  have hT := sp.wf hK.1
  have vT := sp.vs gS.1
  have mT := sp.mp gS.2.2.1
  obtain ⟨a', b', e9, -, -⟩ := id sp
  subst e9
  have H0 : thr (fShf (kS K) (xs (4 * i + 1)) (xs (4 * i + 2))) 2 0 3 1 = 0 → (fShf (kS K) (xs (4 * i + 1)) (xs (4 * i + 2))) = 0 := by
    rcases fs_fShf (kS K) (xs (4 * i + 1)) (xs (4 * i + 2)) with h9 | h9 | h9 | h9 <;> (rw [h9]; decide)
  have N := n_shift rs hT h.2.2.1.2.2.2.1 h.2.2.1.2.1 (xs (4 * i + 1)) (xs (4 * i + 2)) (fun q => ((sp.car (xs (4 * i + 1)) (xs (4 * i + 2))).1).wf (gS.eK (by omega) (xs (4 * i + 1)) (xs (4 * i + 2)) 0 3 (by decide) ((sp.car (xs (4 * i + 1)) (xs (4 * i + 2))).2.symm.trans q)).2.1)
  rw [show fShf (stSt (kS K) (gsc (kS K), a', b', glc (kS K), glg (kS K))) (xs (4 * i + 1)) (xs (4 * i + 2)) = _ from (sp.car (xs (4 * i + 1)) (xs (4 * i + 2))).2] at N
  refine X.run okK_3 [] 60 ?_
  refine X.sld 1 hi (dcIa okK_3 rfl) ?_
  refine X.run okK_3 [] 60 ?_
  refine X.sld 2 hi (dcIa okK_3 rfl) ?_
  refine X.run okK_3 [] 60 ?_
  refine At.lW [vR 0 0, vI (xs (4 * i + 1)), vI (xs (4 * i + 2)), vR 65 0] X.1 (w_shift K hK (xs (4 * i + 1)) (xs (4 * i + 2))  o) kL_shift ln_L_192 X.fit (dcS okK_3 rfl) fun U C hU => ?_
  refine X.run okK_3 [] 60 ?_
  refine X.sld 1 hi (dcIa okK_3 rfl) ?_
  refine X.run okK_3 [] 60 ?_
  refine X.sld 2 hi (dcIa okK_3 rfl) ?_
  refine X.run okK_3 [] 60 ?_
  refine At.lE [vI (xs (4 * i + 1)), vI (xs (4 * i + 2))] [] X.1 N kX11_shift ln_L_194 X.fit (dcV okK_3 rfl) fun m' P => ?_
  obtain ⟨hE, hz⟩ := ch_fin (f := (fShf (kS K) (xs (4 * i + 1)) (xs (4 * i + 2)))) h (fun q => ⟨gS.eK (by omega) (xs (4 * i + 1)) (xs (4 * i + 2)) 0 3 (by decide) q, (sp.car (xs (4 * i + 1)) (xs (4 * i + 2))).1⟩) (fun q => by rw [q]; rfl) H0 P hU C
  refine X.run okK_3 [] 60 ?_
  refine At.lI [] [] X.1 (n_thrown _) kX11_thrown ln_L_182 X.fit (dcV okK_3 rfl) ?_
  refine X.run okK_3 [(3217, [0, 1, 2, 3, 4, 5])] 60 ?_
  exact tail_i (At.wid (kk_s i) (nn_7 i) (nx _ _ _ _ hE)) hz (e2_of (fun q => H0 (thr_n (by decide) q)) (fun q => if_pos (by rw [q]; rfl)))
theorem lc_4 {γ : CX} {σ : Nat → Nat → Nat} {b L i : Nat} {xs : Nat → Int32} (X : LX γ b L xs) (hi : 4 * i + 4 ≤ L) {K : KS'} {m : MS} {o : Nat → Int64} {d : Nat → UInt64} (h : EQ (8 * i) K m) (nx : NX γ σ b i) : At γ σ (1000 + 12 * i) (100000 + 2000 * i) 576 (lsL b i) [] (LH K m o d) := by
  have hL := X.2.2.2.2.2.2
  have hK := h.1.1
  have gS := h.1.2.1
  obtain ⟨T, sp, rs⟩ := h.2.1
  have hT := sp.wf hK.1
  have vT := sp.vs gS.1
  have mT := sp.mp gS.2.2.1
  obtain ⟨a', b', e9, -, -⟩ := id sp
  subst e9
  have H0 : thr (fRat (kS K) (xs (4 * i + 1)) (xs (4 * i + 2))) 1 2 0 0 = 0 → (fRat (kS K) (xs (4 * i + 1)) (xs (4 * i + 2))) = 0 := by
    rcases fs_fRat (kS K) (xs (4 * i + 1)) (xs (4 * i + 2)) with h9 | h9 | h9 <;> (rw [h9]; decide)
  have N := n_setLeak rs hT h.2.2.1.2.2.2.1 h.2.2.1.2.1 (xs (4 * i + 1)) (xs (4 * i + 2))
  rw [show fRat (stSt (kS K) (gsc (kS K), a', b', glc (kS K), glg (kS K))) (xs (4 * i + 1)) (xs (4 * i + 2)) = _ from (sp.rat (xs (4 * i + 1)) (xs (4 * i + 2))).2.2] at N
  refine X.run okK_4 [] 60 ?_
  refine X.sld 1 hi (dcIa okK_4 rfl) ?_
  refine X.run okK_4 [] 60 ?_
  refine X.sld 2 hi (dcIa okK_4 rfl) ?_
  refine X.run okK_4 [] 60 ?_
  refine At.lW [vR 0 0, vI (xs (4 * i + 1)), vI (xs (4 * i + 2)), vR 65 0] X.1 (w_setLeak K hK (xs (4 * i + 1)) (xs (4 * i + 2))  o) kL_setLeak ln_L_195 X.fit (dcS okK_4 rfl) fun U C hU => ?_
  refine X.run okK_4 [] 60 ?_
  refine X.sld 1 hi (dcIa okK_4 rfl) ?_
  refine X.run okK_4 [] 60 ?_
  refine X.sld 2 hi (dcIa okK_4 rfl) ?_
  refine X.run okK_4 [] 60 ?_
  refine At.lE [vI (xs (4 * i + 1)), vI (xs (4 * i + 2))] [] X.1 N kX11_setLeak ln_L_197 X.fit (dcV okK_4 rfl) fun m' P => ?_
  obtain ⟨hE, hz⟩ := ch_fin (f := (fRat (kS K) (xs (4 * i + 1)) (xs (4 * i + 2)))) h (fun q => ⟨gS.eK (by omega) (xs (4 * i + 1)) (xs (4 * i + 2)) 0 4 (by decide) q, (sp.rat (xs (4 * i + 1)) (xs (4 * i + 2))).1⟩) (fun q => by rw [q]; rfl) H0 P hU C
  refine X.run okK_4 [] 60 ?_
  refine At.lI [] [] X.1 (n_thrown _) kX11_thrown ln_L_182 X.fit (dcV okK_4 rfl) ?_
  refine X.run okK_4 [(3217, [0, 1, 2, 3, 4, 5])] 60 ?_
  exact tail_i (At.wid (kk_s i) (nn_7 i) (nx _ _ _ _ hE)) hz (e2_of (fun q => H0 (thr_n (by decide) q)) (fun q => if_pos (by rw [q]; rfl)))
theorem lc_5 {γ : CX} {σ : Nat → Nat → Nat} {b L i : Nat} {xs : Nat → Int32} (X : LX γ b L xs) (hi : 4 * i + 4 ≤ L) {K : KS'} {m : MS} {o : Nat → Int64} {d : Nat → UInt64} (h : EQ (8 * i) K m) (nx : NX γ σ b i) : At γ σ (1000 + 12 * i) (100000 + 2000 * i) 644 (lsL b i) [] (LH K m o d) := by
  have hL := X.2.2.2.2.2.2
  have hK := h.1.1
  have gS := h.1.2.1
  obtain ⟨T, sp, rs⟩ := h.2.1
  have hT := sp.wf hK.1
  have vT := sp.vs gS.1
  have mT := sp.mp gS.2.2.1
  obtain ⟨a', b', e9, -, -⟩ := id sp
  subst e9
  have H0 : thr (fRat (kS K) (xs (4 * i + 1)) (xs (4 * i + 2))) 1 2 0 0 = 0 → (fRat (kS K) (xs (4 * i + 1)) (xs (4 * i + 2))) = 0 := by
    rcases fs_fRat (kS K) (xs (4 * i + 1)) (xs (4 * i + 2)) with h9 | h9 | h9 <;> (rw [h9]; decide)
  have N := n_setPump rs hT h.2.2.1.2.2.2.1 h.2.2.1.2.1 (xs (4 * i + 1)) (xs (4 * i + 2))
  rw [show fRat (stSt (kS K) (gsc (kS K), a', b', glc (kS K), glg (kS K))) (xs (4 * i + 1)) (xs (4 * i + 2)) = _ from (sp.rat (xs (4 * i + 1)) (xs (4 * i + 2))).2.2] at N
  refine X.run okK_5 [] 60 ?_
  refine X.sld 1 hi (dcIa okK_5 rfl) ?_
  refine X.run okK_5 [] 60 ?_
  refine X.sld 2 hi (dcIa okK_5 rfl) ?_
  refine X.run okK_5 [] 60 ?_
  refine At.lW [vR 0 0, vI (xs (4 * i + 1)), vI (xs (4 * i + 2)), vR 65 0] X.1 (w_setPump K hK (xs (4 * i + 1)) (xs (4 * i + 2))  o) kL_setPump ln_L_198 X.fit (dcS okK_5 rfl) fun U C hU => ?_
  refine X.run okK_5 [] 60 ?_
  refine X.sld 1 hi (dcIa okK_5 rfl) ?_
  refine X.run okK_5 [] 60 ?_
  refine X.sld 2 hi (dcIa okK_5 rfl) ?_
  refine X.run okK_5 [] 60 ?_
  refine At.lE [vI (xs (4 * i + 1)), vI (xs (4 * i + 2))] [] X.1 N kX11_setPump ln_L_200 X.fit (dcV okK_5 rfl) fun m' P => ?_
  obtain ⟨hE, hz⟩ := ch_fin (f := (fRat (kS K) (xs (4 * i + 1)) (xs (4 * i + 2)))) h (fun q => ⟨gS.eK (by omega) (xs (4 * i + 1)) (xs (4 * i + 2)) 0 5 (by decide) q, (sp.rat (xs (4 * i + 1)) (xs (4 * i + 2))).2.1⟩) (fun q => by rw [q]; rfl) H0 P hU C
  refine X.run okK_5 [] 60 ?_
  refine At.lI [] [] X.1 (n_thrown _) kX11_thrown ln_L_182 X.fit (dcV okK_5 rfl) ?_
  refine X.run okK_5 [(3217, [0, 1, 2, 3, 4, 5])] 60 ?_
  exact tail_i (At.wid (kk_s i) (nn_7 i) (nx _ _ _ _ hE)) hz (e2_of (fun q => H0 (thr_n (by decide) q)) (fun q => if_pos (by rw [q]; rfl)))
theorem lc_6 {γ : CX} {σ : Nat → Nat → Nat} {b L i : Nat} {xs : Nat → Int32} (X : LX γ b L xs) (hi : 4 * i + 4 ≤ L) {K : KS'} {m : MS} {o : Nat → Int64} {d : Nat → UInt64} (h : EQ (8 * i) K m) (nx : NX γ σ b i) : At γ σ (1000 + 12 * i) (100000 + 2000 * i) 712 (lsL b i) [] (LH K m o d) := by
  have hL := X.2.2.2.2.2.2
  have hK := h.1.1
  have gS := h.1.2.1
  obtain ⟨T, sp, rs⟩ := h.2.1
  have hT := sp.wf hK.1
  have vT := sp.vs gS.1
  have mT := sp.mp gS.2.2.1
  obtain ⟨a', b', e9, -, -⟩ := id sp
  subst e9
  have H0 : thr (fMov (kS K) (xs (4 * i + 1)) (xs (4 * i + 2)) (xs (4 * i + 3))) 1 2 3 0 = 0 → (fMov (kS K) (xs (4 * i + 1)) (xs (4 * i + 2)) (xs (4 * i + 3))) = 0 := by
    rcases fs_fMov (kS K) (xs (4 * i + 1)) (xs (4 * i + 2)) (xs (4 * i + 3)) with h9 | h9 | h9 | h9 <;> (rw [h9]; decide)
  have N := n_transfer rs hT h.2.2.1.2.2.2.1 h.2.2.1.2.1 (xs (4 * i + 1)) (xs (4 * i + 2)) (xs (4 * i + 3))
  rw [show fMov (stSt (kS K) (gsc (kS K), a', b', glc (kS K), glg (kS K))) (xs (4 * i + 1)) (xs (4 * i + 2)) (xs (4 * i + 3)) = _ from (sp.mov (xs (4 * i + 1)) (xs (4 * i + 2)) (xs (4 * i + 3))).2] at N
  refine X.run okK_6 [] 60 ?_
  refine X.sld 1 hi (dcIa okK_6 rfl) ?_
  refine X.run okK_6 [] 60 ?_
  refine X.sld 2 hi (dcIa okK_6 rfl) ?_
  refine X.run okK_6 [] 60 ?_
  refine X.sld 3 hi (dcIa okK_6 rfl) ?_
  refine X.run okK_6 [] 60 ?_
  refine At.lW [vR 0 0, vI (xs (4 * i + 1)), vI (xs (4 * i + 2)), vI (xs (4 * i + 3)), vR 65 0] X.1 (w_transfer K hK (xs (4 * i + 1)) (xs (4 * i + 2)) (xs (4 * i + 3))  o) kL_transfer ln_L_201 X.fit (dcS okK_6 rfl) fun U C hU => ?_
  refine X.run okK_6 [] 60 ?_
  refine X.sld 1 hi (dcIa okK_6 rfl) ?_
  refine X.run okK_6 [] 60 ?_
  refine X.sld 2 hi (dcIa okK_6 rfl) ?_
  refine X.run okK_6 [] 60 ?_
  refine X.sld 3 hi (dcIa okK_6 rfl) ?_
  refine X.run okK_6 [] 60 ?_
  refine At.lE [vI (xs (4 * i + 1)), vI (xs (4 * i + 2)), vI (xs (4 * i + 3))] [] X.1 N kX11_transfer ln_L_204 X.fit (dcV okK_6 rfl) fun m' P => ?_
  obtain ⟨hE, hz⟩ := ch_fin (f := (fMov (kS K) (xs (4 * i + 1)) (xs (4 * i + 2)) (xs (4 * i + 3)))) h (fun q => ⟨gS.eK (by omega) (xs (4 * i + 1)) (xs (4 * i + 2)) (xs (4 * i + 3)) 6 (by decide) q, (sp.mov (xs (4 * i + 1)) (xs (4 * i + 2)) (xs (4 * i + 3))).1⟩) (fun q => by rw [q]; rfl) H0 P hU C
  refine X.run okK_6 [] 60 ?_
  refine At.lI [] [] X.1 (n_thrown _) kX11_thrown ln_L_182 X.fit (dcV okK_6 rfl) ?_
  refine X.run okK_6 [(3217, [0, 1, 2, 3, 4, 5])] 60 ?_
  exact tail_i (At.wid (kk_s i) (nn_7 i) (nx _ _ _ _ hE)) hz (e2_of (fun q => H0 (thr_n (by decide) q)) (fun q => if_pos (by rw [q]; rfl)))
theorem lc_7 {γ : CX} {σ : Nat → Nat → Nat} {b L i : Nat} {xs : Nat → Int32} (X : LX γ b L xs) (hi : 4 * i + 4 ≤ L) {K : KS'} {m : MS} {o : Nat → Int64} {d : Nat → UInt64} (h : EQ (8 * i) K m) (nx : NX γ σ b i) : At γ σ (1000 + 12 * i) (100000 + 2000 * i) 792 (lsL b i) [] (LH K m o d) := by
  have hL := X.2.2.2.2.2.2
  have hK := h.1.1
  have gS := h.1.2.1
  obtain ⟨T, sp, rs⟩ := h.2.1
  have hT := sp.wf hK.1
  have vT := sp.vs gS.1
  have mT := sp.mp gS.2.2.1
  obtain ⟨a', b', e9, -, -⟩ := id sp
  subst e9
  have H0 : thr (fBal (kS K) (xs (4 * i + 1)) (kC K)) 0 1 2 0 = 0 → (fBal (kS K) (xs (4 * i + 1)) (kC K)) = 0 := by
    rcases fs_fBal (kS K) (xs (4 * i + 1)) (kC K) with h9 | h9 | h9 <;> (rw [h9]; decide)
  have N := n_balance rs hT h.2.2.1.2.2.2.1 h.2.2.1.2.1 (xs (4 * i + 1)) (kC K)
  rw [show fBal (stSt (kS K) (gsc (kS K), a', b', glc (kS K), glg (kS K))) (xs (4 * i + 1)) (kC K) = _ from (sp.bal (xs (4 * i + 1)) (kC K)).2] at N
  refine X.run okK_7 [] 60 ?_
  refine X.sld 1 hi (dcIa okK_7 rfl) ?_
  refine X.run okK_7 [] 60 ?_
  refine At.lW [vR 0 0, vI (xs (4 * i + 1)), vR 65 0] X.1 (w_balance K hK (xs (4 * i + 1))  o) kL_balance ln_L_205 X.fit (dcS okK_7 rfl) fun U C hU => ?_
  refine X.run okK_7 [] 60 ?_
  refine X.sld 1 hi (dcIa okK_7 rfl) ?_
  refine X.run okK_7 [] 60 ?_
  refine At.lE [vI (xs (4 * i + 1))] [] X.1 N kX11_balance ln_L_207 X.fit (dcV okK_7 rfl) fun m' P => ?_
  obtain ⟨hE, hz⟩ := ch_fin (f := (fBal (kS K) (xs (4 * i + 1)) (kC K))) h (fun q => ⟨gS.bal q, (sp.bal (xs (4 * i + 1)) (kC K)).1⟩) (fun q => by rw [q]; rfl) H0 P hU C
  refine X.run okK_7 [] 60 ?_
  refine At.lI [] [] X.1 (n_thrown _) kX11_thrown ln_L_182 X.fit (dcV okK_7 rfl) ?_
  refine X.run okK_7 [(3217, [0, 1, 2, 3, 4, 5])] 60 ?_
  exact tail_i (At.wid (kk_s i) (nn_7 i) (nx _ _ _ _ hE)) hz (e2_of (fun q => H0 (thr_n (by decide) q)) (fun q => if_pos (by rw [q]; rfl)))
