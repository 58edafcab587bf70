/-! ===== faultOf, carryOut ===== -/
theorem fl_483 : Cond.fieldLink RX10 481 RX0 "$SwitchMap$BallastControl$Keyword" "[I" ∈ GT := mT 1546 (by decide +kernel) rfl
def fK (o : Nat) (S : SH) (a b c : Int32) : Nat := match o with
  | 0 => fAdd S a b | 1 => fLoad S a b | 2 => fUnl S a | 3 => fShf S a b | 4 => fRat S a b | 5 => fRat S a b | 6 => fMov S a b c | 7 => fPow a | 8 => fSch S a b | _ => fPas S a
def eK (o : Nat) (S : SH) (a b c : Int32) : SH := match o with
  | 0 => eAdd S a b | 1 => ePut S a b | 2 => eRem S a | 3 => eCar S a b | 4 => eLk S a b | 5 => eGu S a b | 6 => eMov S a b c | 7 => ePow S a | 8 => eSch S a b | _ => ePas S a
theorem WF_eAdd {S : SH} (h : WF S) {x y : Int32} (hf : gc S < 8) : WF (eAdd S x y) := ⟨hf, h.2.1, h.2.2.1, h.2.2.2.1, h.2.2.2.2.1, fun k hk => by
  obtain ⟨j, hj, e⟩ := h.2.2.2.2.2 k hk
  exact ⟨j, Nat.lt_succ_of_lt hj, e⟩⟩
theorem hsB_in {S : SH} (h : WF S) {x : Int32} (hb : hsB (gc S) x = true) : ∃ j, j < gc S ∧ x = nI j := hs_of (Nat.le_trans h.1 (by decide)) hb
theorem WF_ePut {S : SH} (h : WF S) {x y : Int32} (hb : hsB (gc S) x = true) (hp : gp S < 16) : WF (ePut S x y) := ⟨h.1, hp, h.2.2.1, h.2.2.2.1, h.2.2.2.2.1, fun k hk => by
  show ∃ j, j < gc S ∧ upd (gpl S) (gp S) x k = nI j
  by_cases e : k = gp S
  · rw [e, upd_eq]; exact hsB_in h hb
  · rw [upd_ne _ _ e]
    have hk : k < gp S + 1 := hk
    exact h.2.2.2.2.2 k (by omega)⟩
theorem WF_eRem {S : SH} (h : WF S) {x : Int32} : WF (eRem S x) := ⟨h.1, Nat.le_trans (Nat.sub_le _ _) h.2.1, h.2.2.1, h.2.2.2.1, h.2.2.2.2.1, fun k hk => by
  show ∃ j, j < gc S ∧ shl (gpl S) (pq S x) (gp S - 1) k = nI j
  have hk : k < gp S - 1 := hk
  unfold shl
  split
  · exact h.2.2.2.2.2 (k + 1) (by omega)
  · exact h.2.2.2.2.2 k (by omega)⟩
theorem WF_eCar {S : SH} (h : WF S) {x y : Int32} (hb : hsB (gc S) y = true) : WF (eCar S x y) := ⟨h.1, h.2.1, h.2.2.1, h.2.2.2.1, h.2.2.2.2.1, fun k hk => by
  show ∃ j, j < gc S ∧ upd (gpl S) (pq S x) y k = nI j
  by_cases e : k = pq S x
  · rw [e, upd_eq]; exact hsB_in h hb
  · rw [upd_ne _ _ e]
    exact h.2.2.2.2.2 k hk⟩
theorem WF_eSch {S : SH} (h : WF S) {x y : Int32} (hf : gsc S < 6) : WF (eSch S x y) := ⟨h.1, h.2.1, hf, h.2.2.2.1, h.2.2.2.2.1, h.2.2.2.2.2⟩
theorem WF_eCan {S : SH} (h : WF S) {x : Int32} : WF (eCan S x) := ⟨h.1, h.2.1, Nat.le_trans (Nat.sub_le _ _) h.2.2.1, h.2.2.2.1, h.2.2.2.2.1, h.2.2.2.2.2⟩
theorem WF_ePas {S : SH} (h : WF S) {x : Int32} : WF (ePas S x) := WF_tks _ h
theorem ten {P : Nat → Prop} (h0 : P 0) (h1 : P 1) (h2 : P 2) (h3 : P 3) (h4 : P 4) (h5 : P 5) (h6 : P 6) (h7 : P 7) (h8 : P 8) (h9 : P 9) : ∀ o, o < 10 → P o := by
  intro o ho
  have : o = 0 ∨ o = 1 ∨ o = 2 ∨ o = 3 ∨ o = 4 ∨ o = 5 ∨ o = 6 ∨ o = 7 ∨ o = 8 ∨ o = 9 := by omega
  rcases this with rfl | rfl | rfl | rfl | rfl | rfl | rfl | rfl | rfl | rfl <;> assumption
theorem WF_eK {S : SH} (h : WF S) (a b c : Int32) : ∀ o, o < 10 → fK o S a b c = 0 → WF (eK o S a b c) := by
  refine ten ?_ ?_ ?_ ?_ ?_ ?_ ?_ ?_ ?_ ?_
  · exact fun hf => WF_eAdd h ((fAdd_i S a b).2 hf)
  · exact fun hf => WF_ePut h ((fLoad_i S a b).2 hf).1 ((fLoad_i S a b).2 hf).2
  · exact fun hf => WF_eRem h
  · exact fun hf => WF_eCar h ((fShf_i S a b).2 hf).2
  · exact fun hf => h
  · exact fun hf => h
  · exact fun hf => h
  · exact fun hf => h
  · exact fun hf => WF_eSch h ((fSch_i S a b).2 hf)
  · exact fun hf => WF_ePas h
theorem fK_lt (S : SH) (a b c : Int32) : ∀ o, o < 10 → fK o S a b c < 5 :=
  ten (fAdd_i S a b).1 (fLoad_i S a b).1 (fUnl_i S a).1 (fShf_i S a b).1 (fRat_i S a b).1 (fRat_i S a b).1 (fMov_i S a b c).1 (fPow_i a) (fSch_i S a b).1 (fPas_i S a).1
theorem s_faultOf (K : KS') (hK : WK K) (o : Nat) (ho : o < 10) (a b c : Int32) : Sp 7 0 0 mX10_faultOf [vR 0 0, vK (5 + o), vI a, vI b, vI c] (world K) (PoF 0 (some (vK (fK o (kS K) a b c))) (world K)) := by
  refine Sp.of' false (fun h => by cases h) (by decide) rfl rfl (Nat.le_of_ble_eq_true rfl) fun γ σ B => ?_
  refine At.getZ B.1 (sx B.1).1.2.2.2.2.2.1.1 (v := vK 35) rfl fl_483 (dcG okX10_faultOf rfl) ?_
  refine B.run okX10_faultOf [] 60 ?_
  refine At.ord [vK 35] B.1 ho (B.fit (by decide) (by decide) (by decide)) (dcV okX10_faultOf rfl) ?_
  refine At.tiald B.1 (sx B.1).1.2.2.2.2.2.1.2 (x := vK 35) rfl (vp_in_nI ho (by decide)) (v := vI (swI o)) (by rw [nI_clamp (by omega)]; rfl) (dc1L okX10_faultOf rfl (by simp [L1])) ?_
  show At γ σ 0 0 8 [(0, vR 0 0), (1, vK (5 + o)), (2, vI a), (3, vI b), (4, vI c)] [vI (swI o)] (world K)
  obtain ⟨len, dsw⟩ := dcSw okX10_faultOf (pc := 8) (df := 132) (lo := 1) (hi := 9) (offs := #[52, 62, 72, 81, 91, 91, 101, 113, 122]) rfl
  have this : o = 0 ∨ o = 1 ∨ o = 2 ∨ o = 3 ∨ o = 4 ∨ o = 5 ∨ o = 6 ∨ o = 7 ∨ o = 8 ∨ o = 9 := by omega
  rcases this with rfl | rfl | rfl | rfl | rfl | rfl | rfl | rfl | rfl | rfl
  · refine At.swIn B.1 dsw (x := 1) (by decide) (by decide) (off := 52) (by decide) (t := 60) (by decide) ?_
    refine B.run okX10_faultOf [] 60 ?_
    refine At.wV (fe_S K (kS K)) [vI a, vI b] [] B.1 (s_fAdd (kS K) hK.1 a b) kX8_faultOfAdding ln_X10_53 (B.fit (by decide) (by decide) (by decide)) (dcV okX10_faultOf rfl) ?_
    refine B.run okX10_faultOf [] 60 ?_
    exact rCF rfl rfl
  · refine At.swIn B.1 dsw (x := 2) (by decide) (by decide) (off := 62) (by decide) (t := 70) (by decide) ?_
    refine B.run okX10_faultOf [] 60 ?_
    refine At.wV (fe_S K (kS K)) [vI a, vI b] [] B.1 (s_fLoad (kS K) hK.1 a b) kX8_faultOfLoading ln_X10_75 (B.fit (by decide) (by decide) (by decide)) (dcV okX10_faultOf rfl) ?_
    refine B.run okX10_faultOf [] 60 ?_
    exact rCF rfl rfl
  · refine At.swIn B.1 dsw (x := 3) (by decide) (by decide) (off := 72) (by decide) (t := 80) (by decide) ?_
    refine B.run okX10_faultOf [] 60 ?_
    refine At.wV (fe_S K (kS K)) [vI a] [] B.1 (s_fUnl (kS K) hK.1 a) kX8_faultOfUnloading ln_X10_87 (B.fit (by decide) (by decide) (by decide)) (dcV okX10_faultOf rfl) ?_
    refine B.run okX10_faultOf [] 60 ?_
    exact rCF rfl rfl
  · refine At.swIn B.1 dsw (x := 4) (by decide) (by decide) (off := 81) (by decide) (t := 89) (by decide) ?_
    refine B.run okX10_faultOf [] 60 ?_
    refine At.wV (fe_S K (kS K)) [vI a, vI b] [] B.1 (s_fShf (kS K) hK.1 a b) kX8_faultOfShifting ln_X10_95 (B.fit (by decide) (by decide) (by decide)) (dcV okX10_faultOf rfl) ?_
    refine B.run okX10_faultOf [] 60 ?_
    exact rCF rfl rfl
  · refine At.swIn B.1 dsw (x := 5) (by decide) (by decide) (off := 91) (by decide) (t := 99) (by decide) ?_
    refine B.run okX10_faultOf [] 60 ?_
    refine At.wV (fe_S K (kS K)) [vI a, vI b] [] B.1 (s_fRat (kS K) hK.1 a b) kX8_faultOfRate ln_X10_101 (B.fit (by decide) (by decide) (by decide)) (dcV okX10_faultOf rfl) ?_
    refine B.run okX10_faultOf [] 60 ?_
    exact rCF rfl rfl
  · refine At.swIn B.1 dsw (x := 6) (by decide) (by decide) (off := 91) (by decide) (t := 99) (by decide) ?_
    refine B.run okX10_faultOf [] 60 ?_
    refine At.wV (fe_S K (kS K)) [vI a, vI b] [] B.1 (s_fRat (kS K) hK.1 a b) kX8_faultOfRate ln_X10_101 (B.fit (by decide) (by decide) (by decide)) (dcV okX10_faultOf rfl) ?_
    refine B.run okX10_faultOf [] 60 ?_
    exact rCF rfl rfl
  · refine At.swIn B.1 dsw (x := 7) (by decide) (by decide) (off := 101) (by decide) (t := 109) (by decide) ?_
    refine B.run okX10_faultOf [] 60 ?_
    refine At.wV (fe_S K (kS K)) [vI a, vI b, vI c] [] B.1 (s_fMov (kS K) hK.1 a b c) kX8_faultOfMoving ln_X10_111 (B.fit (by decide) (by decide) (by decide)) (dcV okX10_faultOf rfl) ?_
    refine B.run okX10_faultOf [] 60 ?_
    exact rCF rfl rfl
  · refine At.swIn B.1 dsw (x := 8) (by decide) (by decide) (off := 113) (by decide) (t := 121) (by decide) ?_
    refine B.run okX10_faultOf [] 60 ?_
    refine At.wV (fe_S K (kS K)) [vI a] [] B.1 (s_fPow (kS K) a) kX8_faultOfPower ln_X10_148 (B.fit (by decide) (by decide) (by decide)) (dcV okX10_faultOf rfl) ?_
    refine B.run okX10_faultOf [] 60 ?_
    exact rCF rfl rfl
  · refine At.swIn B.1 dsw (x := 9) (by decide) (by decide) (off := 122) (by decide) (t := 130) (by decide) ?_
    refine B.run okX10_faultOf [] 60 ?_
    refine At.wV (fe_S K (kS K)) [vI a, vI b] [] B.1 (s_fSch (kS K) hK.1 a b) kX8_faultOfScheduling ln_X10_166 (B.fit (by decide) (by decide) (by decide)) (dcV okX10_faultOf rfl) ?_
    refine B.run okX10_faultOf [] 60 ?_
    exact rCF rfl rfl
  · refine At.swOut B.1 dsw (x := 0) (by decide) (t := 140) (by decide) ?_
    refine B.run okX10_faultOf [] 60 ?_
    refine At.wV (fe_S K (kS K)) [vI a] [] B.1 (s_fPas (kS K) a) kX8_faultOfPassing ln_X10_187 (B.fit (by decide) (by decide) (by decide)) (dcV okX10_faultOf rfl) ?_
    refine B.run okX10_faultOf [] 60 ?_
    exact rCF rfl rfl
theorem s_carryOut (K : KS') (hK : WK K) (o : Nat) (ho : o < 10) (a b c : Int32) (hf : fK o (kS K) a b c = 0) : Sp 7 0 0 mX10_carryOut [vR 0 0, vK (5 + o), vI a, vI b, vI c] (world K) (PoF 0 none (world (stS K (eK o (kS K) a b c)))) := by
  refine Sp.of' false (fun h => by cases h) (by decide) rfl rfl (Nat.le_of_ble_eq_true rfl) fun γ σ B => ?_
  refine At.getZ B.1 (sx B.1).1.2.2.2.2.2.1.1 (v := vK 35) rfl fl_483 (dcG okX10_carryOut rfl) ?_
  refine B.run okX10_carryOut [] 60 ?_
  refine At.ord [vK 35] B.1 ho (B.fit (by decide) (by decide) (by decide)) (dcV okX10_carryOut rfl) ?_
  refine At.tiald B.1 (sx B.1).1.2.2.2.2.2.1.2 (x := vK 35) rfl (vp_in_nI ho (by decide)) (v := vI (swI o)) (by rw [nI_clamp (by omega)]; rfl) (dc1L okX10_carryOut rfl (by simp [L1])) ?_
  show At γ σ 0 0 8 [(0, vR 0 0), (1, vK (5 + o)), (2, vI a), (3, vI b), (4, vI c)] [vI (swI o)] (world K)
  obtain ⟨len, dsw⟩ := dcSw okX10_carryOut (pc := 8) (df := 190) (lo := 1) (hi := 9) (offs := #[52, 68, 84, 99, 115, 131, 147, 164, 175]) rfl
  have this : o = 0 ∨ o = 1 ∨ o = 2 ∨ o = 3 ∨ o = 4 ∨ o = 5 ∨ o = 6 ∨ o = 7 ∨ o = 8 ∨ o = 9 := by omega
  rcases this with rfl | rfl | rfl | rfl | rfl | rfl | rfl | rfl | rfl | rfl
  · refine At.swIn B.1 dsw (x := 1) (by decide) (by decide) (off := 52) (by decide) (t := 60) (by decide) ?_
    refine B.run okX10_carryOut [] 60 ?_
    refine At.wV (fe_hS K (eAdd (kS K) a b).1) [vI a, vI b] [] B.1 (s_add (gc (kS K)) ((fAdd_i (kS K) a b).2 hf) _ _ _ _ _ _ a b) kX5_add ln_X10_69 (B.fit (by decide) (by decide) (by decide)) (dcV okX10_carryOut rfl) ?_
    refine B.run okX10_carryOut [] 60 ?_
    exact rCN rfl
  · refine At.swIn B.1 dsw (x := 2) (by decide) (by decide) (off := 68) (by decide) (t := 76) (by decide) ?_
    refine B.run okX10_carryOut [] 60 ?_
    refine At.wV (fe_gS K (ePut (kS K) a b).2.1) [vI a, vI b] [] B.1 (s_put (gp (kS K)) ((fLoad_i (kS K) a b).2 hf).2 _ _ _ _ a b) kX1_put ln_X10_82 (B.fit (by decide) (by decide) (by decide)) (dcV okX10_carryOut rfl) ?_
    refine B.run okX10_carryOut [] 60 ?_
    exact rCN rfl
  · refine At.swIn B.1 dsw (x := 3) (by decide) (by decide) (off := 84) (by decide) (t := 92) (by decide) ?_
    refine B.run okX10_carryOut [] 60 ?_
    refine At.wV (fe_gS K (eRem (kS K) a).2.1) [vI a] [] B.1 (s_cremove (gp (kS K)) hK.1.2.1 _ _ _ _ a ((fUnl_i (kS K) a).2 hf)) kX1_remove ln_X10_91 (B.fit (by decide) (by decide) (by decide)) (dcV okX10_carryOut rfl) ?_
    refine B.run okX10_carryOut [] 60 ?_
    exact rCN rfl
  · refine At.swIn B.1 dsw (x := 4) (by decide) (by decide) (off := 99) (by decide) (t := 107) (by decide) ?_
    refine B.run okX10_carryOut [] 60 ?_
    refine At.wV (fe_gS K (eCar (kS K) a b).2.1) [vI a, vI b] [] B.1 (s_carry (gp (kS K)) hK.1.2.1 _ _ _ _ a b ((fShf_i (kS K) a b).2 hf).1) kX1_carry ln_X10_98 (B.fit (by decide) (by decide) (by decide)) (dcV okX10_carryOut rfl) ?_
    refine B.run okX10_carryOut [] 60 ?_
    exact rCN rfl
  · refine At.swIn B.1 dsw (x := 5) (by decide) (by decide) (off := 115) (by decide) (t := 123) (by decide) ?_
    have hi : vp_in a 8 := by
      obtain ⟨j, hj, rfl⟩ := hsB_in hK.1 ((fRat_i (kS K) a b).2 hf)
      exact vp_in_nI (Nat.lt_of_lt_of_le hj hK.1.1) (by decide)
    refine B.run okX10_carryOut [] 60 ?_
    exact ⟨hi, rCN rfl⟩
  · refine At.swIn B.1 dsw (x := 6) (by decide) (by decide) (off := 131) (by decide) (t := 139) (by decide) ?_
    have hi : vp_in a 8 := by
      obtain ⟨j, hj, rfl⟩ := hsB_in hK.1 ((fRat_i (kS K) a b).2 hf)
      exact vp_in_nI (Nat.lt_of_lt_of_le hj hK.1.1) (by decide)
    refine B.run okX10_carryOut [] 60 ?_
    exact ⟨hi, rCN rfl⟩
  · refine At.swIn B.1 dsw (x := 7) (by decide) (by decide) (off := 147) (by decide) (t := 155) (by decide) ?_
    have h8 := (fMov_i (kS K) a b c).2 hf
    have hc8 := hK.1.1
    obtain ⟨s, hs, rfl⟩ := hsB_in hK.1 h8.1
    obtain ⟨u, hu, rfl⟩ := hsB_in hK.1 h8.2
    have em : eK 6 (kS K) (nI s) (nI u) c = eMovN (kS K) s u c := eMov_n (by omega) (by omega)
    refine B.run okX10_carryOut [] 60 ?_
    refine At.wV (fe_hS K (eMovN (kS K) s u c).1) [vI (nI s), vI (nI u), vI c] [] B.1 (s_move (nI (gc (kS K))) _ _ _ _ _ _ s u (by omega) (by omega) c) kX5_move ln_X10_115 (B.fit (by decide) (by decide) (by decide)) (dcV okX10_carryOut rfl) ?_
    refine B.run okX10_carryOut [] 60 ?_
    exact rCN rfl (by rw [em]; rfl)
  · refine At.swIn B.1 dsw (x := 8) (by decide) (by decide) (off := 164) (by decide) (t := 172) (by decide) ?_
    refine B.run okX10_carryOut [] 60 ?_
    exact ⟨trivial, rCN rfl⟩
  · refine At.swIn B.1 dsw (x := 9) (by decide) (by decide) (off := 175) (by decide) (t := 183) (by decide) ?_
    refine B.run okX10_carryOut [] 60 ?_
    refine At.wV (fe_wS K (eSch (kS K) a b).2.2.1) [vI a, vI b] [] B.1 (s_tadd (gsc (kS K)) ((fSch_i (kS K) a b).2 hf) _ _ _ _ a b) kX9_add ln_X10_173 (B.fit (by decide) (by decide) (by decide)) (dcV okX10_carryOut rfl) ?_
    refine B.run okX10_carryOut [] 60 ?_
    exact rCN rfl
  · refine At.swOut B.1 dsw (x := 0) (by decide) (t := 198) (by decide) ?_
    obtain ⟨N, hN, rfl⟩ := (fPas_i (kS K) a).2 hf
    have eN : eK 9 (kS K) (nI N) b c = tks N (kS K) := by
      show tks (nI N).toNatClampNeg (kS K) = _
      rw [nI_clamp (by omega)]
    refine B.run okX10_carryOut [] 60 ?_
    refine At.wV (fe_S K (tks N (kS K))) [vI (nI N)] [] B.1 (s_letPass (kS K) hK.1 N hN) kX8_letPass ln_X10_190 (B.fit (by decide) (by decide) (by decide)) (dcV okX10_carryOut rfl) ?_
    refine B.run okX10_carryOut [] 60 ?_
    exact rCN rfl (by rw [eN])
