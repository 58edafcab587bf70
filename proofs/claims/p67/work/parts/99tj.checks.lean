/-! ===== the law's turn: its checks ===== -/
theorem y_m_weight {K : KS'} {S : SH} (hK : WK K) (hS : kS K = S) : Sp 12 12 700 mX10_weight [vR 0 0] (world K) (PoC (0) (some (vI (twI S))) (K) (K)) := by
  subst hS
  exact m_weight K hK
theorem y_m_weightByParts {K : KS'} {S : SH} (hK : WK K) (hS : kS K = S) : Sp 12 12 700 mX10_weightByParts [vR 0 0] (world K) (PoC (0) (some (vI (sumI (gw S) (gc S) + sumI (gwt S) (gp S)))) (K) (K)) := by
  subst hS
  exact m_weightByParts K hK
theorem y_m_moment {K : KS'} {S : SH} (hK : WK K) (hS : kS K = S) : Sp 12 12 700 mX10_moment [vR 0 0] (world K) (PoC (0) (some (vI (tmI S))) (K) (K)) := by
  subst hS
  exact m_moment K hK
theorem y_m_momentByParts {K : KS'} {S : SH} (hK : WK K) (hS : kS K = S) : Sp 12 12 700 mX10_momentByParts [vR 0 0] (world K) (PoC (0) (some (vI (mpI S))) (K) (K)) := by
  subst hS
  exact m_momentByParts K hK
theorem y_m_trim {K : KS'} {S : SH} (hK : WK K) (hS : kS K = S) : Sp 12 12 700 mX10_trim [vR 0 0] (world K) (PoC (0) (some (vI (trimI (tmI S) (twI S)))) (K) (K)) := by
  subst hS
  exact m_trim K hK
theorem y_m_stormCount {K : KS'} {S : SH} (hK : WK K) (hS : kS K = S) : Sp 12 12 700 mX10_stormCount [vR 0 0] (world K) (PoC (0) (some (vI (nI (gsc S)))) (K) (K)) := by
  subst hS
  exact m_stormCount K hK
theorem y_m_isAfloat {K : KS'} {S : SH} (hK : WK K) (hS : kS K = S) : Sp 12 12 700 mX10_isAfloat [vR 0 0] (world K) (PoC (0) (some (vI (b2 (decide (gsk S = 0))))) (K) (K)) := by
  subst hS
  exact m_isAfloat K hK
theorem y_m_isConsistent {K : KS'} {S : SH} (hK : WK K) (hS : kS K = S) : Sp 12 12 700 mX10_isConsistent [vR 0 0] (world K) (PoC (0) (some (vI (b2 (csB S)))) (K) (K)) := by
  subst hS
  exact m_isConsistent K hK
theorem y_m_isBalanced {K : KS'} {S : SH} (hK : WK K) (hS : kS K = S) : Sp 12 12 700 mX10_isBalanced [vR 0 0] (world K) (PoC (0) (some (vI (b2 (decide (absI (trimI (tmI S) (twI S)) ≤ glm S))))) (K) (K)) := by
  subst hS
  exact m_isBalanced K hK
theorem y_m_compartmentByLoad {K : KS'} {S : SH} (hK : WK K) (hS : kS K = S) (x : Int32) : Sp 12 12 700 mX10_compartmentByLoad [vR 0 0, vI x] (world K) (PoC (fFst (lAt S x) (gc S)) (some (vI (nI (fst (lAt S x) (gc S))))) (K) (K)) := by
  subst hS
  exact m_compartmentByLoad K hK x
theorem y_m_pumpAt {K : KS'} {S : SH} (hK : WK K) (hS : kS K = S) (x : Int32) : Sp 12 12 700 mX10_pumpAt [vR 0 0, vI x] (world K) (PoC (fFst (pAt S x) (gc S)) (some (vI (nI (fst (pAt S x) (gc S))))) (K) (K)) := by
  subst hS
  exact m_pumpAt K hK x
theorem y_m_meanWater2 {K : KS'} {S : SH} (hK : WK K) (hS : kS K = S) (hne : fMean S = 0 → vf_n64 (FP.ddiv (FP.i2d (sumI (gw S) (gc S))) (FP.i2d (nI (gc S))))) : Sp 12 12 700 mX10_meanWater [vR 0 0] (world K) (PoC (fMean S) (some (vD (FP.ddiv (FP.i2d (sumI (gw S) (gc S))) (FP.i2d (nI (gc S)))))) (K) (K)) := by
  subst hS
  exact m_meanWater2 K hK hne
theorem y_m_fillShare2 {K : KS'} {S : SH} (hK : WK K) (hS : kS K = S) (hne : fMean S = 0 → vf_n32 (FP.fdiv (FP.i2f (sumI (gw S) (gc S))) (FP.i2f (sumI (gcp S) (gc S))))) : Sp 12 12 700 mX10_fillShare [vR 0 0] (world K) (PoC (fMean S) (some (vF (FP.fdiv (FP.i2f (sumI (gw S) (gc S))) (FP.i2f (sumI (gcp S) (gc S)))))) (K) (K)) := by
  subst hS
  exact m_fillShare2 K hK hne
theorem y_w_pumpAt {K : KS'} {S : SH} (hK : WK K) (hS : kS K = S) (x : Int32) : SpH hL_pumpAt 13 12 700 mL_pumpAt [vR 0 0, vI x] (world K) (PoU (fFst (pAt S x) (gc S)) (nI (fst (pAt S x) (gc S))) (K) (K)) := by
  subst hS
  exact w_pumpAt K hK x
theorem y_w_idAt {K : KS'} {S : SH} (hK : WK K) (hS : kS K = S) (x : Int32) : SpH hL_idAt 13 12 700 mL_idAt [vR 0 0, vI x] (world K) (PoU (fIdA S x) (gid S x.toNatClampNeg) (K) (K)) := by
  subst hS
  exact w_idAt K hK x
theorem y_w_heaviestPiece {K : KS'} {S : SH} (hK : WK K) (hS : kS K = S) : SpH hL_heaviestPiece 13 12 700 mL_heaviestPiece [vR 0 0] (world K) (PoU (fHvy S) (gid S (fuN (gwt S) (gp S))) (K) (K)) := by
  subst hS
  exact w_heaviestPiece K hK
theorem y_w_bestSource {K : KS'} {S : SH} (hK : WK K) (hS : kS K = S) (a : Int32) : SpH hL_bestSource 13 12 700 mL_bestSource [vR 0 0, vI a] (world K) (PoU (fBT S a (kC K)) ((bS S a (tmI S) (kC K)).2.1) (K) (K)) := by
  subst hS
  exact w_bestSource K hK a
theorem y_w_bestTarget {K : KS'} {S : SH} (hK : WK K) (hS : kS K = S) (a : Int32) : SpH hL_bestTarget 13 12 700 mL_bestTarget [vR 0 0, vI a] (world K) (PoU (fBT S a (kC K)) ((bS S a (tmI S) (kC K)).2.2.1) (K) (K)) := by
  subst hS
  exact w_bestTarget K hK a
theorem y_w_bestMoment {K : KS'} {S : SH} (hK : WK K) (hS : kS K = S) (a : Int32) : SpH hL_bestMoment 13 12 700 mL_bestMoment [vR 0 0, vI a] (world K) (PoU (fBT S a (kC K)) ((bS S a (tmI S) (kC K)).2.2.2) (K) (K)) := by
  subst hS
  exact w_bestMoment K hK a
theorem y_w_bestShiftPiece {K : KS'} {S : SH} (hK : WK K) (hS : kS K = S) : SpH hL_bestShiftPiece 13 12 700 mL_bestShiftPiece [vR 0 0] (world K) (PoU (fBS S (kC K)) ((bstH S (kC K)).2.1) (K) (K)) := by
  subst hS
  exact w_bestShiftPiece K hK
theorem y_w_bestShiftCompartment {K : KS'} {S : SH} (hK : WK K) (hS : kS K = S) : SpH hL_bestShiftCompartment 13 12 700 mL_bestShiftCompartment [vR 0 0] (world K) (PoU (fBS S (kC K)) ((bstH S (kC K)).2.2.1) (K) (K)) := by
  subst hS
  exact w_bestShiftCompartment K hK
theorem y_w_compartmentByLoad {K : KS'} {S : SH} (hK : WK K) (hS : kS K = S) (x : Int32) : SpH hL_compartmentByLoad 13 12 700 mL_compartmentByLoad [vR 0 0, vI x] (world K) (PoU (fFst (lAt S x) (gc S)) (nI (fst (lAt S x) (gc S))) (K) (K)) := by
  subst hS
  exact w_compartmentByLoad K hK x
theorem y_w_nextStorm {K : KS'} {S : SH} (hK : WK K) (hS : kS K = S) : SpH hL_nextStorm 13 12 700 mL_nextStorm [vR 0 0] (world K) (PoU (fNxt S) (gmi S 0) (K) (K)) := by
  subst hS
  exact w_nextStorm K hK
theorem dcDc {ini : Bool} {o : Nat} {cc : ByteArray} {l : List IE} (h : okL ini o cc l = true) {pc : Nat} (hd : dec_of l pc = some (.dcmp .l)) : decode cc pc = .ok (.dcmp .l, 1) := by
  obtain ⟨e, rfl, e2, h1, -⟩ := okL_dec h hd
  obtain ⟨len, h3, h4⟩ := okD_spec h1
  rw [e2] at h3 h4
  rw [h3, beq_iff_eq.mp h4]
  rfl
theorem dcFc {ini : Bool} {o : Nat} {cc : ByteArray} {l : List IE} (h : okL ini o cc l = true) {pc : Nat} (hd : dec_of l pc = some (.fcmp .l)) : decode cc pc = .ok (.fcmp .l, 1) := by
  obtain ⟨e, rfl, e2, h1, -⟩ := okL_dec h hd
  obtain ⟨len, h3, h4⟩ := okD_spec h1
  rw [e2] at h3 h4
  rw [h3, beq_iff_eq.mp h4]
  rfl
section LXC
variable {γ : CX} {σ : Nat → Nat → Nat} {k n pc ix na ms2 f B : Nat} {ls : List (Nat × AV)} {st rest : List AV} {hh : HH} {M : MR} {K : KS'} {S : SH} {e : AHp} {v : AV} {x : Int32}
/-- a read of the class that may make cells -/
theorem LX.rd (X : LX γ) (hJ : JK B K) (hS : kS K = S) (As rest : List AV) (Sx : Sp 12 12 ms2 M (vR 0 0 :: As) (world K) (PoC f (some v) K K)) (hf0 : f = 0) (Kx : KV M na) (w : Cond.methodLink RL ix (mY M) ∈ GT) (hf : Fit γ k n 12 12 ms2) (dd : decode code pc = .ok (.invokevirtual ix, 3))
    (g : ∀ K', JK B K' → kS K' = S → At γ σ (k + 12) (n + ms2) (pc + 3) ls (v :: rest) (world K' ++ e)) (hcls : (mY M).cls = RX10 := by rfl) (hv : ren R65 v = v := by rfl) (hna : As.length = na := by rfl) (hrw : wsum rest ≤ 8 := by exact Nat.le_of_ble_eq_true rfl) (hst : st = As.reverse ++ vR 0 0 :: rest := by rfl) (ha : As.map (ren R65) = As := by rfl) : At γ σ k n pc ls st (world K ++ e) :=
  At.lC As rest X.1 Sx hf0 Kx w hf dd (fun T C hT => g (scr K T C) (hJ.sc hT C) hS) hcls hv hna hrw hst ha
theorem LX.rd0 (X : LX γ) (hJ : JK B K) (hS : kS K = S) (As rest : List AV) (Sx : Sp 12 12 ms2 M (vR 0 0 :: As) (world K) (PoC f (some v) K K)) (hf0 : f = 0) (Kx : KV M na) (w : Cond.methodLink RL ix (mY M) ∈ GT) (hf : Fit γ k n 12 12 ms2) (dd : decode code pc = .ok (.invokevirtual ix, 3))
    (g : ∀ K', JK B K' → kS K' = S → At γ σ (k + 12) (n + ms2) (pc + 3) ls (v :: rest) (world K')) (hcls : (mY M).cls = RX10 := by rfl) (hv : ren R65 v = v := by rfl) (hna : As.length = na := by rfl) (hrw : wsum rest ≤ 8 := by exact Nat.le_of_ble_eq_true rfl) (hst : st = As.reverse ++ vR 0 0 :: rest := by rfl) (ha : As.map (ren R65) = As := by rfl) : At γ σ k n pc ls st (world K) := by
  have z := LX.rd (e := []) (σ := σ) X hJ hS As rest Sx hf0 Kx w hf dd (fun K' h1 h2 => by rw [List.append_nil]; exact g K' h1 h2) hcls hv hna hrw hst ha
  rw [List.append_nil] at z
  exact z
/-- a wrapper of a read -/
theorem LX.rs (X : LX γ) (hJ : JK B K) (hS : kS K = S) (As rest : List AV) (Sx : SpH hh 13 12 ms2 M As (world K) (PoU f x K K)) (Kx : KSH M hh na) (w : Cond.methodLink RL ix (mY M) ∈ GT) (hf : Fit γ k n 13 12 ms2) (dd : decode code pc = .ok (.invokestatic ix, 3))
    (g : ∀ K', JK B K' → kS K' = S → At γ σ (k + 12) (n + ms2) (pc + 3) ls (vI (if f = 0 then x else cdU f) :: rest) (world K' ++ e)) (hna : As.length = na := by rfl) (hrw : wsum rest ≤ 8 := by exact Nat.le_of_ble_eq_true rfl) (hst : st = (As.map (ren R65)).reverse ++ rest := by rfl) : At γ σ k n pc ls st (world K ++ e) :=
  At.lS As rest X.1 Sx Kx w hf dd (fun T C hT => by rw [show (if f = 0 then K else K) = K from ite_self _]; exact g (scr K T C) (hJ.sc hT C) hS) hna hrw hst
theorem LX.rs0 (X : LX γ) (hJ : JK B K) (hS : kS K = S) (As rest : List AV) (Sx : SpH hh 13 12 ms2 M As (world K) (PoU f x K K)) (Kx : KSH M hh na) (w : Cond.methodLink RL ix (mY M) ∈ GT) (hf : Fit γ k n 13 12 ms2) (dd : decode code pc = .ok (.invokestatic ix, 3))
    (g : ∀ K', JK B K' → kS K' = S → At γ σ (k + 12) (n + ms2) (pc + 3) ls (vI (if f = 0 then x else cdU f) :: rest) (world K')) (hna : As.length = na := by rfl) (hrw : wsum rest ≤ 8 := by exact Nat.le_of_ble_eq_true rfl) (hst : st = (As.map (ren R65)).reverse ++ rest := by rfl) : At γ σ k n pc ls st (world K) := by
  have z := LX.rs (e := []) (σ := σ) X hJ hS As rest Sx Kx w hf dd (fun K' h1 h2 => by rw [List.append_nil]; exact g K' h1 h2) hna hrw hst
  rw [List.append_nil] at z
  exact z
theorem At.fcmp {own : String} {cc : ByteArray} (O : OK γ own cc) {h : AHp} {x y : UInt32} {op : CmpOp} (d : decode cc pc = .ok (.fcmp op, 1)) (g : At γ σ k n (pc + 1) ls (vI (Op.cmpValue (FP.fcmp x y) op) :: st) h) : At γ σ k n pc ls (vF y :: vF x :: st) h := fun η H locs lsA a b c => lv_fcmp O.1 O.2.1 d (g η H locs lsA a b c)
end LXC
theorem fcmp_self {x : UInt32} (h : nb32 x) (op : CmpOp) : Op.cmpValue (FP.fcmp x x) op = 0 := by
  have e : FP.fcmp x x = some .eq := ord_self h.d
  rw [e]; rfl
theorem hvy_eq {S : SH} : (if fHvy S = 0 then gid S (fuN (gwt S) (gp S)) else cdU (fHvy S)) = hvT S (gp S) := by
  unfold fHvy hvT
  by_cases h : gp S = 0
  · rw [if_pos h, if_pos h]; rfl
  · rw [if_neg h, if_neg h]; rfl
theorem nxt_eq {S : SH} : (if fNxt S = 0 then gmi S 0 else cdU (fNxt S)) = nxT S (gsc S) := by
  unfold fNxt nxT
  by_cases h : gsc S = 0
  · rw [if_pos h, if_pos h]; rfl
  · rw [if_neg h, if_neg h]; rfl
abbrev lsI (tu : Nat) (S : SH) : List (Nat × AV) := [(0, vK 60), (1, vR 0 0), (2, vI (nI tu)), (3, vI (nI (gc S))), (4, vI (nI (gp S))), (5, vI (twI S)), (6, vI (tmI S)), (7, vI (sumI (gw S) (gc S))), (8, vI (sumI (gcp S) (gc S))), (9, vI (hvT S (gp S))), (10, vI (nI (gsc S))), (11, vI (nxT S (gsc S)))]
theorem lsI_at {γ : CX} {σ : Nat → Nat → Nat} {k n pc tu : Nat} {S : SH} {o : TV} {h : AHp} (g : At γ σ k n pc (lsI tu S) [] h) : At γ σ k n pc (lsH tu S (twI S) (tmI S) (sumI (gw S) (gc S)) (sumI (gcp S) (gc S)) (hvT S (gp S)) o) [] h := At.drop (fun q hq => List.mem_cons_of_mem _ hq) g
section PHI
variable {γ : CX} {tu B : Nat} {S : SH}
set_option maxRecDepth 4000 in
/-- up to the storms' text -/
theorem ph_I1 (X : LX γ) {k0 n0 : Nat} (hk : k0 ≤ 400000) (hn : n0 ≤ 6000000) {K : KS'} (hJ : JK B K) (hB : B ≤ 4000) (hS : kS K = S) {o : TV} (ho : TVk o (tsT S (gsc S))) {σ : Nat → Nat → Nat}
    (fin : ∀ σ' K', JK B K' → kS K' = S → At γ σ' (k0 + 108) (n0 + 8000) 773 (lsI tu S) [] (world K')) :
    At γ σ k0 n0 682 (lsH tu S (twI S) (tmI S) (sumI (gw S) (gc S)) (sumI (gcp S) (gc S)) (hvT S (gp S)) o) [] (world K ++ tvE 65 o) := by
  have hV : VB S := hS ▸ hJ.2.1.1.1.1
  have hW : WF S := hS ▸ hJ.1.1
  have hNB : NBS S := hS ▸ hJ.2.1.nbs (by omega)
  refine X.run okK_H [] 60 ?_
  refine X.rd hJ hS [] [] (y_m_weight hJ.1 hS) rfl kX10_weight ln_L_244 (X.fit (by decide) (by omega) (by omega)) (dcV okK_H rfl) (fun K1 hJ1 hS1 => ?_)
  refine X.run okK_H [] 60 ?_
  refine ⟨fun _ => ?_, fun e => absurd rfl e⟩
  refine X.run okK_H [] 60 ?_
  refine X.rd hJ1 hS1 [] [] (y_m_weightByParts hJ1.1 hS1) rfl kX10_weightByParts ln_L_247 (X.fit (by decide) (by omega) (by omega)) (dcV okK_H rfl) (fun K2 hJ2 hS2 => ?_)
  refine X.run okK_H [] 60 ?_
  refine ⟨fun _ => ?_, fun e => absurd (tw_parts hW).symm e⟩
  refine X.run okK_H [] 60 ?_
  refine X.rd hJ2 hS2 [] [] (y_m_moment hJ2.1 hS2) rfl kX10_moment ln_L_250 (X.fit (by decide) (by omega) (by omega)) (dcV okK_H rfl) (fun K3 hJ3 hS3 => ?_)
  refine X.run okK_H [] 60 ?_
  refine ⟨fun _ => ?_, fun e => absurd rfl e⟩
  refine X.run okK_H [] 60 ?_
  refine X.rd hJ3 hS3 [] [] (y_m_momentByParts hJ3.1 hS3) rfl kX10_momentByParts ln_L_253 (X.fit (by decide) (by omega) (by omega)) (dcV okK_H rfl) (fun K4 hJ4 hS4 => ?_)
  refine X.run okK_H [] 60 ?_
  refine ⟨fun _ => ?_, fun e => absurd (tm_parts hW).symm e⟩
  refine X.rd hJ4 hS4 [] [] (y_m_trim hJ4.1 hS4) rfl kX10_trim ln_L_256 (X.fit (by decide) (by omega) (by omega)) (dcV okK_H rfl) (fun K5 hJ5 hS5 => ?_)
  refine X.run okK_H [] 60 ?_
  refine ⟨(hV.w100 hW).1, fun _ => ?_, fun e => absurd (hV.trim hW _) e⟩
  refine X.rs hJ5 hS5 [vR 0 0] [] (y_w_heaviestPiece hJ5.1 hS5) kL_heaviestPiece ln_L_259 (X.fit (by decide) (by omega) (by omega)) (dcS okK_H rfl) (fun K6 hJ6 hS6 => ?_)
  rw [hvy_eq]
  refine X.run okK_H [] 60 ?_
  refine ⟨fun _ => ?_, fun e => absurd rfl e⟩
  refine X.rd hJ6 hS6 [] [] (y_m_stormCount hJ6.1 hS6) rfl kX10_stormCount ln_L_262 (X.fit (by decide) (by omega) (by omega)) (dcV okK_H rfl) (fun K7 hJ7 hS7 => ?_)
  refine X.run okK_H [] 60 ?_
  refine ⟨fun _ => ?_, fun e => absurd rfl e⟩
  refine X.rs hJ7 hS7 [vR 0 0] [] (y_w_nextStorm hJ7.1 hS7) kL_nextStorm ln_L_265 (X.fit (by decide) (by omega) (by omega)) (dcS okK_H rfl) (fun K8 hJ8 hS8 => ?_)
  rw [nxt_eq]
  refine X.run okK_H [] 60 ?_
  refine ⟨fun _ => ?_, fun e => absurd rfl e⟩
  have hTx : ∀ L, TX (fsL S L (gsc S)) (tsT S (gsc S)) := fun L => ts_TX S L _
  have hl := ts_len hNB (gsc S) (Nat.le_refl _)
  have h6 := hW.2.2.1
  have hTX : TX (kL (stLn K8 (fsL (kS K8) (kL K8) (gsc (kS K8))))) (tsT S (gsc S)) := by rw [hS8]; exact hTx _
  refine At.lC [] [vR 0 0] X.1 (m_formatStorms K8 hJ8.1 (by rw [hS8]; exact hNB) hJ8.2.2) rfl kX10_formatStorms ln_L_267 (X.fit (by decide) (by omega) (by omega)) (dcV okK_H rfl) (fun T C hT => ?_)
  have hJ9 : JK B (scr (stLn K8 (fsL (kS K8) (kL K8) (gsc (kS K8)))) T C) := hJ8.ln hT C (fsL_ge hJ8.2.2 _)
  have hS9 : kS (scr (stLn K8 (fsL (kS K8) (kL K8) (gsc (kS K8)))) T C) = S := hS8
  refine X.run okK_H [] 60 ?_
  refine X.isl (K := scr (stLn K8 (fsL (kS K8) (kL K8) (gsc (kS K8)))) T C) okK_H hJ9.1 hTX (by omega) ho (hG_at _ o) (Nat.le_refl _) rfl (by omega) (by omega) ?_
  refine X.run okK_H [(773, [0, 1, 2, 3, 4, 5, 6, 7, 8, 9, 10, 11])] 60 ?_
  refine ⟨fun e => absurd e (by decide), fun _ => ?_⟩
  exact At.cut X.1 (world_bd _) rfl rfl (fun σ' => At.wid (by omega) (by omega) (fin σ' _ hJ9 hS9))
set_option maxRecDepth 4000 in
/-- behind it -/
theorem ph_I2 (X : LX γ) {k0 n0 : Nat} (hk : k0 ≤ 400000) (hn : n0 ≤ 6000000) {K : KS'} (hJ : JK B K) (hB : B ≤ 4000) (hS : kS K = S) (h4 : 4 ≤ gc S) {σ : Nat → Nat → Nat}
    (fin : ∀ K', JK B K' → kS K' = S → At γ σ (k0 + 108) (n0 + 7000) 881 [(0, vK 60), (1, vR 0 0), (2, vI (nI tu)), (3, vI (nI (gc S))), (4, vI (nI (gp S))), (6, vI (tmI S)), (14, vI (nI 1))] [] (world K')) :
    At γ σ k0 n0 773 (lsI tu S) [] (world K) := by
  have hV : VB S := hS ▸ hJ.2.1.1.1.1
  have hW : WF S := hS ▸ hJ.1.1
  have hA : AF S := hS ▸ hJ.2.1.2.2.2.2
  have hM : fMean S = 0 := if_neg (by omega)
  have h16 := hW.2.1
  have h8 := hW.1
  have mb := mean_nb hV hW (by omega)
  have sb := share_nb hV hW (by omega)
  refine X.run okK_H [] 60 ?_
  refine X.rd0 hJ hS [] [] (y_m_meanWater2 hJ.1 hS (fun _ => mb.n)) hM kX10_meanWater ln_L_270 (X.fit (by decide) (by omega) (by omega)) (dcV okK_H rfl) (fun K1 hJ1 hS1 => ?_)
  refine X.run okK_H [] 60 ?_
  refine At.i2d X.1 (dc1L okK_H rfl (by simp [L1])) ?_
  refine X.run okK_H [] 60 ?_
  refine At.i2d X.1 (dc1L okK_H rfl (by simp [L1])) ?_
  refine At.ddiv X.1 mb.n (dc1L okK_H rfl (by simp [L1])) ?_
  refine At.dcmp X.1 (op := .l) (dcDc okK_H rfl) ?_
  rw [dcmp_self mb]
  refine X.run okK_H [] 60 ?_
  refine ⟨fun _ => ?_, fun e => absurd rfl e⟩
  refine X.rd0 hJ1 hS1 [] [] (y_m_fillShare2 hJ1.1 hS1 (fun _ => sb.n)) hM kX10_fillShare ln_L_274 (X.fit (by decide) (by omega) (by omega)) (dcV okK_H rfl) (fun K2 hJ2 hS2 => ?_)
  refine X.run okK_H [] 60 ?_
  refine At.i2f X.1 (dc1L okK_H rfl (by simp [L1])) ?_
  refine X.run okK_H [] 60 ?_
  refine At.i2f X.1 (dc1L okK_H rfl (by simp [L1])) ?_
  refine At.fdiv X.1 sb.n (dc1L okK_H rfl (by simp [L1])) ?_
  refine At.fcmp X.1 (op := .l) (dcFc okK_H rfl) ?_
  rw [fcmp_self sb]
  refine X.run okK_H [] 60 ?_
  refine ⟨fun _ => ?_, fun e => absurd rfl e⟩
  refine X.rd0 hJ2 hS2 [] [] (y_m_isAfloat hJ2.1 hS2) rfl kX10_isAfloat ln_L_278 (X.fit (by decide) (by omega) (by omega)) (dcV okK_H rfl) (fun K3 hJ3 hS3 => ?_)
  -- behind the float
  have c829 : ∀ (k n : Nat) (K : KS'), k ≤ k0 + 48 → n ≤ n0 + 2800 → JK B K → kS K = S → At γ σ k n 829 (lsI tu S) [] (world K) := by
    intro k n K hk hn hJ hS
    refine X.run okK_H [] 60 ?_
    refine X.rd0 hJ hS [] [] (y_m_isConsistent hJ.1 hS) rfl kX10_isConsistent ln_L_282 (X.fit (by decide) (by omega) (by omega)) (dcV okK_H rfl) (fun K1 hJ1 hS1 => ?_)
    rw [cs_true hW hV]
    refine X.run okK_H [] 60 ?_
    refine ⟨fun e => absurd e (by decide), fun _ => ?_⟩
    refine X.rs0 hJ1 hS1 [vR 0 0, vI (nI (gp S))] [] (y_w_idAt hJ1.1 hS1 (nI (gp S))) kL_idAt ln_L_285 (X.fit (by decide) (by omega) (by omega)) (dcS okK_H rfl) (fun K2 hJ2 hS2 => ?_)
    rw [show fIdA S (nI (gp S)) = 1 from by unfold fIdA; rw [hs_endN]; rfl, if_neg (by decide), show cdU 1 = -2500000 from rfl]
    refine X.ix okK_H rfl ?_
    refine X.run okK_H [] 60 ?_
    refine ⟨fun _ => ?_, fun e => absurd rfl e⟩
    refine X.rs0 hJ2 hS2 [vR 0 0, vI (nI (gc S))] [] (y_w_compartmentByLoad hJ2.1 hS2 (nI (gc S))) kL_compartmentByLoad ln_L_287 (X.fit (by decide) (by omega) (by omega)) (dcS okK_H rfl) (fun K3 hJ3 hS3 => ?_)
    rw [lAt_out hV hW, if_neg (by decide), show cdU 4 = NO from rfl]
    refine X.no okK_H rfl ?_
    refine X.run okK_H [] 60 ?_
    refine ⟨fun _ => ?_, fun e => absurd rfl e⟩
    refine X.rd0 hJ3 hS3 [] [] (m_undoableCount K3 hJ3.1) rfl kX10_undoableCount ln_L_289 (X.fit (by decide) (by omega) (by omega)) (dcV okK_H rfl) (fun K4 hJ4 hS4 => ?_)
    have hu := hJ3.1.2.2.2.2.2.1
    refine X.run okK_H [] 60 ?_
    refine ⟨fun e => absurd (bI_lt e) (by rw [show (8 : Int32).toInt = 8 from rfl, nI_toInt (by omega)]; omega), fun _ => ?_⟩
    have hm := w_momentAfter K4 hJ4.1 0
    rw [show tmI (tks (Int32.toNatClampNeg 0) (cpT K4)) = tmI S from by rw [← hS4]; rfl] at hm
    refine X.rs0 hJ4 hS4 [vR 0 0, vI 0] [] hm kL_momentAfter ln_L_292 (X.fit (by decide) (by omega) (by omega)) (dcS okK_H rfl) (fun K5 hJ5 hS5 => ?_)
    rw [show fMA 0 = 0 from rfl, if_pos rfl]
    refine X.run okK_H [(881, [0, 1, 2, 3, 4, 6, 14])] 60 ?_
    exact ⟨fun _ => At.wid (by omega) (by omega) (fin K5 hJ5 hS5), fun e => absurd rfl e⟩
  -- its second look
  have c822 : ¬ gsk S = 0 → At γ σ (k0 + 36) (n0 + 2100) 822 (lsI tu S) [] (world K3) := fun hg => by
    refine X.run okK_H [] 60 ?_
    refine X.rd0 hJ3 hS3 [] [] (y_m_isAfloat hJ3.1 hS3) rfl kX10_isAfloat ln_L_278 (X.fit (by decide) (by omega) (by omega)) (dcV okK_H rfl) (fun K4 hJ4 hS4 => ?_)
    rw [decide_eq_false hg]
    refine X.run okK_H [(829, [0, 1, 2, 3, 4, 5, 6, 7, 8, 9, 10, 11])] 60 ?_
    exact ⟨fun _ => c829 _ _ K4 (by omega) (by omega) hJ4 hS4, fun e => absurd rfl e⟩
  refine X.run okK_H [(829, [0, 1, 2, 3, 4, 5, 6, 7, 8, 9, 10, 11]), (822, [0, 1, 2, 3, 4, 5, 6, 7, 8, 9, 10, 11])] 60 ?_
  refine ⟨fun e => ⟨fun _ => c829 _ _ K3 (by omega) (by omega) hJ3 hS3, fun e2 => c822 fun hg => ?_⟩, fun e => ⟨fun _ => c829 _ _ K3 (by omega) (by omega) hJ3 hS3, fun e2 => c822 fun hg => ?_⟩⟩
  · have := hA hg
    have e := bI_lt e
    rw [show (900 : Int32).toInt = 900 from rfl] at e
    omega
  · exact e2 (by rw [decide_eq_true hg]; rfl)
end PHI
