/-! ===== the law's turn: the compartments ===== -/
def fullT (S : SH) (c : Nat) : Int32 := if gcp S c - gw S c = 0 then 0 else if gl S c = 0 then NO else (gcp S c - gw S c + gl S c - 1) / gl S c
theorem hs_inN {c n : Nat} (h : c < n) (hn : n ≤ 1000) : hsB n (nI c) = true := by
  unfold hsB
  rw [decide_eq_true (show (0 : Int32) ≤ nI c from nI_le (a := 0) (Nat.zero_le _) (by omega)), decide_eq_true (nI_lt h (by omega))]
  rfl
theorem hs_endN (n : Nat) : hsB n (nI n) = false := by
  unfold hsB
  rw [decide_eq_false (Int32.not_lt.mpr (Int32.le_refl _)), Bool.and_false]
theorem left_nn {S : SH} (hV : VB S) {c : Nat} (hc : c < gc S) : 0 ≤ (gcp S c - gw S c).toInt := by
  obtain ⟨-, a2, a3, a4, -, -⟩ := hV.1 c hc
  have a4 := bI_le a4
  have := a2.1
  have := a2.2
  have := a3.1
  have := a3.2
  rw [Int32.toInt_sub, Int.bmod_eq_of_le (by omega) (by omega)]
  omega
theorem ful_eq {S : SH} (hV : VB S) (hW : WF S) {c : Nat} (hc : c < gc S) : (if fFul S (nI c) = 0 then vFul S (nI c) else cdU (fFul S (nI c))) = fullT S c := by
  have h8 := hW.1
  have e : (nI c).toNatClampNeg = c := nI_clamp (by omega)
  unfold fFul vFul fullT
  rw [hs_inN hc (by omega), if_pos rfl, e]
  by_cases h : gcp S c - gw S c = 0
  · rw [if_pos h, if_pos rfl, if_pos h, if_pos h]
  · rw [if_neg h, if_neg h, if_neg h]
    by_cases hl : gl S c ≤ 0
    · have hl0 : gl S c = 0 := Int32.toInt_inj.mp (by
        have a := bI_le hl
        have b := (hV.1 c hc).2.2.2.2.1.1
        rw [show (0 : Int32).toInt = 0 from rfl] at a ⊢
        omega)
      rw [if_pos hl, if_neg (by decide), if_pos hl0]
      rfl
    · have hl0 : ¬ gl S c = 0 := fun z => hl (by rw [z]; decide)
      rw [if_neg hl, if_pos rfl, if_neg hl0]
abbrev lsC (tu : Nat) (S : SH) (hv : Int32) (c : Nat) : List (Nat × AV) := [(0, vK 60), (1, vR 0 0), (2, vI (nI tu)), (3, vI (nI (gc S))), (4, vI (nI (gp S))), (5, vI (sumI (ldI S) c)), (6, vI (sumI (fun i => ldI S i * gar S i) c)), (7, vI (sumI (gw S) c)), (8, vI (sumI (gcp S) c)), (9, vI hv), (10, vI 0), (11, vI NO), (12, vR 65 0), (13, vK 15), (14, vI (nI c))]
section PHF
variable {γ : CX} {k n tu B : Nat} {S : SH}
/-- a made text behind a builder, in front of it -/
theorem At.swap {own : String} {cc : ByteArray} {σ : Nat → Nat → Nat} {pc : Nat} {ls : List (Nat × AV)} {rest : List AV} (O : OK γ own cc) {h : AHp} {L Li : SBB} {u : Nat} {f : Nat → Int32} (hb : bdH h.length h = true) (hbl : ls.all (fun q => bdV h.length q.2) = true) (hbr : rest.all (bdV h.length) = true)
    (g : ∀ σ', At γ σ' k n pc ls (vR h.length 0 :: vR (h ++ sR h.length u f).length 0 :: rest) (h ++ sR h.length u f ++ [sbL L])) : At γ σ k n pc ls (vR (h.length + 2) 0 :: vR h.length 0 :: rest) (h ++ [sbL L] ++ [sbL Li, [sO (h.length + 3)], [sY u f]]) := by
  have e2 : (h ++ sR h.length u f).length = h.length + 2 := by rw [List.length_append]; rfl
  have hP : idU (List.range' 0 h.length ++ [h.length + 2, h.length + 3, h.length]) h.length := idR2 _ _
  have r0 : rn (List.range' 0 h.length ++ [h.length + 2, h.length + 3, h.length]) h.length = h.length + 2 := by rw [rn_app2 (i := 0) (by rw [List.length_range']; rfl)]; rfl
  have r1 : rn (List.range' 0 h.length ++ [h.length + 2, h.length + 3, h.length]) (h.length + 1) = h.length + 3 := by rw [rn_app2 (i := 1) (by rw [List.length_range'])]; rfl
  have r2 : rn (List.range' 0 h.length ++ [h.length + 2, h.length + 3, h.length]) (h.length + 2) = h.length := by rw [rn_app2 (i := 2) (by rw [List.length_range'])]; rfl
  have hnd : va_nd (List.range' 0 h.length ++ [h.length + 2, h.length + 3, h.length]) = true := by
    refine va_nd_of (List.nodup_append.mpr ⟨List.nodup_range', ?_, fun a ha b hb => ?_⟩)
    · simp only [List.nodup_cons, List.mem_cons, List.not_mem_nil, or_false, not_or, not_false_eq_true, List.nodup_nil, and_true]
      omega
    · have := List.mem_range'_1.mp ha
      simp only [List.mem_cons, List.not_mem_nil, or_false] at hb
      omega
  have F : Fits (List.range' 0 h.length ++ [h.length + 2, h.length + 3, h.length]) (List.range' 0 h.length ++ [h.length + 2, h.length + 3, h.length]) (h ++ sR h.length u f ++ [sbL L]) (h ++ [sbL L] ++ [sbL Li, [sO (h.length + 3)], [sY u f]]) := by
    rw [List.append_assoc, List.append_assoc]
    refine Fits_app (Fits_pre hP hb rfl _) ⟨?_, ?_, ?_, trivial⟩
    · rw [hnth_eq, List.getElem?_append_right (by omega), show h.length + 2 - h.length = 2 by omega]
      show some [sO (h.length + 3)] = some [aO 0 [vR (rn _ (h.length + 1)) 0, vI 0, vI 0, vI 0]]
      rw [r1]
    · rw [hnth_eq, List.getElem?_append_right (by omega), show h.length + 3 - h.length = 3 by omega]
      rfl
    · exact hnth_lst h _ _
  have z := At.part (σ := σ) (ls := ls) (st := vR h.length 0 :: vR (h ++ sR h.length u f).length 0 :: rest) O hnd F (g _)
  rw [lsR_id hP hbl] at z
  have e : (vR h.length 0 :: vR (h ++ sR h.length u f).length 0 :: rest).map (ren (List.range' 0 h.length ++ [h.length + 2, h.length + 3, h.length])) = vR (h.length + 2) 0 :: vR h.length 0 :: rest := by
    rw [List.map_cons, List.map_cons, stR_id hP hbr]
    show vR (rn _ h.length) 0 :: vR (rn _ (h ++ sR h.length u f).length) 0 :: rest = _
    rw [r0, e2, r2]
  rw [e] at z
  exact z
theorem TVat_str {h : AHp} {g : List ACell} {u : Nat} {f : Nat → Int32} : TVat (h.length + 1) (some (u, f)) (h ++ [g, [sO (h.length + 2)], [sY u f]]) := by
  intro q e
  cases e
  constructor
  · rw [hnth_eq, List.getElem?_append_right (by omega), show h.length + 1 - h.length = 1 by omega]
    rfl
  · rw [hnth_eq, List.getElem?_append_right (by omega), show h.length + 1 + 1 - h.length = 2 by omega]
    rfl
abbrev lsF (tu : Nat) (S : SH) (c : Nat) (a5 a6 a7 a8 hv : Int32) (o : TV) : List (Nat × AV) := [(0, vK 60), (1, vR 0 0), (2, vI (nI tu)), (3, vI (nI (gc S))), (4, vI (nI (gp S))), (5, vI a5), (6, vI a6), (7, vI a7), (8, vI a8), (9, vI hv), (10, vI 0), (11, vI NO), (12, vR 65 0), (13, vK 15), (14, vI (nI c)), (15, vI (gw S c)), (16, vI (gl S c)), (19, tvV 66 o)]
theorem hF_lb (K : KS') (f : Nat → Int32) (m : Nat) (o : TV) {tu : Nat} {S : SH} {c : Nat} {a5 a6 a7 a8 hv : Int32} : (lsF tu S c a5 a6 a7 a8 hv o).all (fun q => bdV (world K ++ ([[aI m f]] ++ tvE 66 o)).length q.2) = true := by
  cases o <;> rfl
theorem bdV_mono_all {N M : Nat} (h : N ≤ M) {ls : List (Nat × AV)} (hb : ls.all (fun q => bdV N q.2) = true) : ls.all (fun q => bdV M q.2) = true := List.all_eq_true.mpr fun q hq => bdV_mono h (List.all_eq_true.mp hb q hq)
/-- the line of a compartment: from its text's builder to the answer of the comparison -/
theorem ph_F1 (X : LX γ) {k0 n0 : Nat} (hk : k0 ≤ 500000) (hn : n0 ≤ 7000000) {K : KS'} (hJ : JK B K) (hB : B ≤ 4000) (hS : kS K = S) {c : Nat} (hc : c < gc S) {f : Nat → Int32} (hf : f c = cgI (gwt S) (gpl S) (nI c) (gp S)) {a5 a6 a7 a8 hv : Int32} {o : TV} (hT : TX (kL K) (tcT S (nI c) c))
    (fin : ∀ σ', At γ σ' (k0 + 18) (n0 + 4300) 502 (lsF tu S c a5 a6 a7 a8 hv o) [] (world K ++ ([[aI (gc S) f]] ++ tvE 66 o))) {σ : Nat → Nat → Nat} :
    At γ σ k0 n0 392 (lsF tu S c a5 a6 a7 a8 hv o) [vI (nI (kL K).1), vR 0 0] (world K ++ ([[aI (gc S) f]] ++ tvE 66 o)) := by
  subst hS
  have hNB := hJ.2.1.nbs (by omega)
  obtain ⟨hK, hG, -⟩ := hJ
  have h8 := hK.1.1
  obtain ⟨n1, n2, n3, n4, n5⟩ := hNB.1 c hc
  have q0 : NB (nI c) := NB_nI (by omega)
  have d0 := dg_len7 q0
  have d1 := dg_len7 n1
  have d2 := dg_len7 n2
  have d3 := dg_len7 n3
  have d4 := dg_len7 n4
  have d5 := dg_len7 n5
  have hbd := hE_bd K f (gc (kS K)) o
  have hN := hE_len K f (gc (kS K)) o
  have hlb := hF_lb K f (gc (kS K)) o (tu := tu) (S := kS K) (c := c) (a5 := a5) (a6 := a6) (a7 := a7) (a8 := a8) (hv := hv)
  have hst : ([vI (nI (kL K).1), vR 0 0] : List AV).all (bdV (world K ++ ([[aI (gc (kS K)) f]] ++ tvE 66 o)).length) = true := by cases o <;> rfl
  have s3 : (sxB 3).length = 1 := rfl
  have s4 : (sxB 4).length = 2 := rfl
  have s5 : (sxB 5).length = 1 := rfl
  have s6 : (sxB 6).length = 1 := rfl
  have s7 : (sxB 7).length = 2 := rfl
  have s8 : (sxB 8).length = 2 := rfl
  refine X.sbNew okK_F rfl rfl rfl hbd hlb hst (by omega) (by omega) (fun σ2 k n hk hn => ?_) (Nat.le_of_ble_eq_true rfl)
  refine X.ldc okK_F 3 rfl rfl ?_
  refine X.sbK okK_F (L := (0, 16, z0)) 3 rfl (TX.new 16 z0) (by decide) (Nat.le_refl _) hk hn (by omega) (by omega) (fun L1 t1 l1 k n hk hn => ?_)
  refine X.run okK_F [] 60 ?_
  refine X.sbI okK_F (nI c) q0 rfl t1 (by decide) l1 hk hn (by omega) (by omega) (fun L2 t2 l2 k n hk hn => ?_)
  refine X.ldc okK_F 4 rfl rfl ?_
  refine X.sbK okK_F 4 rfl t2 (by simp only [List.length_append, List.length_nil, s3, s4]; omega) l2 hk hn (by omega) (by omega) (fun L3 t3 l3 k n hk hn => ?_)
  refine X.run okK_F [] 60 ?_
  refine At.asc ?_
  refine At.lZ [vI (nI c)] [vR (world K ++ ([[aI (gc (kS K)) f]] ++ tvE 66 o)).length 0, vI (nI (kL K).1), vR 0 0] X.1 (z_arm K hK c hc) kX10_arm ln_L_222 (X.fit (by decide) (by omega) (by omega)) (dcV okK_F rfl) ?_
  refine At.csa ?_
  refine X.sbI okK_F (gar (kS K) c) n1 rfl t3 (by simp only [List.length_append, List.length_nil, s3, s4]; omega) l3 hk hn (by omega) (by omega) (fun L4 t4 l4 k n hk hn => ?_)
  refine X.ldc okK_F 5 rfl rfl ?_
  refine X.sbK okK_F 5 rfl t4 (by simp only [List.length_append, List.length_nil, s3, s4, s5]; omega) l4 hk hn (by omega) (by omega) (fun L5 t5 l5 k n hk hn => ?_)
  refine X.run okK_F [] 60 ?_
  refine X.sbI okK_F (gw (kS K) c) n2 rfl t5 (by simp only [List.length_append, List.length_nil, s3, s4, s5]; omega) l5 hk hn (by omega) (by omega) (fun L6 t6 l6 k n hk hn => ?_)
  refine X.ldc okK_F 6 rfl rfl ?_
  refine X.sbK okK_F 6 rfl t6 (by simp only [List.length_append, List.length_nil, s3, s4, s5, s6]; omega) l6 hk hn (by omega) (by omega) (fun L7 t7 l7 k n hk hn => ?_)
  refine X.run okK_F [] 60 ?_
  refine At.asc ?_
  refine At.lZ [vI (nI c)] [vR (world K ++ ([[aI (gc (kS K)) f]] ++ tvE 66 o)).length 0, vI (nI (kL K).1), vR 0 0] X.1 (z_capacity K hK c hc) kX10_capacity ln_L_189 (X.fit (by decide) (by omega) (by omega)) (dcV okK_F rfl) ?_
  refine At.csa ?_
  refine X.sbI okK_F (gcp (kS K) c) n3 rfl t7 (by simp only [List.length_append, List.length_nil, s3, s4, s5, s6]; omega) l7 hk hn (by omega) (by omega) (fun L8 t8 l8 k n hk hn => ?_)
  refine X.ldc okK_F 7 rfl rfl ?_
  refine X.sbK okK_F 7 rfl t8 (by simp only [List.length_append, List.length_nil, s3, s4, s5, s6, s7]; omega) l8 hk hn (by omega) (by omega) (fun L9 t9 l9 k n hk hn => ?_)
  refine X.run okK_F [] 60 ?_
  refine ⟨vp_in_nI hc (by omega), ?_⟩
  show At γ σ2 k n 457 (lsF tu (kS K) c a5 a6 a7 a8 hv o) [vI (f (nI c).toNatClampNeg), vR (world K ++ ([[aI (gc (kS K)) f]] ++ tvE 66 o)).length 0, vI (nI (kL K).1), vR 0 0] ((world K ++ ([[aI (gc (kS K)) f]] ++ tvE 66 o)) ++ [sbL L9])
  rw [nI_clamp (by omega), hf]
  refine X.sbI okK_F (cgI (gwt (kS K)) (gpl (kS K)) (nI c) (gp (kS K))) n5 rfl t9 (by simp only [List.length_append, List.length_nil, s3, s4, s5, s6, s7]; omega) l9 hk hn (by omega) (by omega) (fun La ta la k n hk hn => ?_)
  have eA : [] ++ sxB 3 ++ dg (nI c) ++ sxB 4 ++ dg (gar (kS K) c) ++ sxB 5 ++ dg (gw (kS K) c) ++ sxB 6 ++ dg (gcp (kS K) c) ++ sxB 7 ++ dg (cgI (gwt (kS K)) (gpl (kS K)) (nI c) (gp (kS K))) = tcA (kS K) (nI c) c := rfl
  have lA : (tcA (kS K) (nI c) c).length ≤ 60 := by
    rw [← eA]
    simp only [List.length_append, List.length_nil, s3, s4, s5, s6, s7]
    omega
  rw [eA] at ta
  -- behind the leak
  have cont : ∀ (σ : Nat → Nat → Nat) (e : AHp), bdH (world K ++ ([[aI (gc (kS K)) f]] ++ tvE 66 o) ++ e).length (world K ++ ([[aI (gc (kS K)) f]] ++ tvE 66 o) ++ e) = true → ∀ L', TX L' (tcT (kS K) (nI c) c) → 16 ≤ L'.2.1 → AB γ σ (k0 + 16) (n0 + 3990) L'.2.1 493 (lsF tu (kS K) c a5 a6 a7 a8 hv o) [vR (world K ++ ([[aI (gc (kS K)) f]] ++ tvE 66 o) ++ e).length 0, vI (nI (kL K).1), vR 0 0] (world K ++ ([[aI (gc (kS K)) f]] ++ tvE 66 o) ++ e ++ [sbL L']) := by
    intro σ e hbe L' t' l' k n hk hn
    have hle : (world K ++ ([[aI (gc (kS K)) f]] ++ tvE 66 o)).length ≤ (world K ++ ([[aI (gc (kS K)) f]] ++ tvE 66 o) ++ e).length := by rw [List.length_append (as := world K ++ ([[aI (gc (kS K)) f]] ++ tvE 66 o))]; omega
    have lT : (tcT (kS K) (nI c) c).length ≤ 70 := by
      unfold tcT
      split
      · simp only [List.length_append]
        rw [show (sxB 18).length = 2 from rfl]
        omega
      · omega
    refine X.sbS okK_F rfl t' (by omega) hbe (bdV_mono_all hle hlb) (List.all_eq_true.mpr fun q hq => bdV_mono hle (List.all_eq_true.mp hst q hq)) (by omega) (by omega) (fun σ3 f' hTS => ?_)
    refine At.wid (k2 := k0 + 18) (n2 := n0 + 4300) (by omega) (by omega) ?_
    generalize hM : (world K ++ ([[aI (gc (kS K)) f]] ++ tvE 66 o) ++ e).length = M at hle
    have hat : TVat (M + 1) (some ((tcT (kS K) (nI c) c).length, f')) (world K ++ ([[aI (gc (kS K)) f]] ++ tvE 66 o) ++ e ++ [sbL L', [sO (M + 2)], [sY (tcT (kS K) (nI c) c).length f']]) := by
      rw [← hM]
      exact TVat_str
    rw [List.append_assoc (world K ++ ([[aI (gc (kS K)) f]] ++ tvE 66 o)), List.append_assoc (world K)] at hat ⊢
    refine X.isl (o := some ((tcT (kS K) (nI c) c).length, f')) okK_F hK hT (by omega) hTS hat (by omega) rfl (by omega) (by omega) ?_
    refine X.run okK_F [(502, [0, 1, 2, 3, 4, 5, 6, 7, 8, 9, 10, 11, 12, 13, 14, 15, 16, 19])] 60 ?_
    refine ⟨fun e => absurd e (by decide), fun _ => ?_⟩
    show At γ σ3 (k0 + 18) (n0 + 4300) 502 (lsF tu (kS K) c a5 a6 a7 a8 hv o) [] (world K ++ (([[aI (gc (kS K)) f]] ++ tvE 66 o) ++ (e ++ [sbL L', [sO (M + 2)], [sY (tcT (kS K) (nI c) c).length f']])))
    refine At.csa ?_
    exact At.cut X.1 hbd hlb rfl fin
  refine X.run okK_F [] 60 ?_
  refine ⟨fun e => ?_, fun e => ?_⟩
  · refine X.ldc okK_F 0 rfl rfl ?_
    have et : tcT (kS K) (nI c) c = tcA (kS K) (nI c) c := if_neg (Int32.not_lt.mpr e)
    refine X.sbK okK_F 0 rfl ta (by show _ + 0 ≤ 300; omega) la hk hn (by omega) (by omega) (fun L' t' l' k n hk hn => ?_)
    have z := cont σ2 [] (by rw [List.append_nil]; exact hbd) L' (by rw [et, ← List.append_nil (tcA (kS K) (nI c) c)]; exact t') l' k n (by omega) (by omega)
    rw [List.append_nil] at z
    exact z
  · have et : tcT (kS K) (nI c) c = tcA (kS K) (nI c) c ++ (sxB 8 ++ dg (gl (kS K) c)) := by
      have z : tcT (kS K) (nI c) c = tcA (kS K) (nI c) c ++ sxB 18 ++ dg (gl (kS K) c) := if_pos (Int32.not_le.mp e)
      rw [z, List.append_assoc]; rfl
    have hl1 : (world K ++ ([[aI (gc (kS K)) f]] ++ tvE 66 o) ++ [sbL La]).length = (world K ++ ([[aI (gc (kS K)) f]] ++ tvE 66 o)).length + 1 := by rw [List.length_append (as := world K ++ ([[aI (gc (kS K)) f]] ++ tvE 66 o))]; rfl
    have hle : (world K ++ ([[aI (gc (kS K)) f]] ++ tvE 66 o)).length ≤ (world K ++ ([[aI (gc (kS K)) f]] ++ tvE 66 o) ++ [sbL La]).length := by omega
    have hb1 : bdH (world K ++ ([[aI (gc (kS K)) f]] ++ tvE 66 o) ++ [sbL La]).length (world K ++ ([[aI (gc (kS K)) f]] ++ tvE 66 o) ++ [sbL La]) = true := bdH_app (bdH_mono hle hbd) rfl
    have hlb1 := bdV_mono_all hle hlb
    have hst1 : ([vR (world K ++ ([[aI (gc (kS K)) f]] ++ tvE 66 o)).length 0, vI (nI (kL K).1), vR 0 0] : List AV).all (bdV (world K ++ ([[aI (gc (kS K)) f]] ++ tvE 66 o) ++ [sbL La]).length) = true := by
      have a1 : bdV (world K ++ ([[aI (gc (kS K)) f]] ++ tvE 66 o) ++ [sbL La]).length (vR (world K ++ ([[aI (gc (kS K)) f]] ++ tvE 66 o)).length 0) = true := Nat.ble_eq.mpr (by omega)
      have a2 : bdV (world K ++ ([[aI (gc (kS K)) f]] ++ tvE 66 o) ++ [sbL La]).length (vR 0 0) = true := Nat.ble_eq.mpr (by omega)
      rw [List.all_cons, a1, List.all_cons, List.all_cons, a2]; rfl
    refine X.sbNew okK_F rfl rfl rfl hb1 hlb1 hst1 (by omega) (by omega) (fun σ3 k' n' hk' hn' => ?_) (Nat.le_of_ble_eq_true rfl)
    refine X.ldc okK_F 8 rfl rfl ?_
    refine X.sbK okK_F (L := (0, 16, z0)) 8 rfl (TX.new 16 z0) (by decide) (Nat.le_refl _) hk' hn' (by omega) (by omega) (fun Lb tb lb k' n' hk' hn' => ?_)
    refine X.run okK_F [] 60 ?_
    refine X.sbI okK_F (gl (kS K) c) n4 rfl tb (by decide) lb hk' hn' (by omega) (by omega) (fun Lc tc lc k' n' hk' hn' => ?_)
    refine X.sbS okK_F rfl tc (by simp only [List.length_append, List.length_nil, s8]; omega) hb1 hlb1 hst1 (by omega) (by omega) (fun σ4 f' hTS => ?_)
    refine X.run okK_F [] 60 ?_
    rw [hl1]
    refine At.swap X.1 hbd hlb hst (fun σ5 => ?_)
    have hat : TVat (world K ++ ([[aI (gc (kS K)) f]] ++ tvE 66 o)).length (some (([] ++ sxB 8 ++ dg (gl (kS K) c)).length, f')) (world K ++ ([[aI (gc (kS K)) f]] ++ tvE 66 o) ++ sR (world K ++ ([[aI (gc (kS K)) f]] ++ tvE 66 o)).length ([] ++ sxB 8 ++ dg (gl (kS K) c)).length f') := TVat_end (some (([] ++ sxB 8 ++ dg (gl (kS K) c)).length, f'))
    have hTV : TVk (some (([] ++ sxB 8 ++ dg (gl (kS K) c)).length, f')) ([] ++ sxB 8 ++ dg (gl (kS K) c)) := hTS
    refine X.sbV okK_F hTV hat rfl ta (by simp only [List.length_append, List.length_nil, s8]; omega) la (KK := k0 + 16) (NN := n0 + 3990) (by omega) (by omega) (by omega) (by omega) (fun L' t' l' => ?_)
    refine cont σ5 _ ?_ L' (by rw [et]; exact t') l'
    have e2 : (world K ++ ([[aI (gc (kS K)) f]] ++ tvE 66 o) ++ sR (world K ++ ([[aI (gc (kS K)) f]] ++ tvE 66 o)).length ([] ++ sxB 8 ++ dg (gl (kS K) c)).length f').length = (world K ++ ([[aI (gc (kS K)) f]] ++ tvE 66 o)).length + 2 := by rw [List.length_append (as := world K ++ ([[aI (gc (kS K)) f]] ++ tvE 66 o))]; rfl
    rw [e2]
    exact bdH_app (bdH_mono (by omega) hbd) (tvE_bd (by omega) (some (([] ++ sxB 8 ++ dg (gl (kS K) c)).length, f')))
end PHF
