/-! ===== the law's turn: all compartments ===== -/
section PHG
variable {γ : CX} {k n tu B : Nat} {S : SH}
set_option maxRecDepth 4000 in
/-- from its first check to the cargo's text -/
theorem ph_D (X : LX γ) {k0 n0 : Nat} (hk : k0 ≤ 500000) (hn : n0 ≤ 7000000) {K : KS'} (hJ : JK B K) (hB : B ≤ 4000) (hS : kS K = S) {c : Nat} (hc : c < gc S) {f : Nat → Int32} (hf : f c = cgI (gwt S) (gpl S) (nI c) (gp S)) {hv : Int32} {σ : Nat → Nat → Nat}
    (fin : ∀ T C, WF T → At γ σ (k0 + 12) (n0 + 700) 295 (lsE tu S c (sumI (ldI S) c) (sumI (fun i => ldI S i * gar S i) c) (sumI (gw S) c) (sumI (gcp S) c) hv none 0) [] (world (scr K T C) ++ ([[aI (gc S) f]] ++ tvE 66 none))) :
    At γ σ k0 n0 172 (lsC tu S hv c) [] (world K ++ [[aI (gc S) f]]) := by
  subst hS
  obtain ⟨hK, hG, -⟩ := hJ
  have h8 := hK.1.1
  have hV := hG.1.1.1
  obtain ⟨v1, v2, v3, v4, v5, v6⟩ := hV.1 c hc
  refine X.run okK_D [] 60 ?_
  refine ⟨fun h => absurd h (nI_ge (by omega) (by omega)), fun _ => ?_⟩
  refine At.lZ [vI (nI c)] [] X.1 (z_water K hK c hc) kX10_water ln_L_183 X.fit (dcV okK_D rfl) ?_
  refine X.run okK_D [] 60 ?_
  refine At.lZ [vI (nI c)] [] X.1 (z_leak K hK c hc) kX10_leak ln_L_186 X.fit (dcV okK_D rfl) ?_
  refine X.run okK_D [] 60 ?_
  refine At.lZ [vI (nI c)] [] X.1 (z_capacity K hK c hc) kX10_capacity ln_L_189 X.fit (dcV okK_D rfl) ?_
  -- behind the minutes
  have tail : ∀ x, x = fullT (kS K) c → At γ σ k0 n0 234 (lsC tu (kS K) hv c ++ [(15, vI (gw (kS K) c)), (16, vI (gl (kS K) c)), (17, vI (gcp (kS K) c - gw (kS K) c))]) [vI x] (world K ++ [[aI (gc (kS K)) f]]) := by
    intro x hx
    subst hx
    refine X.run okK_D [] 60 ?_
    refine X.ldc okK_D 0 rfl rfl ?_
    refine X.run okK_D [] 60 ?_
    refine ⟨fun e => absurd (bI_lt e) (by rw [show (0 : Int32).toInt = 0 from rfl]; have := v3.1; omega), fun _ => ?_⟩
    refine ⟨fun e => absurd (bI_lt e) (by rw [show (0 : Int32).toInt = 0 from rfl]; have := left_nn hV hc; omega), fun _ => ?_⟩
    refine ⟨fun e => absurd (bI_lt e) (by rw [show (0 : Int32).toInt = 0 from rfl]; have := v5.1; omega), fun _ => ?_⟩
    refine ⟨fun e => absurd (bI_lt e) (by rw [show (20 : Int32).toInt = 20 from rfl]; have := v5.2; omega), fun _ => ?_⟩
    refine At.lZ [vI (nI c)] [] X.1 (z_loadOf K hK c hc) kX10_loadOf ln_L_192 X.fit (dcV okK_D rfl) ?_
    refine X.run okK_D [] 60 ?_
    refine ⟨vp_in_nI hc (by omega), fun _ => ?_, fun e => absurd (show ldI (kS K) c = gw (kS K) c + f (nI c).toNatClampNeg by rw [nI_clamp (by omega), hf]; rfl) e⟩
    refine At.lS [vR 0 0, vI (nI c)] [] X.1 (w_minutesUntilFull K hK (nI c)) kL_minutesUntilFull ln_L_195 X.fit (dcS okK_D rfl) (fun T C hT => ?_)
    rw [ful_eq hV hK.1 hc]
    rw [show (if fFul (kS K) (nI c) = 0 then K else K) = K from ite_self _]
    refine X.run okK_D [(295, [19, 0, 1, 2, 3, 4, 5, 6, 7, 8, 9, 10, 11, 12, 13, 14, 15, 16, 20])] 60 ?_
    exact ⟨fun _ => fin T C hT, fun e => absurd rfl e⟩
  refine X.run okK_D [(234, [0, 1, 2, 3, 4, 5, 6, 7, 8, 9, 10, 11, 12, 13, 14, 15, 16, 17])] 60 ?_
  refine ⟨fun e => tail 0 (by unfold fullT; rw [if_pos e]), fun e => ⟨fun e2 => ?_, fun e2 => ⟨fun z => e2 z, tail _ (by unfold fullT; rw [if_neg e, if_neg e2])⟩⟩⟩
  refine X.no okK_D rfl ?_
  refine X.run okK_D [(234, [0, 1, 2, 3, 4, 5, 6, 7, 8, 9, 10, 11, 12, 13, 14, 15, 16, 17])] 60 ?_
  exact tail NO (by unfold fullT; rw [if_neg e, if_pos e2])
theorem JK.ln {B : Nat} {K : KS'} (h : JK B K) {T : SH} (hT : WF T) (C : CS) {L : SBB} (hL : 16 ≤ L.2.1) : JK B (scr (stLn K L) T C) := ⟨⟨h.1.1, hT, h.1.2.2⟩, h.2.1, hL⟩
theorem cap_ge {L : SBB} (h : 16 ≤ L.2.1) (q : Nat) : 16 ≤ sb_cap q L.2.1 := Nat.le_trans h (sb_cap_gem q L.2.1)
theorem pC_ge {L : SBB} (h : 16 ≤ L.2.1) (c : Nat) : 16 ≤ (pC L c).2.1 := cap_ge h _
theorem pN_ge {L : SBB} (h : 16 ≤ L.2.1) (x : Int32) : 16 ≤ (pN L x).2.1 := cap_ge h _
theorem pX_ge {L : SBB} (h : 16 ≤ L.2.1) (j : Nat) : 16 ≤ (pX L j).2.1 := cap_ge h _
theorem sepL_ge {L : SBB} (h : 16 ≤ L.2.1) (c : Nat) : 16 ≤ (sepL L c).2.1 := by
  unfold sepL
  split
  · exact h
  · exact pC_ge h c
theorem fcL_ge {S : SH} {x : Int32} {j : Nat} {L : SBB} (h : 16 ≤ L.2.1) : 16 ≤ (fcL S x j L).2.1 := by
  have hA : 16 ≤ (fcA S x j L).2.1 := pN_ge (pX_ge (pN_ge (pC_ge (pN_ge (pC_ge (pN_ge (pX_ge (pN_ge (pC_ge (L := L0 L) h _) _) _) _) _) _) _) _) _) _
  unfold fcL
  split
  · exact pN_ge (pX_ge hA _) _
  · exact hA
theorem fgL_ge {S : SH} {x : Int32} {L : SBB} (h : 16 ≤ L.2.1) : ∀ i, 16 ≤ (fgL S x L i).2.1
  | 0 => h
  | i + 1 => by
    unfold fgL
    split
    · exact pN_ge (pC_ge (pN_ge (sepL_ge (fgL_ge h i) _) _) _) _
    · exact fgL_ge h i
theorem fsL_ge {S : SH} {L : SBB} (h : 16 ≤ L.2.1) : ∀ i, 16 ≤ (fsL S L i).2.1
  | 0 => h
  | i + 1 => pN_ge (pC_ge (pN_ge (sepL_ge (fsL_ge h i) _) _) _) _
theorem fChk_in {S : SH} {c : Nat} (h : c < gc S) (h8 : gc S ≤ 8) : fChk S (nI c) = 0 := by
  unfold fChk
  rw [hs_inN h (by omega), if_pos rfl]
/-- its line, its cargo's line, the sums -/
theorem ph_F (X : LX γ) {k0 n0 : Nat} (hk : k0 ≤ 450000) (hn : n0 ≤ 6500000) {K : KS'} (hJ : JK B K) (hB : B ≤ 4000) (hS : kS K = S) {c : Nat} (hc : c < gc S) {f : Nat → Int32} (hf : f c = cgI (gwt S) (gpl S) (nI c) (gp S)) {hv : Int32} {o : TV} (ho : TVk o (tgT S (nI c) (gp S))) {σ : Nat → Nat → Nat}
    (fin : ∀ σ' K', JK B K' → kS K' = S → At γ σ' (k0 + 42) (n0 + 8300) 172 (lsC tu S hv (c + 1)) [] (world K' ++ [[aI (gc S) f]])) :
    At γ σ k0 n0 385 (lsE tu S c (sumI (ldI S) c) (sumI (fun i => ldI S i * gar S i) c) (sumI (gw S) c) (sumI (gcp S) c) hv o (gp S)) [] (world K ++ ([[aI (gc S) f]] ++ tvE 66 o)) := by
  subst hS
  have hNB := hJ.2.1.nbs (by omega)
  have hK := hJ.1
  have h8 := hK.1.1
  have h16 := hK.1.2.1
  have hcn : (nI c).toNatClampNeg = c := nI_clamp (by omega)
  refine X.run okK_F [] 60 ?_
  refine At.lC [vI (nI c)] [vR 0 0] X.1 (m_formatCompartment K hK (nI c) hNB hJ.2.2) (fChk_in hc h8) kX10_formatCompartment ln_L_215 (X.fit (by decide) (by omega) (by omega)) (dcV okK_F rfl) (fun T C hT => ?_)
  rw [hcn]
  have hJ1 : JK B (scr (stLn K (fcL (kS K) (nI c) c (kL K))) T C) := hJ.ln hT C (fcL_ge hJ.2.2)
  have hT1 : TX (kL (scr (stLn K (fcL (kS K) (nI c) c (kL K))) T C)) (tcT (kS K) (nI c) c) := tc_TX _ _ _ _
  refine At.drop (ls' := lsF tu (kS K) c (sumI (ldI (kS K)) c) (sumI (fun i => ldI (kS K) i * gar (kS K) i) c) (sumI (gw (kS K)) c) (sumI (gcp (kS K)) c) hv o) (fun q hq => ?_) ?_
  · simp only [List.mem_cons, List.not_mem_nil, or_false] at hq ⊢
    rcases hq with rfl | rfl | rfl | rfl | rfl | rfl | rfl | rfl | rfl | rfl | rfl | rfl | rfl | rfl | rfl | rfl | rfl | rfl <;> simp
  refine ph_F1 (K := scr (stLn K (fcL (kS K) (nI c) c (kL K))) T C) X (by omega) (by omega) hJ1 hB rfl hc hf hT1 (fun σ1 => ?_)
  have hK1 := hJ1.1
  refine X.run okK_F [] 60 ?_
  refine At.lC [vI (nI c)] [vR 0 0] X.1 (m_formatCargo (scr (stLn K (fcL (kS K) (nI c) c (kL K))) T C) hK1 (nI c) hNB hJ1.2.2) (fChk_in hc h8) kX10_formatCargo ln_L_237 (X.fit (by decide) (by omega) (by omega)) (dcV okK_F rfl) (fun T2 C2 hT2 => ?_)
  have hJ2 : JK B (scr (stLn (scr (stLn K (fcL (kS K) (nI c) c (kL K))) T C) (fgL (kS K) (nI c) (fcL (kS K) (nI c) c (kL K)) (gp (kS K)))) T2 C2) := hJ1.ln hT2 C2 (fgL_ge hJ1.2.2 _)
  have hT2' : TX (kL (scr (stLn (scr (stLn K (fcL (kS K) (nI c) c (kL K))) T C) (fgL (kS K) (nI c) (fcL (kS K) (nI c) c (kL K)) (gp (kS K)))) T2 C2)) (tgT (kS K) (nI c) (gp (kS K))) := tg_TX _ _ _ _
  have hlT := tg_len hNB (nI c) (gp (kS K)) (Nat.le_refl _)
  have hSe : kS (scr (stLn (scr (stLn K (fcL (kS K) (nI c) c (kL K))) T C) (fgL (kS K) (nI c) (fcL (kS K) (nI c) c (kL K)) (gp (kS K)))) T2 C2) = kS K := rfl
  have hLe : nI (fgL (kS (scr (stLn K (fcL (kS K) (nI c) c (kL K))) T C)) (nI c) (kL (scr (stLn K (fcL (kS K) (nI c) c (kL K))) T C)) (gp (kS (scr (stLn K (fcL (kS K) (nI c) c (kL K))) T C)))).1 = nI (kL (scr (stLn (scr (stLn K (fcL (kS K) (nI c) c (kL K))) T C) (fgL (kS K) (nI c) (fcL (kS K) (nI c) c (kL K)) (gp (kS K)))) T2 C2)).1 := rfl
  rw [hLe]
  show At γ σ1 (k0 + 12 + 18 + 12) (n0 + 2000 + 4300 + 2000) 509 (lsF tu (kS K) c (sumI (ldI (kS K)) c) (sumI (fun i => ldI (kS K) i * gar (kS K) i) c) (sumI (gw (kS K)) c) (sumI (gcp (kS K)) c) hv o) [vI (nI (kL (scr (stLn (scr (stLn K (fcL (kS K) (nI c) c (kL K))) T C) (fgL (kS K) (nI c) (fcL (kS K) (nI c) c (kL K)) (gp (kS K)))) T2 C2)).1), vR 0 0] (world (scr (stLn (scr (stLn K (fcL (kS K) (nI c) c (kL K))) T C) (fgL (kS K) (nI c) (fcL (kS K) (nI c) c (kL K)) (gp (kS K)))) T2 C2) ++ ([[aI (gc (kS K)) f]] ++ tvE 66 o))
  generalize scr (stLn (scr (stLn K (fcL (kS K) (nI c) c (kL K))) T C) (fgL (kS K) (nI c) (fcL (kS K) (nI c) c (kL K)) (gp (kS K)))) T2 C2 = K2 at hJ2 hT2' hSe
  rw [← hSe] at hc hf ho hT2' h8 h16 hlT fin ⊢
  have hK2 := hJ2.1
  refine X.run okK_F [] 60 ?_
  refine X.isl okK_F hK2 hT2' (by omega) ho (hE_at K2 f (gc (kS K2)) o) (by omega) rfl (by omega) (by omega) ?_
  refine X.run okK_F [] 60 ?_
  refine ⟨fun e => absurd e (by decide), fun _ => ?_⟩
  refine At.lZ [vI (nI c)] [vI (sumI (ldI (kS K2)) c)] X.1 (z_loadOf K2 hK2 c hc) kX10_loadOf ln_L_192 (X.fit (by decide) (by omega) (by omega)) (dcV okK_F rfl) ?_
  refine X.run okK_F [] 60 ?_
  refine At.lZ [vI (nI c)] [vI (sumI (fun i => ldI (kS K2) i * gar (kS K2) i) c)] X.1 (z_loadOf K2 hK2 c hc) kX10_loadOf ln_L_192 (X.fit (by decide) (by omega) (by omega)) (dcV okK_F rfl) ?_
  refine X.run okK_F [] 60 ?_
  refine At.lZ [vI (nI c)] [vI (ldI (kS K2) c), vI (sumI (fun i => ldI (kS K2) i * gar (kS K2) i) c)] X.1 (z_arm K2 hK2 c hc) kX10_arm ln_L_222 (X.fit (by decide) (by omega) (by omega)) (dcV okK_F rfl) ?_
  refine X.run okK_F [] 60 ?_
  refine At.lZ [vI (nI c)] [vI (sumI (gcp (kS K2)) c)] X.1 (z_capacity K2 hK2 c hc) kX10_capacity ln_L_189 (X.fit (by decide) (by omega) (by omega)) (dcV okK_F rfl) ?_
  refine X.run okK_F [(172, [0, 1, 2, 3, 4, 5, 6, 7, 8, 9, 10, 11, 12, 13, 14])] 60 ?_
  have z := fun σ' => fin σ' K2 hJ2 rfl
  rw [show lsC tu (kS K2) hv (c + 1) = [(0, vK 60), (1, vR 0 0), (2, vI (nI tu)), (3, vI (nI (gc (kS K2)))), (4, vI (nI (gp (kS K2)))), (5, vI (sumI (ldI (kS K2)) (c + 1))), (6, vI (sumI (fun i => ldI (kS K2) i * gar (kS K2) i) (c + 1))), (7, vI (sumI (gw (kS K2)) (c + 1))), (8, vI (sumI (gcp (kS K2)) (c + 1))), (9, vI hv), (10, vI 0), (11, vI NO), (12, vR 65 0), (13, vK 15), (14, vI (nI (c + 1)))] from rfl, ← nI_1] at z
  show At γ σ1 (k0 + 12 + 18 + 12) (n0 + 2000 + 4300 + 2000) 172 [(0, vK 60), (1, vR 0 0), (2, vI (nI tu)), (3, vI (nI (gc (kS K2)))), (4, vI (nI (gp (kS K2)))), (5, vI (sumI (ldI (kS K2)) (c + 1))), (6, vI (sumI (fun i => ldI (kS K2) i * gar (kS K2) i) (c + 1))), (7, vI (sumI (gw (kS K2)) (c + 1))), (8, vI (sumI (gcp (kS K2)) (c + 1))), (9, vI hv), (10, vI 0), (11, vI NO), (12, vR 65 0), (13, vK 15), (14, vI (nI c + 1))] [] (world K2 ++ ([[aI (gc (kS K2)) f]] ++ tvE 66 o))
  refine At.csa ?_
  exact At.cut X.1 rfl rfl rfl (fun σ' => At.wid (by omega) (by omega) (z σ'))
/-- the compartments -/
theorem ph_G (X : LX γ) {k0 n0 : Nat} (hk : k0 ≤ 400000) (hn : n0 ≤ 6000000) {K : KS'} (hJ : JK B K) (hB : B ≤ 4000) (hS : kS K = S) {f : Nat → Int32} (hf : ∀ i, i < gc S → f i = cgI (gwt S) (gpl S) (nI i) (gp S)) {hv : Int32} {σ : Nat → Nat → Nat}
    (fin : ∀ σ' K', JK B K' → kS K' = S → At γ σ' (k0 + 200 * gc S) (n0 + 44000 * gc S) 572 [(0, vK 60), (1, vR 0 0), (2, vI (nI tu)), (3, vI (nI (gc S))), (4, vI (nI (gp S))), (5, vI (twI S)), (6, vI (tmI S)), (7, vI (sumI (gw S) (gc S))), (8, vI (sumI (gcp S) (gc S))), (9, vI hv), (10, vI 0), (11, vI NO), (13, vK 15)] [] (world K')) :
    At γ σ k0 n0 172 (lsC tu S hv 0) [] (world K ++ [[aI (gc S) f]]) := by
  have loop : ∀ (m c : Nat), c + m = gc S → ∀ (σ : Nat → Nat → Nat) (K : KS'), JK B K → kS K = S → At γ σ (k0 + 200 * c) (n0 + 44000 * c) 172 (lsC tu S hv c) [] (world K ++ [[aI (gc S) f]]) := by
    intro m
    induction m with
    | zero =>
      intro c hc σ K hJ hS
      have hc : c = gc S := by omega
      subst hc
      subst hS
      have h8 := hJ.1.1.1
      refine X.run okK_D [(572, [0, 1, 2, 3, 4, 5, 6, 7, 8, 9, 10, 11, 13])] 60 ?_
      exact ⟨fun _ => At.cut X.1 (world_bd K) rfl rfl (fun σ' => fin σ' K hJ rfl), fun h => absurd (nI_le (Nat.le_refl _) (by omega)) h⟩
    | succ m ih =>
      intro c hm σ K hJ hS
      have h8 : gc S ≤ 8 := by rw [← hS]; exact hJ.1.1.1
      have hp16 : gp S ≤ 16 := by rw [← hS]; exact hJ.1.1.2.1
      have hc : c < gc S := by omega
      have hcn : (nI c).toNatClampNeg = c := nI_clamp (by omega)
      refine ph_D X (by omega) (by omega) hJ hB hS hc (hf c hc) (fun T C hT => ?_)
      refine ph_E (K := scr K T C) X (by omega) (by omega) (hJ.sc hT C) hB hS (fun σ' o ho => ?_)
      refine ph_F (K := scr K T C) X (by omega) (by omega) (hJ.sc hT C) hB hS hc (hf c hc) ho (fun σ2 K2 hJ2 hS2 => ?_)
      exact At.wid (by omega) (by omega) (ih (c + 1) (by omega) σ2 K2 hJ2 hS2)
  exact loop (gc S) 0 (Nat.zero_add _) σ K hJ hS
end PHG
