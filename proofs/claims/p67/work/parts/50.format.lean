/-! ===== formatCargo, formatStorms, lineChar, append ===== -/
def fgL (S : SH) (x : Int32) (L : SBB) : Nat → SBB
  | 0 => L0 L
  | i + 1 => if gpl S i = x then pN (pC (pN (sepL (fgL S x L i) 44) (gid S i)) 42) (gwt S i) else fgL S x L i
def fsL (S : SH) (L : SBB) : Nat → SBB
  | 0 => L0 L
  | i + 1 => pN (pC (pN (sepL (fsL S L i) 32) (gmi S i)) 33) (gsg S i)
theorem Bud.le {k n b c : Nat} {L : SBB} (h : Bud k n b L) (hb : b ≤ c) : Bud k n c L := ⟨Nat.le_trans h.1 hb, h.2⟩
theorem m_formatCargo (K : KS') (hK : WK K) (x : Int32) (hN : NBS (kS K)) (hL : 16 ≤ (kL K).2.1) : Sp 12 12 2000 mX10_formatCargo [vR 0 0, vI x] (world K) (PoC (fChk (kS K) x) (some (vI (nI (fgL (kS K) x (kL K) (gp (kS K))).1))) (stLn K (fgL (kS K) x (kL K) (gp (kS K)))) (K)) := by
  refine Sp.of' false (fun h => by cases h) (by decide) rfl rfl (Nat.le_of_ble_eq_true rfl) fun γ σ B => ?_
  refine B.run okX10_formatCargo [] 60 ?_
  refine At.fI [vI x] [] B.1 B.2.1 (s_check K hK x) kX10_checkCompartment ln_X10_197 (B.fit (by decide) (by decide) (by decide)) (by decide) (by decide) (dcV okX10_formatCargo rfl) (fun hf => ?_) (fun hf => PoC_x hf (kT K) (kC K) hK.2.1 rfl)
  have hp16 := hK.1.2.1
  refine B.run okX10_formatCargo [] 60 ?_
  refine At.wB (fe_L K (L0 (kL K))) [vI (nI 0)] [] B.1 (s_sSet (kL K).1 (kL K).2.1 (kL K).2.2) kJ4_setLength_d00df ln_X10_331 (B.fit (by decide) (by decide) (by decide)) (dcV okX10_formatCargo rfl) ?_
  have hb0 : Bud (0 + 1 + 0) (0 + 6 + 0) 0 (L0 (kL K)) := ⟨Nat.le_refl _, hL, by have := gk_le (kL K).2.1; show 0 + 1 + 0 + gk (kL K).2.1 ≤ 8; omega, by have := gs_le (kL K).2.1; show 0 + 6 + 0 + gsl (kL K).2.1 ≤ 1900; omega⟩
  have loop : ∀ (m i : Nat), i + m = gp (kS K) → ∀ (k n : Nat) (L : SBB), L = fgL (kS K) x (kL K) i → Bud k n (16 * i) L → At γ σ k n 23 [(0, vR 0 0), (1, vI x), (2, vR 3 0), (3, vI (nI i))] [] (world (stLn K L)) := by
    intro m
    induction m with
    | zero =>
      intro i hi k n L eL hb
      have hi : i = gp (kS K) := by omega
      subst hi
      have hk := hb.k
      refine B.run okX10_formatCargo [(23, [0, 1, 2, 3])] 60 ?_
      constructor
      · intro _
        refine B.run okX10_formatCargo [(23, [0, 1, 2, 3])] 60 ?_
        refine At.wB (fe_L (stLn K L) L) [] [] B.1 (s_sbLen L.1 L.2.1 L.2.2) kJ4_length_8abf5 ln_X10_353 (B.fit (by decide) (by omega) (by omega)) (dcV okX10_formatCargo rfl) ?_
        refine B.run okX10_formatCargo [] 60 ?_
        subst eL
        exact rCo hf rfl (kT K) (kC K) hK.2.1
      · intro h
        exact absurd (nI_le (b := gp (kS K)) (Nat.le_refl _) (by omega)) h
    | succ m ih =>
      intro i hi k n L eL hb
      refine B.run okX10_formatCargo [(23, [0, 1, 2, 3])] 60 ?_
      constructor
      · intro h
        exact absurd h (nI_ge (b := gp (kS K)) (by omega) (by omega))
      · intro _
        refine ⟨le16 (by omega) hp16, ?_⟩
        rw [nI_clamp (by omega)]
        have hi2 := hN.2.1 i (by omega)
        have hv : vp_in (nI i) 16 := le16 (by omega) hp16
        constructor
        · intro h
          have eu : fgL (kS K) x (kL K) (i + 1) = pN (pC (pN (sepL L 44) (gid (kS K) i)) 42) (gwt (kS K) i) := by rw [eL]; exact if_pos h
          refine B.run okX10_formatCargo [(23, [0, 1, 2, 3])] 60 ?_
          refine At.sep (K := stLn K L) B.1 B 44 B.2.1 hb (dcV okX10_formatCargo rfl) (fun k1 n1 hb => ?_) (hq := by omega)
          refine B.run okX10_formatCargo [(23, [0, 1, 2, 3])] 60 ?_
          refine ⟨hv, ?_⟩
          rw [nI_clamp (by omega)]
          refine At.apN B.1 B ln_X10_338 (gid (kS K) i) hi2.1 hb (dcV okX10_formatCargo rfl) (fun k1 n1 hb => ?_) (hq := by omega)
          refine B.run okX10_formatCargo [(23, [0, 1, 2, 3])] 60 ?_
          refine At.apC B.1 B ln_X10_334 42 hb (dcV okX10_formatCargo rfl) (fun k1 n1 hb => ?_) (hq := by omega)
          refine B.run okX10_formatCargo [(23, [0, 1, 2, 3])] 60 ?_
          refine ⟨hv, ?_⟩
          rw [nI_clamp (by omega)]
          refine At.apN B.1 B ln_X10_338 (gwt (kS K) i) hi2.2 hb (dcV okX10_formatCargo rfl) (fun k1 n1 hb => ?_) (hq := by omega)
          refine B.run okX10_formatCargo [(23, [0, 1, 2, 3])] 60 ?_
          show At γ σ k1 n1 23 [(0, vR 0 0), (1, vI x), (2, vR 3 0), (3, vI (nI i + 1))] [] (world (stLn K (pN (pC (pN (sepL L 44) (gid (kS K) i)) 42) (gwt (kS K) i))))
          rw [nI_1]
          exact ih (i + 1) (by omega) k1 n1 _ eu.symm (Bud.le hb (by omega))
        · intro h
          have eu : fgL (kS K) x (kL K) (i + 1) = L := by rw [eL]; exact if_neg h
          show At γ σ k n 23 [(0, vR 0 0), (1, vI x), (2, vR 3 0), (3, vI (nI i + 1))] [] (world (stLn K L))
          rw [nI_1]
          exact ih (i + 1) (by omega) k n L eu.symm (Bud.le hb (by omega))
  refine B.run okX10_formatCargo [(23, [0, 1, 2, 3])] 60 ?_
  exact loop (gp (kS K)) 0 (by omega) _ _ _ rfl hb0
theorem m_formatStorms (K : KS') (hK : WK K) (hN : NBS (kS K)) (hL : 16 ≤ (kL K).2.1) : Sp 12 12 2000 mX10_formatStorms [vR 0 0] (world K) (PoC (0) (some (vI (nI (fsL (kS K) (kL K) (gsc (kS K))).1))) (stLn K (fsL (kS K) (kL K) (gsc (kS K)))) (K)) := by
  refine Sp.of' false (fun h => by cases h) (by decide) rfl rfl (Nat.le_of_ble_eq_true rfl) fun γ σ B => ?_
  have hp6 := hK.1.2.2.1
  refine B.run okX10_formatStorms [] 60 ?_
  refine At.wB (fe_L K (L0 (kL K))) [vI (nI 0)] [] B.1 (s_sSet (kL K).1 (kL K).2.1 (kL K).2.2) kJ4_setLength_d00df ln_X10_331 (B.fit (by decide) (by decide) (by decide)) (dcV okX10_formatStorms rfl) ?_
  have hb0 : Bud (0 + 0) (0 + 0) 0 (L0 (kL K)) := ⟨Nat.le_refl _, hL, by have := gk_le (kL K).2.1; show 0 + 0 + gk (kL K).2.1 ≤ 8; omega, by have := gs_le (kL K).2.1; show 0 + 0 + gsl (kL K).2.1 ≤ 1900; omega⟩
  have loop : ∀ (m i : Nat), i + m = gsc (kS K) → ∀ (k n : Nat) (L : SBB), L = fsL (kS K) (kL K) i → Bud k n (16 * i) L → At γ σ k n 18 [(0, vR 0 0), (1, vR 4 0), (2, vI (nI i))] [] (world (stLn K L)) := by
    intro m
    induction m with
    | zero =>
      intro i hi k n L eL hb
      have hi : i = gsc (kS K) := by omega
      subst hi
      have hk := hb.k
      refine B.run okX10_formatStorms [(18, [0, 1, 2])] 60 ?_
      constructor
      · intro _
        refine B.run okX10_formatStorms [(18, [0, 1, 2])] 60 ?_
        refine At.wB (fe_L (stLn K L) L) [] [] B.1 (s_sbLen L.1 L.2.1 L.2.2) kJ4_length_8abf5 ln_X10_353 (B.fit (by decide) (by omega) (by omega)) (dcV okX10_formatStorms rfl) ?_
        refine B.run okX10_formatStorms [] 60 ?_
        subst eL
        exact rCo rfl rfl (kT K) (kC K) hK.2.1
      · intro h
        exact absurd (nI_le (b := gsc (kS K)) (Nat.le_refl _) (by omega)) h
    | succ m ih =>
      intro i hi k n L eL hb
      have hi2 := hN.2.2 i (by omega)
      have hv : vp_in (nI i) 6 := le6 (by omega) hp6
      have eu : fsL (kS K) (kL K) (i + 1) = pN (pC (pN (sepL L 32) (gmi (kS K) i)) 33) (gsg (kS K) i) := by rw [eL]; rfl
      refine B.run okX10_formatStorms [(18, [0, 1, 2])] 60 ?_
      constructor
      · intro h
        exact absurd h (nI_ge (b := gsc (kS K)) (by omega) (by omega))
      · intro _
        refine B.run okX10_formatStorms [(18, [0, 1, 2])] 60 ?_
        refine At.sep (K := stLn K L) B.1 B 32 B.2.1 hb (dcV okX10_formatStorms rfl) (fun k1 n1 hb => ?_) (hq := by omega)
        refine B.run okX10_formatStorms [(18, [0, 1, 2])] 60 ?_
        refine ⟨hv, ?_⟩
        rw [nI_clamp (by omega)]
        refine At.apN B.1 B ln_X10_338 (gmi (kS K) i) hi2.1 hb (dcV okX10_formatStorms rfl) (fun k1 n1 hb => ?_) (hq := by omega)
        refine B.run okX10_formatStorms [(18, [0, 1, 2])] 60 ?_
        refine At.apC B.1 B ln_X10_334 33 hb (dcV okX10_formatStorms rfl) (fun k1 n1 hb => ?_) (hq := by omega)
        refine B.run okX10_formatStorms [(18, [0, 1, 2])] 60 ?_
        refine ⟨hv, ?_⟩
        rw [nI_clamp (by omega)]
        refine At.apN B.1 B ln_X10_338 (gsg (kS K) i) hi2.2 hb (dcV okX10_formatStorms rfl) (fun k1 n1 hb => ?_) (hq := by omega)
        refine B.run okX10_formatStorms [(18, [0, 1, 2])] 60 ?_
        show At γ σ k1 n1 18 [(0, vR 0 0), (1, vR 4 0), (2, vI (nI i + 1))] [] (world (stLn K (pN (pC (pN (sepL L 32) (gmi (kS K) i)) 33) (gsg (kS K) i))))
        rw [nI_1]
        exact ih (i + 1) (by omega) k1 n1 _ eu.symm (Bud.le hb (by omega))
  refine B.run okX10_formatStorms [(18, [0, 1, 2])] 60 ?_
  exact loop (gsc (kS K)) 0 (by omega) _ _ _ rfl hb0
def fLch (L : SBB) (x : Int32) : Nat := if hsB L.1 x = true then 0 else 1
theorem m_lineChar (K : KS') (hK : WK K) (x : Int32) (hL : (kL K).1 ≤ 1000) : Sp 12 12 700 mX10_lineChar [vR 0 0, vI x] (world K) (PoC (fLch (kL K) x) (some (vI (nI ((kL K).2.2 x.toNatClampNeg)))) (K) (K)) := by
  refine Sp.of' false (fun h => by cases h) (by decide) rfl rfl (Nat.le_of_ble_eq_true rfl) fun γ σ B => ?_
  refine At.sbF (r := 52) (o := 0) (nn := (kL K).1) (m := (kL K).2.1) (t := (kL K).2.2) rfl fun ht _ _ => ?_
  have bad : hsB (kL K).1 x = false → At γ σ 0 0 15 [(0, vR 0 0), (1, vI x)] [] (world K) := fun hb =>
    B.thrW okX10_lineChar T_I ex_365 (PoC_n (m := 1) (by unfold fLch; rw [hb]; rfl) (by decide) rfl (kT K) (kC K) hK.2.1 rfl) (by decide) (by decide) (by decide)
  refine B.run okX10_lineChar [(15, [0, 1])] 60 ?_
  constructor
  · intro h
    exact bad (by unfold hsB; rw [decide_eq_false (Int32.not_le.mpr h)]; rfl)
  · intro h
    refine B.run okX10_lineChar [(15, [0, 1])] 60 ?_
    refine At.wB (fe_L K (kL K)) [] [vI x] B.1 (s_sbLen (kL K).1 (kL K).2.1 (kL K).2.2) kJ4_length_8abf5 ln_X10_353 (B.fit (by decide) (by decide) (by decide)) (dcV okX10_lineChar rfl) ?_
    refine B.run okX10_lineChar [(15, [0, 1])] 60 ?_
    constructor
    · intro h2
      have hb : hsB (kL K).1 x = true := by unfold hsB; rw [decide_eq_true (Int32.not_lt.mp h), decide_eq_true h2]; rfl
      obtain ⟨j, hj, ej⟩ := hs_of hL hb
      have en : x.toNatClampNeg = j := by rw [ej]; exact nI_clamp (by omega)
      refine B.run okX10_lineChar [(15, [0, 1])] 60 ?_
      rw [ej]
      refine At.wB (fe_L K (kL K)) [vI (nI j)] [] B.1 (s_sChr (kL K).1 (kL K).2.1 j (kL K).2.2 hj) kJ4_charAt_5068e ln_X10_362 (B.fit (by decide) (by decide) (by decide)) (dcV okX10_lineChar rfl) ?_
      refine B.run okX10_lineChar [(15, [0, 1])] 60 ?_
      exact ⟨(pk_charN (Nat.lt_trans (ht j hj) (by decide))).1, rCo (by unfold fLch; rw [if_pos hb]) (by rw [en]) (kT K) (kC K) hK.2.1⟩
    · intro h2
      exact bad (by unfold hsB; rw [decide_eq_false h2, Bool.and_false])
def fApp (I : SBB) (x : Int32) : Nat := if wiB x 32 126 = true then (if I.1 < 60 then 0 else 3) else 2