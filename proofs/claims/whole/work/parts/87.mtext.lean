/-! ===== the model: the texts ===== -/
theorem LR.pN {L L' : SBB} {x : Int32} {m : MS} (h : LR (pN L x) m) (e : L'.1 = L.1) (f : ∀ j, j < L.1 → L'.2.2 j = L.2.2 j) : LR (pN L' x) m := h.cong (by
  show L'.1 + _ = L.1 + _
  rw [e]) fun j _ => by
  show sb_cat L'.2.2 L'.1 _ j = sb_cat L.2.2 L.1 _ j
  unfold sb_cat
  rw [e]
  by_cases z : j < L.1
  · rw [if_pos z, if_pos z, f j z]
  · rw [if_neg z, if_neg z]
theorem pX_2 (L : SBB) (k a b : Nat) (hk : (sxB k) = [a, b]) : (pX L k).1 = (pC (pC L a) b).1 ∧ ∀ j, j < (pC (pC L a) b).1 → (pX L k).2.2 j = (pC (pC L a) b).2.2 j := by
  constructor
  · show L.1 + (sxB k).length = L.1 + 1 + 1
    rw [hk]; rfl
  · intro j hj
    have hj : j < L.1 + 1 + 1 := hj
    show sb_cat L.2.2 L.1 (sxC k) j = sb_cat (sb_cat L.2.2 L.1 (fun _ => a)) (L.1 + 1) (fun _ => b) j
    unfold sb_cat
    by_cases z : j < L.1
    · rw [if_pos z, if_pos (by omega), if_pos z]
    · rw [if_neg z]
      unfold sxC
      rw [hk]
      by_cases z2 : j < L.1 + 1
      · rw [if_pos z2, if_neg z, show j - L.1 = 0 by omega]; rfl
      · rw [if_neg z2, show j - L.1 = 1 by omega]; rfl
theorem pN_l (L : SBB) {x : Int32} (hx : NB x) : (pN L x).1 ≤ L.1 + 7 := Nat.add_le_add_left (itL7 _ hx) _
section NX
variable {m : MS} {T : SH}
theorem n_wb {L : SBB} (h : LR L m) (c : Nat) (hc : c < 256) (x : Int32) (hx : NB x) (hl : (pN (pC L c) x).1 ≤ 240) : Sp 7 0 0 mX11_writesBehind [vR 0 0, vI (nI c), vI x] (mdl m) (PoE none (fun m' => LR (pN (pC L c) x) m' ∧ KL m m')) := by
  refine Sp.of' false (fun h => by cases h) (by decide) rfl rfl (Nat.le_of_ble_eq_true rfl) fun γ σ B => ?_
  have F : Fit γ 0 0 0 0 0 := fiW B (by decide) (Nat.zero_le _) (Nat.zero_le _)
  have F6 : Fit γ 0 0 6 0 0 := fiW B (by decide) (Nat.zero_le _) (Nat.zero_le _)
  have hl2 : L.1 + 1 + itL (decide (x < 0)) x.toInt.natAbs ≤ 240 := hl
  refine B.run okX11_writesBehind [] 60 ?_
  refine At.mE [vI (nI c)] [] B.1 (n_writes h c hc (by omega)) kX11_writes ln_X11_199 F (dcV okX11_writesBehind rfl) fun m1 h1 => ?_
  refine B.run okX11_writesBehind [] 60 ?_
  refine At.mE [vI x] [] B.1 (n_wn h1.1 x hx hl2) kX11_writesNumber ln_X11_202 F6 (dcV okX11_writesBehind rfl) fun m2 h2 => ?_
  refine B.run okX11_writesBehind [] 60 ?_
  exact rE (m' := m2) ⟨h2.1, h1.2.tr h2.2⟩ rfl
/-- a text in the line, or (thrown) nothing -/
def FTx (b : Bool) (Lf : SBB) (m m' : MS) : Prop := if b = true then (m'.1 = m.1 ∧ m'.2.1 = (wT m 0).2.1 ∧ m'.2.2.2 = m.2.2.2 ∧ LR Lf m') else m' = wT m 1
theorem NB_n {n : Nat} (h : n < 1000000) : NB (nI n) := by
  unfold NB
  rw [nI_toInt (by omega)]
  omega
theorem n_formatCompartment (r : RS T (zA m)) (hT : WF T) (hN : NBS T) (x : Int32) (L : SBB) : Sp 8 0 0 mX11_formatCompartment [vR 0 0, vI x] (mdl m) (PoE (some (vI (if hsB (gc T) x = true then nI (fcL T x x.toNatClampNeg L).1 else 0))) (FTx (hsB (gc T) x) (fcL T x x.toNatClampNeg L) m)) := by
  refine Sp.of' false (fun h => by cases h) (by decide) rfl rfl (Nat.le_of_ble_eq_true rfl) fun γ σ B => ?_
  have F : Fit γ 0 0 0 0 0 := fiW B (by decide) (Nat.zero_le _) (Nat.zero_le _)
  have F1 : Fit γ 0 0 1 0 0 := fiW B (by decide) (Nat.zero_le _) (Nat.zero_le _)
  have F7 : Fit γ 0 0 7 0 0 := fiW B (by decide) (Nat.zero_le _) (Nat.zero_le _)
  have hc := hT.1
  refine B.run okX11_formatCompartment [] 60 ?_
  refine At.mI [vI x] [vR 0 0] B.1 (n_isTank r hT x) kX11_isTank ln_X11_114 F1 (dcV okX11_formatCompartment rfl) ?_
  refine B.run okX11_formatCompartment [] 60 ?_
  refine At.mI [vI (b2 (hsB (gc T) x))] [] B.1 (n_isFine m (hsB (gc T) x)) kX11_isFine ln_X11_167 F (dcV okX11_formatCompartment rfl) ?_
  refine B.run okX11_formatCompartment [] 60 ?_
  constructor
  · intro h
    have h0 := b2_eq0.mp h
    exact rEv (m' := wT m (ng (hsB (gc T) x))) (by rw [if_neg (by rw [h0]; decide)]) (by unfold FTx; rw [h0]; rfl) rfl
  · intro h
    have hB := b2_ne0.mp h
    have e1 : (if hsB (gc T) x = true then (0 : Int32) else 1) = 0 := if_pos hB
    rw [e1]
    obtain ⟨i, hi, rfl⟩ := hs_of (by omega) hB
    have ec : (nI i).toNatClampNeg = i := nI_clamp (by omega)
    obtain ⟨n1, n2, n3, n4, n5⟩ := hN.1 i hi
    have nx : NB (nI i) := NB_n (by omega)
    have eb := r.2.1 i hi
    refine ⟨trivial, ?_⟩
    have hb : LR (L0 L) (wL (wT m 0) (zL m) 0) := ⟨rfl, by show 0 ≤ 240; omega, fun j hj => absurd hj (Nat.not_lt_zero _)⟩
    have k0 : KL (wL (wT m 0) (zL m) 0) (wL (wT m 0) (zL m) 0) := ⟨rfl, rfl, rfl⟩
    obtain ⟨L1, hL1⟩ : ∃ L1, L1 = pN (pC (L0 L) 67) (nI i) := ⟨_, rfl⟩
    have l1 : L1.1 ≤ 8 := by rw [hL1]; exact (pN_l _ nx)
    obtain ⟨L2, hL2⟩ : ∃ L2, L2 = pN (pX L1 16) (gar T i) := ⟨_, rfl⟩
    have l2 : L2.1 ≤ 17 := by rw [hL2]; have := pN_l (pX L1 16) n1; have e : (pX L1 16).1 = L1.1 + 2 := rfl; omega
    obtain ⟨L3, hL3⟩ : ∃ L3, L3 = pN (pC L2 32) (gw T i) := ⟨_, rfl⟩
    have l3 : L3.1 ≤ 25 := by rw [hL3]; have := pN_l (pC L2 32) n2; have e : (pC L2 32).1 = L2.1 + 1 := rfl; omega
    obtain ⟨L4, hL4⟩ : ∃ L4, L4 = pN (pC L3 47) (gcp T i) := ⟨_, rfl⟩
    have l4 : L4.1 ≤ 33 := by rw [hL4]; have := pN_l (pC L3 47) n3; have e : (pC L3 47).1 = L3.1 + 1 := rfl; omega
    obtain ⟨L5, hL5⟩ : ∃ L5, L5 = pN (pX L4 17) (cgI (gwt T) (gpl T) (nI i) (gp T)) := ⟨_, rfl⟩
    have l5 : L5.1 ≤ 42 := by rw [hL5]; have := pN_l (pX L4 17) n5; have e : (pX L4 17).1 = L4.1 + 2 := rfl; omega
    have efA : fcA T (nI i) i L = L5 := by rw [hL5, hL4, hL3, hL2, hL1]; rfl
    have efL : fcL T (nI i) i L = if 0 < gl T i then pN (pX L5 18) (gl T i) else L5 := by unfold fcL; rw [efA]
    have q : ∀ {M0 : SBB} {x0 : Int32}, NB x0 → M0.1 ≤ 200 → ∀ c, (pN (pC M0 c) x0).1 ≤ 240 := fun {M0 x0} hx hm c => by
      have := pN_l (pC M0 c) hx
      have e : (pC M0 c).1 = M0.1 + 1 := rfl
      omega
    refine B.run okX11_formatCompartment [] 60 ?_
    change At γ σ 0 0 23 _ [vI (nI i), vI 67, vR 0 0] (mdl (wL (wT m 0) (zL m) 0))
    refine At.mE [vI (nI 67), vI (nI i)] [] B.1 (n_wb hb 67 (by decide) (nI i) nx (q nx (by show 0 ≤ 200; omega) 67)) kX11_writesBehind ln_X11_205 F7 (dcV okX11_formatCompartment rfl) fun m1 h1 => ?_
    rw [← hL1] at h1
    have k1 := k0.tr h1.2
    refine B.run okX11_formatCompartment [] 60 ?_
    refine At.mE [vI (nI 32)] [] B.1 (n_writes h1.1 32 (by decide) (by omega)) kX11_writes ln_X11_199 F (dcV okX11_formatCompartment rfl) fun m2 h2 => ?_
    have k2 := k1.tr h2.2
    refine B.run okX11_formatCompartment [] 60 ?_
    refine At.mI [vI (nI i), vI 0] [vI 97, vR 0 0] B.1 (n_c m2 i 0 (by omega)) kX11_c ln_X11_57 F (dcV okX11_formatCompartment rfl) ?_
    rw [show zA m2 (10 + 5 * i + 0) = gar T i from (congrFun k2.1 _).trans eb.1]
    refine B.run okX11_formatCompartment [] 60 ?_
    refine At.mE [vI (nI 97), vI (gar T i)] [] B.1 (n_wb h2.1 97 (by decide) (gar T i) n1 (q n1 (by show L1.1 + 1 ≤ 200; omega) 97)) kX11_writesBehind ln_X11_205 F7 (dcV okX11_formatCompartment rfl) fun m3 h3 => ?_
    have k3 := k2.tr h3.2
    have h3 : LR L2 m3 := by rw [hL2]; exact h3.1.pN (pX_2 L1 16 32 97 rfl).1 (pX_2 L1 16 32 97 rfl).2
    refine B.run okX11_formatCompartment [] 60 ?_
    refine At.mI [vI (nI i), vI 2] [vI 32, vR 0 0] B.1 (n_c m3 i 2 (by omega)) kX11_c ln_X11_57 F (dcV okX11_formatCompartment rfl) ?_
    rw [show zA m3 (10 + 5 * i + 2) = gw T i from (congrFun k3.1 _).trans eb.2.2.1]
    refine B.run okX11_formatCompartment [] 60 ?_
    refine At.mE [vI (nI 32), vI (gw T i)] [] B.1 (n_wb h3 32 (by decide) (gw T i) n2 (q n2 (by omega) 32)) kX11_writesBehind ln_X11_205 F7 (dcV okX11_formatCompartment rfl) fun m4 h4 => ?_
    have k4 := k3.tr h4.2
    rw [← hL3] at h4
    refine B.run okX11_formatCompartment [] 60 ?_
    refine At.mI [vI (nI i), vI 1] [vI 47, vR 0 0] B.1 (n_c m4 i 1 (by omega)) kX11_c ln_X11_57 F (dcV okX11_formatCompartment rfl) ?_
    rw [show zA m4 (10 + 5 * i + 1) = gcp T i from (congrFun k4.1 _).trans eb.2.1]
    refine B.run okX11_formatCompartment [] 60 ?_
    refine At.mE [vI (nI 47), vI (gcp T i)] [] B.1 (n_wb h4.1 47 (by decide) (gcp T i) n3 (q n3 (by omega) 47)) kX11_writesBehind ln_X11_205 F7 (dcV okX11_formatCompartment rfl) fun m5 h5 => ?_
    have k5 := k4.tr h5.2
    rw [← hL4] at h5
    refine B.run okX11_formatCompartment [] 60 ?_
    refine At.mE [vI (nI 32)] [] B.1 (n_writes h5.1 32 (by decide) (by omega)) kX11_writes ln_X11_199 F (dcV okX11_formatCompartment rfl) fun m6 h6 => ?_
    have k6 := k5.tr h6.2
    refine B.run okX11_formatCompartment [] 60 ?_
    have r6 : RS T (zA m6) := by rw [show zA m6 = zA m from k6.1]; exact r
    refine At.mI [vI (nI i)] [vI 43, vR 0 0] B.1 (n_cargo r6 hT (nI i)) kX11_cargo ln_X11_61 F1 (dcV okX11_formatCompartment rfl) ?_
    refine B.run okX11_formatCompartment [] 60 ?_
    refine At.mE [vI (nI 43), vI (cgI (gwt T) (gpl T) (nI i) (gp T))] [] B.1 (n_wb h6.1 43 (by decide) (cgI (gwt T) (gpl T) (nI i) (gp T)) n5 (q n5 (by show L4.1 + 1 ≤ 200; omega) 43)) kX11_writesBehind ln_X11_205 F7 (dcV okX11_formatCompartment rfl) fun m7 h7 => ?_
    have k7 := k6.tr h7.2
    have h7 : LR L5 m7 := by rw [hL5]; exact h7.1.pN (pX_2 L4 17 32 43 rfl).1 (pX_2 L4 17 32 43 rfl).2
    have fin : ∀ (m' : MS) (L' : SBB), LR L' m' → KL (wL (wT m 0) (zL m) 0) m' → fcL T (nI i) i L = L' → At γ σ 0 0 112 [(0, vR 0 0), (1, vI (nI i))] [] (mdl m') := by
      intro m' L' hm' km' e
      refine B.run okX11_formatCompartment [] 60 ?_
      refine rEv (m' := m') ?_ ?_ rfl
      · rw [if_pos hB, ec, e]
        exact hm'.1
      · unfold FTx
        rw [if_pos hB, ec, e]
        exact ⟨km'.1, km'.2.1, km'.2.2, hm'⟩
    refine B.run okX11_formatCompartment [(112, [0, 1])] 60 ?_
    refine At.mI [vI (nI i), vI 3] [] B.1 (n_c m7 i 3 (by omega)) kX11_c ln_X11_57 F (dcV okX11_formatCompartment rfl) ?_
    rw [show zA m7 (10 + 5 * i + 3) = gl T i from (congrFun k7.1 _).trans eb.2.2.2.1]
    refine B.run okX11_formatCompartment [(112, [0, 1])] 60 ?_
    constructor
    · intro w
      rw [if_neg (Int32.not_lt.mpr w)] at efL
      exact fin m7 L5 h7 k7 efL
    · intro w
      rw [if_pos (Int32.not_le.mp w)] at efL
      refine B.run okX11_formatCompartment [(112, [0, 1])] 60 ?_
      refine At.mE [vI (nI 32)] [] B.1 (n_writes h7 32 (by decide) (by omega)) kX11_writes ln_X11_199 F (dcV okX11_formatCompartment rfl) fun m8 h8 => ?_
      have k8 := k7.tr h8.2
      refine B.run okX11_formatCompartment [(112, [0, 1])] 60 ?_
      refine At.mI [vI (nI i), vI 3] [vI 108, vR 0 0] B.1 (n_c m8 i 3 (by omega)) kX11_c ln_X11_57 F (dcV okX11_formatCompartment rfl) ?_
      rw [show zA m8 (10 + 5 * i + 3) = gl T i from (congrFun k8.1 _).trans eb.2.2.2.1]
      refine B.run okX11_formatCompartment [(112, [0, 1])] 60 ?_
      refine At.mE [vI (nI 108), vI (gl T i)] [] B.1 (n_wb h8.1 108 (by decide) (gl T i) n4 (q n4 (by show L5.1 + 1 ≤ 200; omega) 108)) kX11_writesBehind ln_X11_205 F7 (dcV okX11_formatCompartment rfl) fun m9 h9 => ?_
      exact fin m9 _ (h9.1.pN (pX_2 L5 18 32 108 rfl).1 (pX_2 L5 18 32 108 rfl).2) (k8.tr h9.2) efL
theorem n_lineChar {L : SBB} (h : LR L m) (hch : ∀ j, j < L.1 → L.2.2 j < 256) (x : Int32) : Sp 1 0 0 mX11_lineChar [vR 0 0, vI x] (mdl m) (PoI (if hsB L.1 x = true then nI (L.2.2 x.toNatClampNeg) else 0) (mdl (wT m (ng (hsB L.1 x))))) := by
  refine Sp.of' false (fun h => by cases h) (by decide) rfl rfl (Nat.le_of_ble_eq_true rfl) fun γ σ B => ?_
  have F : Fit γ 0 0 0 0 0 := fiW B (by decide) (Nat.zero_le _) (Nat.zero_le _)
  obtain ⟨g1, g2, g3⟩ := h
  have SI : Sp 0 0 0 mX11_in [vI x, vI 0, vI (zLn m - 1)] [] (PoI (b2 (hsB L.1 x)) []) := by
    rw [← hs_wi (by omega : L.1 ≤ 1000) x, g1]
    exact n_in x 0 (nI L.1 - 1)
  refine B.run okX11_lineChar [] 60 ?_
  refine At.mS [vI x, vI 0, vI (zLn m - 1)] [vR 0 0] B.1 SI kX11_in ln_X11_43 F (dcS okX11_lineChar rfl) ?_
  refine B.run okX11_lineChar [] 60 ?_
  refine At.mI [vI (b2 (hsB L.1 x))] [] B.1 (n_isFine m (hsB L.1 x)) kX11_isFine ln_X11_167 F (dcV okX11_lineChar rfl) ?_
  refine B.run okX11_lineChar [] 60 ?_
  constructor
  · intro w
    exact ⟨(pk_charN (q := 0) (by decide)).1, rI (by rw [if_neg (by rw [b2_eq0.mp w]; decide)])⟩
  · intro w
    have h1 := b2_ne0.mp w
    obtain ⟨i, hi, rfl⟩ := hs_of (by omega) h1
    refine ⟨vp_in_nI (by omega) (by decide), ?_⟩
    rw [nI_clamp (show i < 2 ^ 31 by omega)]
    have eg : zL (wT m (if hsB L.1 (nI i) = true then 0 else 1)) i = nI (L.2.2 i) := g3 i hi
    rw [eg]
    refine ⟨(pk_charN (Nat.lt_trans (hch i hi) (by decide))).1, rI ?_⟩
    rw [if_pos h1]
end NX
