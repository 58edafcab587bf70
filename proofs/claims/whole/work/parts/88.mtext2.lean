/-! ===== the model: the texts of cargo and storms ===== -/
/-- the storm of rank k -/
def rkS (T : SH) (j : Nat) : Nat := ctB (fun i => decide (gmi T i < gmi T j)) (gsc T)
def atS (T : SH) (k : Nat) : Nat → Nat
  | 0 => 0
  | j + 1 => if rkS T j = k then j else atS T k j
theorem atS_lt (T : SH) (k : Nat) : ∀ n, atS T k n = 0 ∨ atS T k n < n
  | 0 => Or.inl rfl
  | n + 1 => by
    unfold atS
    split
    · exact Or.inr (Nat.lt_succ_self _)
    · rcases atS_lt T k n with h | h
      · exact Or.inl h
      · exact Or.inr (by omega)
def fmL (T : SH) (L : SBB) : Nat → SBB
  | 0 => L0 L
  | k + 1 => pN (pC (pN (if k = 0 then fmL T L k else pC (fmL T L k) 32) (gmi T (atS T k (gsc T)))) 33) (gsg T (atS T k (gsc T)))
theorem sepL_l (L : SBB) (c : Nat) : (sepL L c).1 ≤ L.1 + 1 := by
  unfold sepL
  split
  · omega
  · exact Nat.le_refl _
section NX2
variable {m : MS} {T : SH}
theorem n_formatCargo (r : RS T (zA m)) (hT : WF T) (hN : NBS T) (hB : ∀ k, k < gp T → itL (decide (gwt T k < 0)) (gwt T k).toInt.natAbs ≤ 2) (x : Int32) (L : SBB) : Sp 8 0 0 mX11_formatCargo [vR 0 0, vI x] (mdl m) (PoE (some (vI (if hsB (gc T) x = true then nI (fgL T x L (gp T)).1 else 0))) (FTx (hsB (gc T) x) (fgL T x L (gp T)) m)) := by
  refine Sp.of' false (fun h => by cases h) (by decide) rfl rfl (Nat.le_of_ble_eq_true rfl) fun γ σ B => ?_
  have F : Fit γ 0 0 0 0 0 := fiW B (by decide) (Nat.zero_le _) (Nat.zero_le _)
  have F1 : Fit γ 0 0 1 0 0 := fiW B (by decide) (Nat.zero_le _) (Nat.zero_le _)
  have F6 : Fit γ 0 0 6 0 0 := fiW B (by decide) (Nat.zero_le _) (Nat.zero_le _)
  have F7 : Fit γ 0 0 7 0 0 := fiW B (by decide) (Nat.zero_le _) (Nat.zero_le _)
  have hc := hT.1
  have hp := hT.2.1
  refine B.run okX11_formatCargo [] 60 ?_
  refine At.mI [vI x] [vR 0 0] B.1 (n_isTank r hT x) kX11_isTank ln_X11_114 F1 (dcV okX11_formatCargo rfl) ?_
  refine B.run okX11_formatCargo [] 60 ?_
  refine At.mI [vI (b2 (hsB (gc T) x))] [] B.1 (n_isFine m (hsB (gc T) x)) kX11_isFine ln_X11_167 F (dcV okX11_formatCargo rfl) ?_
  refine B.run okX11_formatCargo [(21, [0, 1, 2])] 60 ?_
  constructor
  · intro h
    have h0 := b2_eq0.mp h
    exact rEv (m' := wT m (ng (hsB (gc T) x))) (by rw [if_neg (by rw [h0]; decide)]) (by unfold FTx; rw [h0]; rfl) rfl
  · intro h
    have hB1 := b2_ne0.mp h
    have e1 : (if hsB (gc T) x = true then (0 : Int32) else 1) = 0 := if_pos hB1
    rw [e1]
    refine ⟨trivial, ?_⟩
    have hb : LR (L0 L) (wL (wT m 0) (zL m) 0) := ⟨rfl, by show 0 ≤ 240; omega, fun j hj => absurd hj (Nat.not_lt_zero _)⟩
    have len : ∀ i, i ≤ gp T → (fgL T x L i).1 ≤ 11 * i := by
      intro i
      induction i with
      | zero => intro _; exact Nat.le_refl _
      | succ i ih =>
        intro hi
        have z := ih (by omega)
        unfold fgL
        split
        · have a1 := hB i (by omega)
          have a2 := pN_l (sepL (fgL T x L i) 44) (hN.2.1 i (by omega)).1
          have a3 : (sepL (fgL T x L i) 44).1 ≤ (fgL T x L i).1 + 1 := sepL_l _ _
          show (pN (sepL (fgL T x L i) 44) (gid T i)).1 + 1 + itL (decide (gwt T i < 0)) (gwt T i).toInt.natAbs ≤ _
          omega
        · omega
    have loop : ∀ (j i : Nat), i + j = gp T → ∀ m', LR (fgL T x L i) m' → KL (wL (wT m 0) (zL m) 0) m' → At γ σ 0 0 21 [(0, vR 0 0), (1, vI x), (2, vI (nI i))] [] (mdl m') := by
      intro j
      induction j with
      | zero =>
        intro i hi m' hm' km'
        have hi : i = gp T := by omega
        have e2 : zA m' 2 = nI (gp T) := (congrFun km'.1 2).trans r.1.2.2.1
        refine B.run okX11_formatCargo [] 60 ?_
        refine ⟨vk, ?_⟩
        constructor
        · intro _
          refine rEv (m' := m') ?_ ?_ rfl
          · rw [if_pos hB1, ← hi]
            exact hm'.1
          · unfold FTx
            rw [if_pos hB1, ← hi]
            exact ⟨km'.1, km'.2.1, km'.2.2, hm'⟩
        · intro q
          have q : ¬ zA m' 2 ≤ nI i := q
          rw [e2] at q
          exact absurd (nI_le (by omega) (by omega)) q
      | succ j ih =>
        intro i hi m' hm' km'
        have hip : i < gp T := by omega
        have e2 : zA m' 2 = nI (gp T) := (congrFun km'.1 2).trans r.1.2.2.1
        have ep := r.2.2.1 i hip
        have li := len i (by omega)
        have nb := hN.2.1 i hip
        refine B.run okX11_formatCargo [(21, [0, 1, 2]), (56, [0, 1, 2])] 60 ?_
        refine ⟨vk, ?_⟩
        constructor
        · intro q
          have q : zA m' 2 ≤ nI i := q
          rw [e2] at q
          exact absurd q (nI_ge (by omega) (by omega))
        · intro _
          refine B.run okX11_formatCargo [(21, [0, 1, 2]), (56, [0, 1, 2])] 60 ?_
          refine At.mI [vI (nI i)] [] B.1 (n_lies m' i (by omega)) kX11_lies ln_X11_51 F (dcV okX11_formatCargo rfl) ?_
          rw [show zA m' (50 + 3 * i + 2) = gpl T i from (congrFun km'.1 _).trans ep.2.2]
          refine B.run okX11_formatCargo [(21, [0, 1, 2]), (56, [0, 1, 2])] 60 ?_
          have from56 : ∀ m2, LR (sepL (fgL T x L i) 44) m2 → KL (wL (wT m 0) (zL m) 0) m2 → gpl T i = x → At γ σ 0 0 56 [(0, vR 0 0), (1, vI x), (2, vI (nI i))] [] (mdl m2) := by
            intro m2 h2 k2 hx
            have ls : (sepL (fgL T x L i) 44).1 ≤ 11 * i + 1 := Nat.le_trans (sepL_l _ _) (by omega)
            have l3 := pN_l (sepL (fgL T x L i) 44) nb.1
            have l4 := pN_l (pC (pN (sepL (fgL T x L i) 44) (gid T i)) 42) nb.2
            have l5 : (pC (pN (sepL (fgL T x L i) 44) (gid T i)) 42).1 = (pN (sepL (fgL T x L i) 44) (gid T i)).1 + 1 := rfl
            refine B.run okX11_formatCargo [(21, [0, 1, 2])] 60 ?_
            refine At.mI [vI (nI i)] [vR 0 0] B.1 (n_idOf m2 i (by omega)) kX11_idOf ln_X11_47 F (dcV okX11_formatCargo rfl) ?_
            rw [show zA m2 (50 + 3 * i) = gid T i from (congrFun k2.1 _).trans ep.1]
            refine B.run okX11_formatCargo [(21, [0, 1, 2])] 60 ?_
            refine At.mE [vI (gid T i)] [] B.1 (n_wn h2 (gid T i) nb.1 (by show (pN (sepL (fgL T x L i) 44) (gid T i)).1 ≤ 240; omega)) kX11_writesNumber ln_X11_202 F6 (dcV okX11_formatCargo rfl) fun m3 h3 => ?_
            have k3 := k2.tr h3.2
            refine B.run okX11_formatCargo [(21, [0, 1, 2])] 60 ?_
            refine At.mI [vI (nI i)] [vI 42, vR 0 0] B.1 (n_heavy m3 i (by omega)) kX11_heavy ln_X11_54 F (dcV okX11_formatCargo rfl) ?_
            rw [show zA m3 (50 + 3 * i + 1) = gwt T i from (congrFun k3.1 _).trans ep.2.1]
            refine B.run okX11_formatCargo [(21, [0, 1, 2])] 60 ?_
            refine At.mE [vI (nI 42), vI (gwt T i)] [] B.1 (n_wb h3.1 42 (by decide) (gwt T i) nb.2 (by omega)) kX11_writesBehind ln_X11_205 F7 (dcV okX11_formatCargo rfl) fun m4 h4 => ?_
            have ez : fgL T x L (i + 1) = pN (pC (pN (sepL (fgL T x L i) 44) (gid T i)) 42) (gwt T i) := if_pos hx
            have z := ih (i + 1) (by omega) m4 (by rw [ez]; exact h4.1) (k3.tr h4.2)
            rw [← nI_1] at z
            refine B.run okX11_formatCargo [(21, [0, 1, 2])] 60 ?_
            exact z
          constructor
          · intro hx
            constructor
            · intro q
              have q : zLn m' ≤ 0 := q
              rw [hm'.1] at q
              have h0 : (fgL T x L i).1 = 0 := by
                rcases Nat.eq_zero_or_pos (fgL T x L i).1 with z | z
                · exact z
                · exact absurd q (nI_nle z (by omega))
              exact from56 m' (by unfold sepL; rw [if_pos h0]; exact hm') km' hx
            · intro q
              have q : ¬ zLn m' ≤ 0 := q
              rw [hm'.1] at q
              have h0 : ¬ (fgL T x L i).1 = 0 := fun z => q (by rw [z]; decide)
              refine B.run okX11_formatCargo [(56, [0, 1, 2])] 60 ?_
              refine At.mE [vI (nI 44)] [] B.1 (n_writes hm' 44 (by decide) (by omega)) kX11_writes ln_X11_199 F (dcV okX11_formatCargo rfl) fun m2 h2 => ?_
              exact from56 m2 (by unfold sepL; rw [if_neg h0]; exact h2.1) (km'.tr h2.2) hx
          · intro hx
            have ez : fgL T x L (i + 1) = fgL T x L i := if_neg hx
            have z := ih (i + 1) (by omega) m' (by rw [ez]; exact hm') km'
            rw [← nI_1] at z
            exact z
    exact loop (gp T) 0 (by omega) _ hb ⟨rfl, rfl, rfl⟩
theorem n_formatStorms (r : RS T (zA m)) (hT : WF T) (hN : NBS T) (L : SBB) : Sp 8 0 0 mX11_formatStorms [vR 0 0] (mdl m) (PoE (some (vI (nI (fmL T L (gsc T)).1))) (FTx true (fmL T L (gsc T)) m)) := by
  refine Sp.of' false (fun h => by cases h) (by decide) rfl rfl (Nat.le_of_ble_eq_true rfl) fun γ σ B => ?_
  have F : Fit γ 0 0 0 0 0 := fiW B (by decide) (Nat.zero_le _) (Nat.zero_le _)
  have F6 : Fit γ 0 0 6 0 0 := fiW B (by decide) (Nat.zero_le _) (Nat.zero_le _)
  have F7 : Fit γ 0 0 7 0 0 := fiW B (by decide) (Nat.zero_le _) (Nat.zero_le _)
  have hs := hT.2.2.1
  have hb : LR (L0 L) (wL (wT m 0) (zL m) 0) := ⟨rfl, by show 0 ≤ 240; omega, fun j hj => absurd hj (Nat.not_lt_zero _)⟩
  have atl : ∀ k, 0 < gsc T → atS T k (gsc T) < gsc T := fun k h => by
    rcases atS_lt T k (gsc T) with z | z
    · rw [z]; exact h
    · exact z
  have len : ∀ i, i ≤ gsc T → (fmL T L i).1 ≤ 16 * i := by
    intro i
    induction i with
    | zero => intro _; exact Nat.le_refl _
    | succ i ih =>
      intro hi
      have z := ih (by omega)
      have nb := hN.2.2 _ (atl i (by omega))
      unfold fmL
      have a2 := pN_l (if i = 0 then fmL T L i else pC (fmL T L i) 32) nb.1
      have a3 := pN_l (pC (pN (if i = 0 then fmL T L i else pC (fmL T L i) 32) (gmi T (atS T i (gsc T)))) 33) nb.2
      have a4 : (pC (pN (if i = 0 then fmL T L i else pC (fmL T L i) 32) (gmi T (atS T i (gsc T)))) 33).1 = (pN (if i = 0 then fmL T L i else pC (fmL T L i) 32) (gmi T (atS T i (gsc T)))).1 + 1 := rfl
      have a5 : (if i = 0 then fmL T L i else pC (fmL T L i) 32).1 ≤ (fmL T L i).1 + 1 := by
        split
        · omega
        · exact Nat.le_refl _
      omega
  have loop : ∀ (j k : Nat), k + j = gsc T → ∀ m', LR (fmL T L k) m' → KL (wL (wT m 0) (zL m) 0) m' → At γ σ 0 0 12 [(0, vR 0 0), (1, vI (nI k))] [] (mdl m') := by
    intro j
    induction j with
    | zero =>
      intro k hk m' hm' km'
      have hk : k = gsc T := by omega
      have e7 : zA m' 7 = nI (gsc T) := (congrFun km'.1 7).trans r.1.2.2.2.2.2.2.2.1
      refine B.run okX11_formatStorms [(27, [0, 1, 2, 3])] 60 ?_
      refine ⟨vk, ?_⟩
      constructor
      · intro _
        refine rEv (m' := m') ?_ ?_ rfl
        · rw [← hk]
          exact hm'.1
        · unfold FTx
          rw [if_pos rfl, ← hk]
          exact ⟨km'.1, km'.2.1, km'.2.2, hm'⟩
      · intro q
        have q : ¬ zA m' 7 ≤ nI k := q
        rw [e7] at q
        exact absurd (nI_le (by omega) (by omega)) q
    | succ j ih =>
      intro k hk m' hm' km'
      have hks : k < gsc T := by omega
      have e7 : zA m' 7 = nI (gsc T) := (congrFun km'.1 7).trans r.1.2.2.2.2.2.2.2.1
      have lk := len k (by omega)
      have eS : ∀ i, i < gsc T → zA m' (98 + 2 * i) = gmi T i := fun i hi => (congrFun km'.1 _).trans (r.2.2.2.1 i hi).1
      -- behind the choice
      have behind : At γ σ 0 0 116 [(0, vR 0 0), (1, vI (nI k)), (2, vI (nI (atS T k (gsc T))))] [] (mdl m') := by
        have ha := atl k (by omega)
        have nb := hN.2.2 _ ha
        have ed := r.2.2.2.1 _ ha
        have hfm : fmL T L (k + 1) = pN (pC (pN (if k = 0 then fmL T L k else pC (fmL T L k) 32) (gmi T (atS T k (gsc T)))) 33) (gsg T (atS T k (gsc T))) := rfl
        generalize atS T k (gsc T) = q at ha nb ed hfm ⊢
        have from126 : ∀ (m2 : MS) (M : SBB), LR M m2 → KL (wL (wT m 0) (zL m) 0) m2 → (if k = 0 then fmL T L k else pC (fmL T L k) 32) = M → M.1 ≤ 16 * k + 1 → At γ σ 0 0 126 [(0, vR 0 0), (1, vI (nI k)), (2, vI (nI q))] [] (mdl m2) := by
          intro m2 M h2 k2 eM lM
          have E : (98 : Int32) + 2 * nI q = nI (98 + 2 * q) := ix2 98 q
          have E1 : (98 : Int32) + 2 * nI q + 1 = nI (98 + 2 * q + 1) := by rw [E, nI_1]
          have l3 := pN_l M nb.1
          have l4 := pN_l (pC (pN M (gmi T q)) 33) nb.2
          have l5 : (pC (pN M (gmi T q)) 33).1 = (pN M (gmi T q)).1 + 1 := rfl
          refine B.run okX11_formatStorms [(12, [0, 1])] 60 ?_
          refine ⟨by rw [E]; exact vp_in_nI (by omega) (by decide), ?_⟩
          rw [E, nI_clamp (show 98 + 2 * q < 2 ^ 31 by omega), show zA m2 (98 + 2 * q) = gmi T q from (congrFun k2.1 _).trans ed.1]
          refine At.mE [vI (gmi T q)] [] B.1 (n_wn h2 (gmi T q) nb.1 (by show (pN M (gmi T q)).1 ≤ 240; omega)) kX11_writesNumber ln_X11_202 F6 (dcV okX11_formatStorms rfl) fun m3 h3 => ?_
          have k3 := k2.tr h3.2
          refine B.run okX11_formatStorms [(12, [0, 1])] 60 ?_
          refine ⟨by rw [E1]; exact vp_in_nI (by omega) (by decide), ?_⟩
          rw [E1, nI_clamp (show 98 + 2 * q + 1 < 2 ^ 31 by omega), show zA m3 (98 + 2 * q + 1) = gsg T q from (congrFun k3.1 _).trans ed.2]
          refine At.mE [vI (nI 33), vI (gsg T q)] [] B.1 (n_wb h3.1 33 (by decide) (gsg T q) nb.2 (by omega)) kX11_writesBehind ln_X11_205 F7 (dcV okX11_formatStorms rfl) fun m4 h4 => ?_
          have z := ih (k + 1) (by omega) m4 (by rw [hfm, eM]; exact h4.1) (k3.tr h4.2)
          rw [← nI_1] at z
          refine B.run okX11_formatStorms [(12, [0, 1])] 60 ?_
          exact z
        refine B.run okX11_formatStorms [(126, [0, 1, 2])] 60 ?_
        constructor
        · intro w
          have h0 : k = 0 := by
            rcases Nat.eq_zero_or_pos k with z | z
            · exact z
            · exact absurd w (nI_nle z (by omega))
          exact from126 m' (fmL T L k) hm' km' (if_pos h0) (by omega)
        · intro w
          have h0 : ¬ k = 0 := fun z => w (by rw [z]; decide)
          refine B.run okX11_formatStorms [(126, [0, 1, 2])] 60 ?_
          refine At.mE [vI (nI 32)] [] B.1 (n_writes hm' 32 (by decide) (by omega)) kX11_writes ln_X11_199 F (dcV okX11_formatStorms rfl) fun m2 h2 => ?_
          exact from126 m2 (pC (fmL T L k) 32) h2.1 (km'.tr h2.2) (if_neg h0) (by show (fmL T L k).1 + 1 ≤ _; omega)
      have mid : ∀ (j2 q : Nat), q + j2 = gsc T → At γ σ 0 0 27 [(0, vR 0 0), (1, vI (nI k)), (2, vI (nI (atS T k q))), (3, vI (nI q))] [] (mdl m') := by
        intro j2
        induction j2 with
        | zero =>
          intro q hq
          have hq : q = gsc T := by omega
          subst hq
          refine B.run okX11_formatStorms [(116, [0, 1, 2])] 60 ?_
          refine ⟨vk, ?_⟩
          constructor
          · intro _
            exact behind
          · intro w
            have w : ¬ zA m' 7 ≤ nI (gsc T) := w
            rw [e7] at w
            exact absurd (nI_le (Nat.le_refl _) (by omega)) w
        | succ j2 ih2 =>
          intro q hq
          have hqs : q < gsc T := by omega
          have Eq : (98 : Int32) + 2 * nI q = nI (98 + 2 * q) := ix2 98 q
          have z := ih2 (q + 1) (by omega)
          have ez : atS T k (q + 1) = if rkS T q = k then q else atS T k q := rfl
          rw [ez, ← nI_1] at z
          have tail : At γ σ 0 0 98 [(0, vR 0 0), (1, vI (nI k)), (2, vI (nI (atS T k q))), (3, vI (nI q)), (4, vI (nI (rkS T q)))] [] (mdl m') := by
            refine B.run okX11_formatStorms [(27, [0, 1, 2, 3])] 60 ?_
            have hr : rkS T q ≤ 6 := Nat.le_trans (ctB_le _ _) hs
            constructor
            · intro w
              have w : rkS T q = k := (nI_eq (by omega) (by omega)).mp w
              rw [if_pos w] at z
              exact z
            · intro w
              have w : ¬ rkS T q = k := fun v => w (by rw [v])
              rw [if_neg w] at z
              exact z
          have inner : ∀ (j3 i : Nat), i + j3 = gsc T → At γ σ 0 0 44 [(0, vR 0 0), (1, vI (nI k)), (2, vI (nI (atS T k q))), (3, vI (nI q)), (4, vI (nI (ctB (fun i => decide (gmi T i < gmi T q)) i))), (5, vI (nI i))] [] (mdl m') := by
            intro j3
            induction j3 with
            | zero =>
              intro i hi
              have hi : i = gsc T := by omega
              subst hi
              refine B.run okX11_formatStorms [(98, [0, 1, 2, 3, 4])] 60 ?_
              refine ⟨vk, ?_⟩
              constructor
              · intro _
                exact tail
              · intro w
                have w : ¬ zA m' 7 ≤ nI (gsc T) := w
                rw [e7] at w
                exact absurd (nI_le (Nat.le_refl _) (by omega)) w
            | succ j3 ih3 =>
              intro i hi
              have his : i < gsc T := by omega
              have Ei : (98 : Int32) + 2 * nI i = nI (98 + 2 * i) := ix2 98 i
              have z3 := ih3 (i + 1) (by omega)
              have ez3 : ctB (fun i => decide (gmi T i < gmi T q)) (i + 1) = ctB (fun i => decide (gmi T i < gmi T q)) i + (if decide (gmi T i < gmi T q) = true then 1 else 0) := rfl
              rw [ez3, ← nI_1 i] at z3
              refine B.run okX11_formatStorms [(44, [0, 1, 2, 3, 4, 5])] 60 ?_
              refine ⟨vk, ?_⟩
              constructor
              · intro w
                have w : zA m' 7 ≤ nI i := w
                rw [e7] at w
                exact absurd w (nI_ge (by omega) (by omega))
              · intro _
                refine ⟨by rw [Ei]; exact vp_in_nI (by omega) (by decide), by rw [Eq]; exact vp_in_nI (by omega) (by decide), ?_⟩
                rw [Ei, Eq, nI_clamp (show 98 + 2 * i < 2 ^ 31 by omega), nI_clamp (show 98 + 2 * q < 2 ^ 31 by omega), eS i his, eS q hqs]
                constructor
                · intro w
                  rw [if_neg (by rw [decide_eq_false (Int32.not_lt.mpr w)]; decide), Nat.add_zero] at z3
                  rw [← Int32.add_zero (nI (ctB (fun i => decide (gmi T i < gmi T q)) i))] at z3
                  exact z3
                · intro w
                  rw [if_pos (decide_eq_true (Int32.not_le.mp w)), ← nI_1] at z3
                  exact z3
          refine B.run okX11_formatStorms [(44, [0, 1, 2, 3, 4, 5])] 60 ?_
          refine ⟨vk, ?_⟩
          constructor
          · intro w
            have w : zA m' 7 ≤ nI q := w
            rw [e7] at w
            exact absurd w (nI_ge (by omega) (by omega))
          · intro _
            exact inner (gsc T) 0 (by omega)
      refine B.run okX11_formatStorms [(27, [0, 1, 2, 3])] 60 ?_
      refine ⟨vk, ?_⟩
      constructor
      · intro w
        have w : zA m' 7 ≤ nI k := w
        rw [e7] at w
        exact absurd w (nI_ge (by omega) (by omega))
      · intro _
        exact mid (gsc T) 0 (by omega)
  refine B.run okX11_formatStorms [(12, [0, 1])] 60 ?_
  refine ⟨trivial, trivial, ?_⟩
  exact loop (gsc T) 0 (by omega) _ hb ⟨rfl, rfl, rfl⟩
end NX2
