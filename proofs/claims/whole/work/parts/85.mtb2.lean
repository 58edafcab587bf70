/-! ===== the model: transfers to balance ===== -/
def CIv (S : SH) (a bf : Int32) (C : CS) : Prop := C.1 = 0 ∨ ∃ s t, s < gc S ∧ t < gc S ∧ C.2.1 = nI s ∧ C.2.2.1 = nI t ∧ C.2.2.2 = bf + a * (gar S t - gar S s) ∧ mvI (gcp S) (gw S) (nI s) (nI t) a = true
theorem CIv_in {S : SH} {a bf : Int32} {s : Nat} (hs : s < gc S) {C : CS} (h : CIv S a bf C) : ∀ t, t ≤ gc S → CIv S a bf (tIn (gcp S) (gw S) (gar S) a bf s C t)
  | 0, _ => h
  | t + 1, ht => by
    unfold tIn
    split
    · rename_i q
      unfold offS
      split
      · exact Or.inr ⟨s, t, hs, by omega, rfl, rfl, rfl, q⟩
      · exact CIv_in hs h t (by omega)
    · exact CIv_in hs h t (by omega)
theorem CIv_out {S : SH} {a bf : Int32} {C : CS} (h : CIv S a bf C) : ∀ s, s ≤ gc S → CIv S a bf (tOut (gcp S) (gw S) (gar S) a bf (gc S) C s)
  | 0, _ => h
  | s + 1, hs => by
    unfold tOut
    exact CIv_in (by omega) (CIv_out h s (by omega)) _ (Nat.le_refl _)
theorem CIv_bst (S : SH) (a bf : Int32) (C : CS) : CIv S a bf (bS S a bf C) := CIv_out (Or.inl rfl) _ (Nat.le_refl _)
abbrev tbM (T : SH) (a : Int32) (C : CS) : Option Nat := tbR a (twI T) ((absI (tmI T)).toNatClampNeg + 1) T (tmI T) C
def thB (T : SH) (a : Int32) (C : CS) : Nat := if wiB a 1 200 = true then (if (tbM T a C).isSome = true then 0 else 2) else 1
section NTB2
variable {m : MS} {T : SH}
theorem n_transfersToBalance (r : RS T (zA m)) (hT : WF T) (hV : VB T) (a : Int32) (C : CS) : Sp 6 0 0 mX11_transfersToBalance [vR 0 0, vI a] (mdl m) (PoE (some (vI (if wiB a 1 200 = true then nI ((tbM T a C).getD 0) else 0))) (RD (nI (thB T a C)) m)) := by
  refine Sp.of' false (fun h => by cases h) (by decide) rfl rfl (Nat.le_of_ble_eq_true rfl) fun γ σ B => ?_
  have F : Fit γ 0 0 0 0 0 := fiW B (by decide) (Nat.zero_le _) (Nat.zero_le _)
  have F1 : Fit γ 0 0 1 0 0 := fiW B (by decide) (Nat.zero_le _) (Nat.zero_le _)
  have F4 : Fit γ 0 0 4 0 0 := fiW B (by decide) (Nat.zero_le _) (Nat.zero_le _)
  have F5 : Fit γ 0 0 5 0 0 := fiW B (by decide) (Nat.zero_le _) (Nat.zero_le _)
  refine B.run okX11_transfersToBalance [] 60 ?_
  refine At.mS [vI a] [vR 0 0] B.1 (n_isAmount a) kX11_isAmount ln_X11_133 F1 (dcS okX11_transfersToBalance rfl) ?_
  refine B.run okX11_transfersToBalance [] 60 ?_
  refine At.mI [vI (b2 (wiB a 1 200))] [] B.1 (n_isFine m (wiB a 1 200)) kX11_isFine ln_X11_167 F (dcV okX11_transfersToBalance rfl) ?_
  refine B.run okX11_transfersToBalance [(24, [0, 1, 2, 3])] 60 ?_
  constructor
  · intro h
    have h0 := b2_eq0.mp h
    exact rEv (m' := wT m (ng (wiB a 1 200))) (by rw [if_neg (by rw [h0]; decide)]) ⟨⟨zR m, by unfold thB; rw [h0]; rfl⟩, fun _ _ => rfl⟩ rfl
  · intro h
    have h1 := b2_ne0.mp h
    have ha : bI a 1 200 := bI_wi h1
    have e1 : (if wiB a 1 200 = true then (0 : Int32) else 1) = 0 := if_pos h1
    rw [e1]
    obtain ⟨M, hM, eM⟩ := (hV.tm hT).abs (A := 72000) (by decide)
    have eR : tbM T a C = tbR a (twI T) (M + 1) T (tmI T) C := by
      unfold tbM
      rw [eM, nI_clamp (by omega)]
    have ev : (if wiB a 1 200 = true then nI ((tbM T a C).getD 0) else 0) = nI ((tbM T a C).getD 0) := if_pos h1
    have et : thB T a C = if (tbM T a C).isSome = true then 0 else 2 := if_pos h1
    have out : ∀ (m' : MS) (n : Nat) (b : Bool), (∀ j, 116 ≤ j → zA m' j = cpF (zA m) 0 11 j) → (∃ y, m'.2 = (wR (wA (wT m 0) (cpF (zA m) 0 11)) y).2) → ((b = true ∧ tbM T a C = some n) ∨ (b = false ∧ tbM T a C = none)) → At γ σ 0 0 55 [(0, vR 0 0), (2, vI (nI n)), (3, vI (b2 b))] [] (mdl m') := by
      intro m' n b hk hy hb
      obtain ⟨y, hy⟩ := hy
      refine B.run okX11_transfersToBalance [] 60 ?_
      refine At.mV [vI 11, vI 0] [] B.1 (n_copies m' 11 0 (by decide) (by decide) (by decide)) kX11_copies ln_X11_33 F (dcV okX11_transfersToBalance rfl) ?_
      refine B.run okX11_transfersToBalance [] 60 ?_
      obtain ⟨rfl, hb⟩ | ⟨rfl, hb⟩ := hb
      · constructor
        · intro w
          exact absurd w (by decide)
        · intro _
          refine ⟨trivial, ?_⟩
          constructor
          · intro w
            exact absurd w (by decide)
          · intro _
            refine rEv (m' := wT (wA m' (cpF (zA m') 11 0)) 0) (by rw [ev, hb]; rfl) ⟨⟨y, ?_⟩, cp_back hk⟩ rfl
            rw [et, hb]
            show ((0, m'.2.1.2), m'.2.2) = _
            rw [hy] <;> rfl
      · constructor
        · intro _
          refine ⟨trivial, ?_⟩
          constructor
          · intro _
            refine rEv (m' := wT (wA m' (cpF (zA m') 11 0)) 2) (by rw [ev, hb]; rfl) ⟨⟨y, ?_⟩, cp_back hk⟩ rfl
            rw [et, hb]
            show ((2, m'.2.1.2), m'.2.2) = _
            rw [hy] <;> rfl
          · intro w
            exact absurd rfl w
        · intro w
          exact absurd rfl w
    have loop : ∀ (f : Nat) (m' : MS) (T' : SH) (C' : CS) (n M' : Nat), RS T' (zA m') → (∀ j, 116 ≤ j → zA m' j = cpF (zA m) 0 11 j) → (∃ y, m'.2 = (wR (wA (wT m 0) (cpF (zA m) 0 11)) y).2) → WF T' → VB T' → twI T' = twI T → absI (tmI T') = nI M' → M' < f → tbM T a C = (tbR a (twI T) f T' (tmI T') C').map (n + ·) → M' ≤ 72000 → At γ σ 0 0 24 [(0, vR 0 0), (1, vI a), (2, vI (nI n)), (3, vI 1)] [] (mdl m') := by
      intro f
      induction f with
      | zero =>
        intro m' T' C' n M' _ _ _ _ _ _ _ hf
        omega
      | succ f ih =>
        intro m' T' C' n M' r' hk hy hT' hV' hw' hM' hf hR hM2
        have ew := (hV'.w100 hT').1
        have etr : trimI (tmI T') (twI T) = tmI T' / (twI T' + 100) := by rw [← hw']; exact hV'.trim hT' _
        refine B.run okX11_transfersToBalance [(24, [0, 1, 2, 3]), (55, [0, 2, 3])] 60 ?_
        constructor
        · intro w
          exact absurd w (by decide)
        · intro _
          refine B.run okX11_transfersToBalance [(24, [0, 1, 2, 3]), (55, [0, 2, 3])] 60 ?_
          refine At.mI [] [] B.1 (n_isEven r' hT' ew) kX11_isEven ln_X11_186 F4 (dcV okX11_transfersToBalance rfl) ?_
          refine B.run okX11_transfersToBalance [(24, [0, 1, 2, 3]), (55, [0, 2, 3])] 60 ?_
          constructor
          · intro w
            have hne := of_decide_eq_false (b2_eq0.mp w)
            have fb : fBal T' a C' = if impB (bS T' a (tmI T') C') (tmI T') = true then 0 else 3 := by
              unfold fBal fAmt
              rw [if_pos h1]; rfl
            have eu : tbR a (twI T) (f + 1) T' (tmI T') C' = if impB (bS T' a (tmI T') C') (tmI T') = true then (tbR a (twI T) f (eMov T' (bS T' a (tmI T') C').2.1 (bS T' a (tmI T') C').2.2.1 a) (bS T' a (tmI T') C').2.2.2 (bS T' a (tmI T') C')).map (· + 1) else none := if_neg (by rw [etr]; exact hne)
            refine B.run okX11_transfersToBalance [(24, [0, 1, 2, 3]), (55, [0, 2, 3])] 60 ?_
            refine At.mE [vI a] [] B.1 (n_balances r' hT' a C') kX11_balances ln_X11_145 F5 (dcV okX11_transfersToBalance rfl) fun m2 hm2 => ?_
            obtain ⟨q1, ⟨y2, q2⟩, q3⟩ := hm2
            have hk2 : ∀ j, 116 ≤ j → zA m2 j = cpF (zA m) 0 11 j := fun j hj => (q1 j hj).trans (hk j hj)
            have hy2 : ∃ y, m2.2 = (wR (wA (wT m 0) (cpF (zA m) 0 11)) y).2 := by
              obtain ⟨y, hy⟩ := hy
              refine ⟨y2, ?_⟩
              rw [q2]
              show ((m'.2.1.1, m'.2.1.2.1, m'.2.1.2.2.1, y2), m'.2.2) = _
              rw [hy] <;> rfl
            cases hi : impB (bS T' a (tmI T') C') (tmI T') with
            | false =>
              rw [hi, if_neg (by decide)] at fb eu
              rw [fb]
              refine B.run okX11_transfersToBalance [(24, [0, 1, 2, 3]), (55, [0, 2, 3])] 60 ?_
              constructor
              · intro w2
                exact absurd w2 (by decide)
              · intro _
                show At γ σ 0 0 24 [(0, vR 0 0), (1, vI a), (2, vI (nI n + 1)), (3, vI 0)] [] (mdl m2)
                refine B.run okX11_transfersToBalance [(55, [0, 2, 3])] 60 ?_
                constructor
                · intro _
                  rw [nI_1]
                  exact out m2 (n + 1) false hk2 hy2 (Or.inr ⟨rfl, by rw [hR, eu]; rfl⟩)
                · intro w2
                  exact absurd rfl w2
            | true =>
              rw [hi, if_pos rfl] at fb eu
              rw [fb]
              obtain ⟨r2, -⟩ := q3 fb
              have hx : ¬ (bS T' a (tmI T') C').1 = 0 := impB_f hi
              obtain z | ⟨s, t, hs, ht, e2, e3, e4, e5⟩ := CIv_bst T' a (tmI T') C'
              · exact absurd z hx
              have hc' := hT'.1
              have em : eMov T' (bS T' a (tmI T') C').2.1 (bS T' a (tmI T') C').2.2.1 a = eMovN T' s t a := by
                rw [e2, e3]
                exact eMov_n (by omega) (by omega)
              have em2 : eBal T' a C' = eMovN T' s t a := em
              have hv2 := hV'.mov hT' hs ht ha e5
              have hT2 : WF (eMovN T' s t a) := hT'
              have e6 : tmI (eMovN T' s t a) = (bS T' a (tmI T') C').2.2.2 := by rw [tm_mov T' s t a hs ht, e4]
              have hl : absI (tmI (eMovN T' s t a)) < absI (tmI T') := by
                rw [e6]
                unfold impB at hi
                simp only [Bool.and_eq_true, decide_eq_true_eq] at hi
                exact hi.2
              obtain ⟨M2, hM2', eM2⟩ := (hv2.tm hT2).abs (A := 72000) (by decide)
              rw [eM2, hM'] at hl
              have hlt : M2 < M' := (nI_ltI (by omega) (by omega)).mp hl
              rw [em, ← e6] at eu
              have z := ih m2 (eMovN T' s t a) (bS T' a (tmI T') C') (n + 1) M2 (by rw [← em2]; exact r2) hk2 hy2 hT2 hv2 (by rw [tw_mov T' s t a hs ht]; exact hw') eM2 (by omega) (by
                rw [hR, eu, Option.map_map]
                congr 1
                funext k
                show n + (k + 1) = n + 1 + k
                omega) (by omega)
              refine B.run okX11_transfersToBalance [(24, [0, 1, 2, 3]), (55, [0, 2, 3])] 60 ?_
              constructor
              · intro _
                rw [← nI_1] at z
                exact z
              · intro w2
                exact absurd rfl w2
          · intro w
            have hev := of_decide_eq_true (b2_ne0.mp w)
            have eu : tbR a (twI T) (f + 1) T' (tmI T') C' = some 0 := if_pos (by rw [etr]; exact hev)
            exact out m' n true hk hy (Or.inl ⟨rfl, by rw [hR, eu]; rfl⟩)
    refine B.run okX11_transfersToBalance [(24, [0, 1, 2, 3])] 60 ?_
    refine At.mV [vI 0, vI 11] [] B.1 (n_copies (wT m 0) 0 11 (by decide) (by decide) (by decide)) kX11_copies ln_X11_33 F (dcV okX11_transfersToBalance rfl) ?_
    have z := loop (M + 1) (wA (wT m 0) (cpF (zA m) 0 11)) T C 0 M (cp_agree r hT) (fun _ _ => rfl) ⟨zR m, rfl⟩ hT hV rfl eM (by omega) (by
      rw [eR]
      cases tbR a (twI T) (M + 1) T (tmI T) C with
      | none => rfl
      | some k => show some k = some (0 + k); rw [Nat.zero_add]) (by omega)
    exact z
end NTB2
