/-! ===== the model: a storm strikes ===== -/
section NS
variable {m : MS} {T : SH}
/-- the log's turn, from pc 88 on -/
def strT (T : SH) (q : Nat) : SH := if 0 < gc T then stL (stQ T q) (upd (gl T) (fuN (ldI T) (gc T)) (minI (gl T (fuN (ldI T) (gc T)) + gsg T q) 20)) else stQ T q
theorem n_strikes (r : RS T (zA m)) (hT : WF T) (q : Nat) (hq : q < gsc T) : Sp 3 0 0 mX11_strikes [vR 0 0, vI (nI q)] (mdl m) (PoE none (fun m' => CH m m' (strT T q))) := by
  refine Sp.of' false (fun h => by cases h) (by decide) rfl rfl (Nat.le_of_ble_eq_true rfl) fun γ σ B => ?_
  have F : Fit γ 0 0 0 0 0 := fiW B (by decide) (Nat.zero_le _) (Nat.zero_le _)
  have F2 : Fit γ 0 0 2 0 0 := fiW B (by decide) (Nat.zero_le _) (Nat.zero_le _)
  have hc8 := hT.1
  -- the logs
  have logs : ∀ (m2 : MS) (T2 : SH) (a b c : Int32), RS T2 (zA m2) → WF T2 → (∀ j, 116 ≤ j → zA m2 j = zA m j) → m2.2 = m.2 → logT T2 = strT T q → ∀ (j i : Nat), i = j → i ≤ 5 → At γ σ 0 0 91 [(0, vR 0 0), (1, vI (nI q)), (2, vI a), (3, vI b), (4, vI c), (5, vI (nI i))] [] (mdl (wA m2 (shr (zA m2) (110 + i) 115))) := by
    intro m2 T2 a b c r2 hT2 hk hm2 hL j
    induction j with
    | zero =>
      intro i hi _
      subst hi
      have a8 : zA m2 8 = nI (glc T2) := r2.1.2.2.2.2.2.2.2.2.1
      have R := r2.log hT2
      refine B.run okX11_strikes [(91, [0, 1, 2, 3, 4, 5])] 60 ?_
      constructor
      · intro _
        refine ⟨vk, vk, vk, ?_⟩
        have ev : upd (shr (zA m2) (110 + 0) 115) 110 (shr (zA m2) (110 + 0) 115 0) = upd (shr (zA m2) 110 115) 110 (zA m2 0) := rfl
        constructor
        · intro h
          refine ⟨vk, ?_⟩
          refine rE (m' := wA m2 (upd (upd (shr (zA m2) 110 115) 110 (zA m2 0)) 8 6)) ⟨?_, fun j hj => ?_, hm2⟩ rfl
          · rw [← hL]
            have h2 : (6 : Int32) ≤ zA m2 8 := h
            rw [if_pos h2] at R
            exact R
          · show upd _ 8 _ j = _
            rw [upd_ne _ _ (by omega)]
            show upd _ 110 _ j = _
            rw [upd_ne _ _ (by omega)]
            unfold shr
            rw [if_neg (by omega)]
            exact hk j hj
        · intro h
          refine ⟨vk, vk, ?_⟩
          refine rE (m' := wA m2 (upd (upd (shr (zA m2) 110 115) 110 (zA m2 0)) 8 (zA m2 8 + 1))) ⟨?_, fun j hj => ?_, hm2⟩ rfl
          · rw [← hL]
            have h2 : ¬ (6 : Int32) ≤ zA m2 8 := h
            rw [if_neg h2] at R
            exact R
          · show upd _ 8 _ j = _
            rw [upd_ne _ _ (by omega)]
            show upd _ 110 _ j = _
            rw [upd_ne _ _ (by omega)]
            unfold shr
            rw [if_neg (by omega)]
            exact hk j hj
      · intro h
        exact absurd (show nI 0 ≤ 0 by decide) h
    | succ j ih =>
      intro i hi h5
      subst hi
      refine B.run okX11_strikes [(91, [0, 1, 2, 3, 4, 5])] 60 ?_
      constructor
      · intro h
        exact absurd h (nI_nle (by omega) (by omega))
      · intro _
        have E1 : (110 : Int32) + nI (j + 1) = nI (110 + j + 1) := nI_add 110 (j + 1)
        have E2 : (110 : Int32) + nI (j + 1) - 1 = nI (110 + j) := by rw [E1, nI_pred]
        refine ⟨by rw [E2]; exact vp_in_nI (by omega) (by decide), by rw [E1]; exact vp_in_nI (by omega) (by decide), ?_⟩
        rw [E2, E1, nI_clamp (by omega), nI_clamp (by omega)]
        have z := ih j rfl (by omega)
        rw [← shr_upd (zA m2) (110 + j) 115 (by omega)] at z
        rw [← pk_m1 j] at z
        exact z
  refine B.run okX11_strikes [(11, [0, 1, 2, 3, 4])] 60 ?_
  refine At.mE [vI (nI q)] [] B.1 (n_passesBy r hT q hq) kX11_passesBy ln_X11_74 F (dcV okX11_strikes rfl) fun m1 h1 => ?_
  obtain ⟨r1, k1, s1⟩ := h1
  have hT1 : WF (pasT T q) := ⟨hT.1, hT.2.1, by have := hT.2.2.1; show gsc T - 1 ≤ 6; omega, hT.2.2.2⟩
  have e1 : zA m1 1 = nI (gc T) := r1.1.2.1
  -- behind the search of the heaviest
  have behind : At γ σ 0 0 49 [(0, vR 0 0), (1, vI (nI q)), (2, vI (nI (fuN (ldI T) (gc T)))), (3, vI (gsg T q)), (4, vI (nI (if gc T = 0 then 1 else gc T)))] [] (mdl m1) := by
    have hmost : fuN (ldI T) (gc T) < 8 := by
      cases hh : gc T with
      | zero => show 0 < 8; decide
      | succ n => have := fuN_lt (ldI T) n; omega
    refine B.run okX11_strikes [(11, [0, 1, 2, 3, 4]), (91, [0, 1, 2, 3, 4, 5])] 60 ?_
    refine At.mI [vI (nI (fuN (ldI T) (gc T))), vI 3] [] B.1 (n_c m1 (fuN (ldI T) (gc T)) 3 (by omega)) kX11_c ln_X11_57 F (dcV okX11_strikes rfl) ?_
    refine B.run okX11_strikes [(11, [0, 1, 2, 3, 4]), (91, [0, 1, 2, 3, 4, 5])] 60 ?_
    refine ⟨vk, ?_⟩
    constructor
    · intro h
      have h : zA m1 1 ≤ 0 := h
      rw [e1] at h
      have h0 : gc T = 0 := by
        rcases Nat.eq_zero_or_pos (gc T) with z | z
        · exact z
        · exact absurd h (nI_nle z (by omega))
      have z := logs m1 (pasT T q) (nI (fuN (ldI T) (gc T))) (gsg T q) (zA m1 (10 + 5 * fuN (ldI T) (gc T) + 3) + gsg T q) r1 hT1 k1 s1 (by unfold strT; rw [if_neg (by omega)]; rfl) 5 5 rfl (by decide)
      have e : shr (zA m1) (110 + 5) 115 = zA m1 := shr_0 _ _
      rw [e] at z
      exact z
    · intro h
      have h : ¬ zA m1 1 ≤ 0 := h
      rw [e1] at h
      have h0 : 0 < gc T := by
        rcases Nat.eq_zero_or_pos (gc T) with z | z
        · rw [z] at h; exact absurd (show nI 0 ≤ 0 by decide) h
        · exact z
      have hml : fuN (ldI T) (gc T) < gc T := by
        cases hh : gc T with
        | zero => omega
        | succ n => exact fuN_lt (ldI T) n
      rw [show zA m1 (10 + 5 * fuN (ldI T) (gc T) + 3) = gl T (fuN (ldI T) (gc T)) from (r1.2.1 _ hml).2.2.2.1]
      have fin : ∀ y : Int32, y = minI (gl T (fuN (ldI T) (gc T)) + gsg T q) 20 → At γ σ 0 0 85 [(0, vR 0 0), (1, vI (nI q)), (2, vI (nI (fuN (ldI T) (gc T)))), (3, vI (gsg T q)), (4, vI (gl T (fuN (ldI T) (gc T)) + gsg T q))] [vI y, vI 3, vI (nI (fuN (ldI T) (gc T))), vR 0 0] (mdl m1) := fun y hy => by
        refine At.mV [vI (nI (fuN (ldI T) (gc T))), vI 3, vI y] [] B.1 (n_set m1 (fuN (ldI T) (gc T)) 3 y (by omega)) kX11_set ln_X11_77 F (dcV okX11_strikes rfl) ?_
        have R2 := r1.setL hT1 hmost y
        have z := logs (wA m1 (upd (zA m1) (10 + 5 * fuN (ldI T) (gc T) + 3) y)) _ (nI (fuN (ldI T) (gc T))) (gsg T q) (gl T (fuN (ldI T) (gc T)) + gsg T q) R2 hT1 (fun j hj => (upd_ne _ _ (by omega)).trans (k1 j hj)) s1 (by unfold strT; rw [if_pos h0, hy]; rfl) 5 5 rfl (by decide)
        have e : shr (upd (zA m1) (10 + 5 * fuN (ldI T) (gc T) + 3) y) (110 + 5) 115 = upd (zA m1) (10 + 5 * fuN (ldI T) (gc T) + 3) y := shr_0 _ _
        rw [show zA (wA m1 (upd (zA m1) (10 + 5 * fuN (ldI T) (gc T) + 3) y)) = upd (zA m1) (10 + 5 * fuN (ldI T) (gc T) + 3) y from rfl, e] at z
        refine B.run okX11_strikes [(91, [0, 1, 2, 3, 4, 5])] 60 ?_
        exact z
      constructor
      · intro h2
        exact fin _ (by unfold minI; rw [if_neg (Int32.not_lt.mpr h2)])
      · intro h2
        exact fin _ (by unfold minI; rw [if_pos (Int32.not_le.mp h2)])
  have loop : ∀ (j i : Nat), i + j = gc T → 1 ≤ i → At γ σ 0 0 11 [(0, vR 0 0), (1, vI (nI q)), (2, vI (nI (fuN (ldI T) i))), (3, vI (gsg T q)), (4, vI (nI i))] [] (mdl m1) := by
    intro j
    induction j with
    | zero =>
      intro i hi h1
      have hi : i = gc T := by omega
      rw [if_neg (by omega)] at behind
      refine B.run okX11_strikes [(11, [0, 1, 2, 3, 4]), (49, [0, 1, 2, 3, 4])] 60 ?_
      refine ⟨vk, ?_⟩
      constructor
      · intro _
        rw [hi]
        exact behind
      · intro h
        have h : ¬ zA m1 1 ≤ nI i := h
        rw [e1] at h
        exact absurd (nI_le (by omega) (by omega)) h
    | succ j ih =>
      intro i hi h1
      have hml : fuN (ldI T) i < i := by
        cases i with
        | zero => omega
        | succ n => exact fuN_lt (ldI T) n
      refine B.run okX11_strikes [(11, [0, 1, 2, 3, 4]), (49, [0, 1, 2, 3, 4])] 60 ?_
      refine ⟨vk, ?_⟩
      constructor
      · intro h
        have h : zA m1 1 ≤ nI i := h
        rw [e1] at h
        exact absurd h (nI_ge (by omega) (by omega))
      · intro _
        refine At.mI [vI (nI i)] [] B.1 (n_laden r1 hT1 i (by show i < gc T; omega)) kX11_laden ln_X11_64 F2 (dcV okX11_strikes rfl) ?_
        refine B.run okX11_strikes [(11, [0, 1, 2, 3, 4]), (49, [0, 1, 2, 3, 4])] 60 ?_
        refine At.mI [vI (nI (fuN (ldI T) i))] [vI (ldI T i)] B.1 (n_laden r1 hT1 (fuN (ldI T) i) (by show _ < gc T; omega)) kX11_laden ln_X11_64 F2 (dcV okX11_strikes rfl) ?_
        have z := ih (i + 1) (by omega) (by omega)
        rw [← nI_1] at z
        unfold fuN at z
        refine B.run okX11_strikes [(11, [0, 1, 2, 3, 4]), (49, [0, 1, 2, 3, 4])] 60 ?_
        constructor
        · intro h
          rw [if_neg (show ¬ ldI T (fuN (ldI T) i) < ldI T i from Int32.not_lt.mpr h)] at z
          exact z
        · intro h
          rw [if_pos (show ldI T (fuN (ldI T) i) < ldI T i from Int32.not_le.mp h)] at z
          exact z
  refine B.run okX11_strikes [(11, [0, 1, 2, 3, 4])] 60 ?_
  rcases Nat.eq_zero_or_pos (gc T) with h0 | h0
  · rw [if_pos h0] at behind
    refine B.run okX11_strikes [(49, [0, 1, 2, 3, 4])] 60 ?_
    refine ⟨vk, ?_⟩
    constructor
    · intro _
      rw [h0] at behind
      exact behind
    · intro h
      have h : ¬ zA m1 1 ≤ 1 := h
      rw [e1, h0] at h
      exact absurd (show nI 0 ≤ 1 by decide) h
  · have z := loop (gc T - 1) 1 (by omega) (Nat.le_refl _)
    have e1 : fuN (ldI T) 1 = 0 := by unfold fuN; rw [if_neg (show ¬ ldI T (fuN (ldI T) 0) < ldI T 0 from Int32.lt_irrefl)]; rfl
    rw [e1] at z
    show At γ σ 0 0 11 [(0, vR 0 0), (1, vI (nI q)), (2, vI 0), (3, vI (gsg T q)), (4, vI 1)] [] (mdl m1)
    exact z
end NS
