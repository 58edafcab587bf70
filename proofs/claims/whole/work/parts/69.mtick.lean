/-! ===== the model: storms strike, a minute passes ===== -/
def pasT (T : SH) (q : Nat) : SH := (T.1, T.2.1, (gsc T - 1, shl (gmi T) q (gsc T - 1), shl (gsg T) q (gsc T - 1), glc T, glg T), T.2.2.2)
def logT (T : SH) : SH := (T.1, T.2.1, (gsc T, gmi T, gsg T, lgN (glc T), upd (shr (glg T) 0 (lgN (glc T) - 1)) 0 (gmn T)), T.2.2.2)
def puT (T : SH) (x : Int64) : SH := (T.1, T.2.1, T.2.2.1, (gmn T, gpw T, glm T, gsk T, x))
theorem stQ_eq (T : SH) (q : Nat) : stQ T q = logT (pasT T q) := rfl
def sh2 (f : FI) (a b : Nat) : FI := fun j => if a ≤ j ∧ j < b then f (j + 2) else f j
theorem sh2_put (f : FI) (a i : Nat) (h : a ≤ i) : upd (sh2 f a i) i (sh2 f a i (i + 2)) = sh2 f a (i + 1) := by
  funext j
  unfold upd sh2
  by_cases e : j = i
  · subst e
    rw [if_pos rfl, if_neg (by omega), if_pos (by omega)]
  · rw [if_neg e]
    by_cases e2 : a ≤ j ∧ j < i
    · rw [if_pos e2, if_pos (by omega)]
    · rw [if_neg e2, if_neg (by omega)]
theorem RS.pas {T : SH} {f : FI} (r : RS T f) (hT : WF T) {q : Nat} (hq : q < gsc T) : RS (pasT T q) (upd (upd (upd (sh2 f (98 + 2 * q) (98 + 2 * (gsc T - 1))) (98 + 2 * (gsc T - 1)) 0) (98 + 2 * (gsc T - 1) + 1) 0) 7 (nI (gsc T - 1))) := by
  obtain ⟨⟨a0, a1, a2, a3, a4, a5, a6, a7, a8, a9⟩, b, c, d, e⟩ := r
  obtain ⟨h1, h2, h3, h4, -⟩ := hT
  generalize hg : upd (upd (upd (sh2 f (98 + 2 * q) (98 + 2 * (gsc T - 1))) (98 + 2 * (gsc T - 1)) 0) (98 + 2 * (gsc T - 1) + 1) 0) 7 (nI (gsc T - 1)) = g
  have N : ∀ j, j ≠ 7 → (j < 98 ∨ 110 ≤ j) → g j = f j := fun j h7 hj => by
    rw [← hg, upd_ne _ _ h7, upd_ne _ _ (by omega), upd_ne _ _ (by omega)]
    unfold sh2
    rw [if_neg (by omega)]
  have S : ∀ j, 98 ≤ j → j < 98 + 2 * (gsc T - 1) → g j = if 98 + 2 * q ≤ j then f (j + 2) else f j := fun j h8 hj => by
    rw [← hg, upd_ne _ _ (by omega), upd_ne _ _ (by omega), upd_ne _ _ (by omega)]
    unfold sh2
    by_cases z : 98 + 2 * q ≤ j
    · rw [if_pos ⟨z, hj⟩, if_pos z]
    · rw [if_neg (fun w => z w.1), if_neg z]
  refine ⟨⟨(N _ (by decide) (by decide)).trans a0, (N _ (by decide) (by decide)).trans a1, (N _ (by decide) (by decide)).trans a2, (N _ (by decide) (by decide)).trans a3, (N _ (by decide) (by decide)).trans a4, (N _ (by decide) (by decide)).trans a5, (N _ (by decide) (by decide)).trans a6, by rw [← hg, upd_eq]; rfl, (N _ (by decide) (by decide)).trans a8, by rw [N _ (by decide) (by decide)]; exact a9⟩, fun j hj => ?_, fun j hj => ?_, fun j hj => ?_, fun j hj => ?_⟩
  · have hj : j < gc T := hj
    exact ⟨(N _ (by omega) (by omega)).trans (b j hj).1, (N _ (by omega) (by omega)).trans (b j hj).2.1, (N _ (by omega) (by omega)).trans (b j hj).2.2.1, (N _ (by omega) (by omega)).trans (b j hj).2.2.2.1, (N _ (by omega) (by omega)).trans (b j hj).2.2.2.2⟩
  · have hj : j < gp T := hj
    exact ⟨(N _ (by omega) (by omega)).trans (c j hj).1, (N _ (by omega) (by omega)).trans (c j hj).2.1, (N _ (by omega) (by omega)).trans (c j hj).2.2⟩
  · have hj : j < gsc T - 1 := hj
    rw [S _ (by omega) (by omega), S _ (by omega) (by omega)]
    show _ = (if q ≤ j ∧ j < gsc T - 1 then gmi T (j + 1) else gmi T j) ∧ _ = (if q ≤ j ∧ j < gsc T - 1 then gsg T (j + 1) else gsg T j)
    by_cases z : q ≤ j
    · rw [if_pos (by omega), if_pos (by omega), if_pos (by omega), if_pos (by omega)]
      exact d (j + 1) (by omega)
    · rw [if_neg (by omega), if_neg (by omega), if_neg (by omega), if_neg (by omega)]
      exact d j (by omega)
  · have hj : j < glc T := hj
    exact (N _ (by omega) (by omega)).trans (e j hj)
theorem RS.log {T : SH} {f : FI} (r : RS T f) (hT : WF T) : RS (logT T) (upd (upd (shr f 110 115) 110 (f 0)) 8 (if 6 ≤ f 8 then 6 else f 8 + 1)) := by
  obtain ⟨⟨a0, a1, a2, a3, a4, a5, a6, a7, a8, a9⟩, b, c, d, e⟩ := r
  obtain ⟨h1, h2, h3, h4, -⟩ := hT
  have ev : (if (6 : Int32) ≤ f 8 then 6 else f 8 + 1) = nI (lgN (glc T)) := by
    rw [a8]
    unfold lgN
    by_cases z : glc T < 6
    · rw [if_pos z, if_neg (show ¬ (6 : Int32) ≤ nI (glc T) from nI_ge z (by decide)), nI_1]
    · rw [if_neg z, if_pos (show (6 : Int32) ≤ nI (glc T) from nI_le (a := 6) (by omega) (by omega))]; rfl
  rw [ev]
  generalize hg : upd (upd (shr f 110 115) 110 (f 0)) 8 (nI (lgN (glc T))) = g
  have N : ∀ j, j ≠ 8 → j < 110 → g j = f j := fun j h7 hj => by
    rw [← hg, upd_ne _ _ h7, upd_ne _ _ (by omega)]
    unfold shr
    rw [if_neg (by omega)]
  refine ⟨⟨(N _ (by decide) (by decide)).trans a0, (N _ (by decide) (by decide)).trans a1, (N _ (by decide) (by decide)).trans a2, (N _ (by decide) (by decide)).trans a3, (N _ (by decide) (by decide)).trans a4, (N _ (by decide) (by decide)).trans a5, (N _ (by decide) (by decide)).trans a6, (N _ (by decide) (by decide)).trans a7, by rw [← hg, upd_eq]; rfl, by rw [N _ (by decide) (by decide)]; exact a9⟩, fun j hj => ?_, fun j hj => ?_, fun j hj => ?_, fun j hj => ?_⟩
  · have hj : j < gc T := hj
    exact ⟨(N _ (by omega) (by omega)).trans (b j hj).1, (N _ (by omega) (by omega)).trans (b j hj).2.1, (N _ (by omega) (by omega)).trans (b j hj).2.2.1, (N _ (by omega) (by omega)).trans (b j hj).2.2.2.1, (N _ (by omega) (by omega)).trans (b j hj).2.2.2.2⟩
  · have hj : j < gp T := hj
    exact ⟨(N _ (by omega) (by omega)).trans (c j hj).1, (N _ (by omega) (by omega)).trans (c j hj).2.1, (N _ (by omega) (by omega)).trans (c j hj).2.2⟩
  · have hj : j < gsc T := hj
    exact ⟨(N _ (by omega) (by omega)).trans (d j hj).1, (N _ (by omega) (by omega)).trans (d j hj).2⟩
  · have hj : j < lgN (glc T) := hj
    have hl : lgN (glc T) ≤ glc T + 1 ∧ lgN (glc T) ≤ 6 := by unfold lgN; split <;> omega
    show g (110 + j) = upd (shr (glg T) 0 (lgN (glc T) - 1)) 0 (gmn T) j
    rw [← hg, upd_ne _ _ (by omega)]
    by_cases z : j = 0
    · subst z
      rw [upd_eq, upd_eq]; exact a0
    · rw [upd_ne _ _ (by omega), upd_ne _ _ z]
      unfold shr
      rw [if_pos (by omega), if_pos (by omega), show 110 + j - 1 = 110 + (j - 1) by omega]
      exact e (j - 1) (by omega)
theorem RS.setM {T : SH} {f : FI} (r : RS T f) (hT : WF T) (x : Int32) : RS (stM T x) (upd f 0 x) := by
  obtain ⟨⟨a0, a1, a2, a3, a4, a5, a6, a7, a8, a9⟩, b, c, d, e⟩ := r
  obtain ⟨h1, h2, h3, h4, -⟩ := hT
  have N : ∀ j, j ≠ 0 → upd f 0 x j = f j := fun j hj => upd_ne f _ hj
  refine ⟨⟨upd_eq _ _ _, (N _ (by decide)).trans a1, (N _ (by decide)).trans a2, (N _ (by decide)).trans a3, (N _ (by decide)).trans a4, (N _ (by decide)).trans a5, (N _ (by decide)).trans a6, (N _ (by decide)).trans a7, (N _ (by decide)).trans a8, by rw [N _ (by decide)]; exact a9⟩, fun j hj => ?_, fun j hj => ?_, fun j hj => ?_, fun j hj => ?_⟩
  · have hj : j < gc T := hj
    exact ⟨(N _ (by omega)).trans (b j hj).1, (N _ (by omega)).trans (b j hj).2.1, (N _ (by omega)).trans (b j hj).2.2.1, (N _ (by omega)).trans (b j hj).2.2.2.1, (N _ (by omega)).trans (b j hj).2.2.2.2⟩
  · have hj : j < gp T := hj
    exact ⟨(N _ (by omega)).trans (c j hj).1, (N _ (by omega)).trans (c j hj).2.1, (N _ (by omega)).trans (c j hj).2.2⟩
  · have hj : j < gsc T := hj
    exact ⟨(N _ (by omega)).trans (d j hj).1, (N _ (by omega)).trans (d j hj).2⟩
  · have hj : j < glc T := hj
    exact (N _ (by omega)).trans (e j hj)
theorem RS.setPu {T : SH} {f : FI} (r : RS T f) (hT : WF T) (x : Int32) : RS (puT T x.toInt64) (upd f 9 x) := by
  obtain ⟨⟨a0, a1, a2, a3, a4, a5, a6, a7, a8, a9⟩, b, c, d, e⟩ := r
  obtain ⟨h1, h2, h3, h4, -⟩ := hT
  have N : ∀ j, j ≠ 9 → upd f 9 x j = f j := fun j hj => upd_ne f _ hj
  refine ⟨⟨(N _ (by decide)).trans a0, (N _ (by decide)).trans a1, (N _ (by decide)).trans a2, (N _ (by decide)).trans a3, (N _ (by decide)).trans a4, (N _ (by decide)).trans a5, (N _ (by decide)).trans a6, (N _ (by decide)).trans a7, (N _ (by decide)).trans a8, congrArg Int32.toInt64 (upd_eq _ _ _)⟩, fun j hj => ?_, fun j hj => ?_, fun j hj => ?_, fun j hj => ?_⟩
  · have hj : j < gc T := hj
    exact ⟨(N _ (by omega)).trans (b j hj).1, (N _ (by omega)).trans (b j hj).2.1, (N _ (by omega)).trans (b j hj).2.2.1, (N _ (by omega)).trans (b j hj).2.2.2.1, (N _ (by omega)).trans (b j hj).2.2.2.2⟩
  · have hj : j < gp T := hj
    exact ⟨(N _ (by omega)).trans (c j hj).1, (N _ (by omega)).trans (c j hj).2.1, (N _ (by omega)).trans (c j hj).2.2⟩
  · have hj : j < gsc T := hj
    exact ⟨(N _ (by omega)).trans (d j hj).1, (N _ (by omega)).trans (d j hj).2⟩
  · have hj : j < glc T := hj
    exact (N _ (by omega)).trans (e j hj)
theorem RS.setSk {T : SH} {f : FI} (r : RS T f) (hT : WF T) (x : Int32) : RS ((T.1, T.2.1, T.2.2.1, (gmn T, gpw T, glm T, x, gpu T))) (upd f 6 x) := by
  obtain ⟨⟨a0, a1, a2, a3, a4, a5, a6, a7, a8, a9⟩, b, c, d, e⟩ := r
  obtain ⟨h1, h2, h3, h4, -⟩ := hT
  have N : ∀ j, j ≠ 6 → upd f 6 x j = f j := fun j hj => upd_ne f _ hj
  refine ⟨⟨(N _ (by decide)).trans a0, (N _ (by decide)).trans a1, (N _ (by decide)).trans a2, (N _ (by decide)).trans a3, (N _ (by decide)).trans a4, (N _ (by decide)).trans a5, upd_eq _ _ _, (N _ (by decide)).trans a7, (N _ (by decide)).trans a8, by rw [N _ (by decide)]; exact a9⟩, fun j hj => ?_, fun j hj => ?_, fun j hj => ?_, fun j hj => ?_⟩
  · have hj : j < gc T := hj
    exact ⟨(N _ (by omega)).trans (b j hj).1, (N _ (by omega)).trans (b j hj).2.1, (N _ (by omega)).trans (b j hj).2.2.1, (N _ (by omega)).trans (b j hj).2.2.2.1, (N _ (by omega)).trans (b j hj).2.2.2.2⟩
  · have hj : j < gp T := hj
    exact ⟨(N _ (by omega)).trans (c j hj).1, (N _ (by omega)).trans (c j hj).2.1, (N _ (by omega)).trans (c j hj).2.2⟩
  · have hj : j < gsc T := hj
    exact ⟨(N _ (by omega)).trans (d j hj).1, (N _ (by omega)).trans (d j hj).2⟩
  · have hj : j < glc T := hj
    exact (N _ (by omega)).trans (e j hj)
theorem RS.setPw {T : SH} {f : FI} (r : RS T f) (hT : WF T) (x : Int32) : RS ((T.1, T.2.1, T.2.2.1, (gmn T, x, glm T, gsk T, gpu T))) (upd f 4 x) := by
  obtain ⟨⟨a0, a1, a2, a3, a4, a5, a6, a7, a8, a9⟩, b, c, d, e⟩ := r
  obtain ⟨h1, h2, h3, h4, -⟩ := hT
  have N : ∀ j, j ≠ 4 → upd f 4 x j = f j := fun j hj => upd_ne f _ hj
  refine ⟨⟨(N _ (by decide)).trans a0, (N _ (by decide)).trans a1, (N _ (by decide)).trans a2, (N _ (by decide)).trans a3, upd_eq _ _ _, (N _ (by decide)).trans a5, (N _ (by decide)).trans a6, (N _ (by decide)).trans a7, (N _ (by decide)).trans a8, by rw [N _ (by decide)]; exact a9⟩, fun j hj => ?_, fun j hj => ?_, fun j hj => ?_, fun j hj => ?_⟩
  · have hj : j < gc T := hj
    exact ⟨(N _ (by omega)).trans (b j hj).1, (N _ (by omega)).trans (b j hj).2.1, (N _ (by omega)).trans (b j hj).2.2.1, (N _ (by omega)).trans (b j hj).2.2.2.1, (N _ (by omega)).trans (b j hj).2.2.2.2⟩
  · have hj : j < gp T := hj
    exact ⟨(N _ (by omega)).trans (c j hj).1, (N _ (by omega)).trans (c j hj).2.1, (N _ (by omega)).trans (c j hj).2.2⟩
  · have hj : j < gsc T := hj
    exact ⟨(N _ (by omega)).trans (d j hj).1, (N _ (by omega)).trans (d j hj).2⟩
  · have hj : j < glc T := hj
    exact (N _ (by omega)).trans (e j hj)
theorem RS.setLm {T : SH} {f : FI} (r : RS T f) (hT : WF T) (x : Int32) : RS ((T.1, T.2.1, T.2.2.1, (gmn T, gpw T, x, gsk T, gpu T))) (upd f 5 x) := by
  obtain ⟨⟨a0, a1, a2, a3, a4, a5, a6, a7, a8, a9⟩, b, c, d, e⟩ := r
  obtain ⟨h1, h2, h3, h4, -⟩ := hT
  have N : ∀ j, j ≠ 5 → upd f 5 x j = f j := fun j hj => upd_ne f _ hj
  refine ⟨⟨(N _ (by decide)).trans a0, (N _ (by decide)).trans a1, (N _ (by decide)).trans a2, (N _ (by decide)).trans a3, (N _ (by decide)).trans a4, upd_eq _ _ _, (N _ (by decide)).trans a6, (N _ (by decide)).trans a7, (N _ (by decide)).trans a8, by rw [N _ (by decide)]; exact a9⟩, fun j hj => ?_, fun j hj => ?_, fun j hj => ?_, fun j hj => ?_⟩
  · have hj : j < gc T := hj
    exact ⟨(N _ (by omega)).trans (b j hj).1, (N _ (by omega)).trans (b j hj).2.1, (N _ (by omega)).trans (b j hj).2.2.1, (N _ (by omega)).trans (b j hj).2.2.2.1, (N _ (by omega)).trans (b j hj).2.2.2.2⟩
  · have hj : j < gp T := hj
    exact ⟨(N _ (by omega)).trans (c j hj).1, (N _ (by omega)).trans (c j hj).2.1, (N _ (by omega)).trans (c j hj).2.2⟩
  · have hj : j < gsc T := hj
    exact ⟨(N _ (by omega)).trans (d j hj).1, (N _ (by omega)).trans (d j hj).2⟩
  · have hj : j < glc T := hj
    exact (N _ (by omega)).trans (e j hj)
section ND
variable {m : MS} {T : SH}
theorem n_passesBy (r : RS T (zA m)) (hT : WF T) (q : Nat) (hq : q < gsc T) : Sp 0 0 0 mX11_passesBy [vR 0 0, vI (nI q)] (mdl m) (PoE (some (vI (gsg T q))) (fun m' => CH m m' (pasT T q))) := by
  refine Sp.of' false (fun h => by cases h) (by decide) rfl rfl (Nat.le_of_ble_eq_true rfl) fun γ σ B => ?_
  have e7 : zA m 7 = nI (gsc T) := r.1.2.2.2.2.2.2.2.1
  have hs := hT.2.2.1
  obtain ⟨c, hc⟩ : ∃ c, gsc T = c + 1 := ⟨gsc T - 1, by omega⟩
  have hlast : zA m 7 - 1 = nI c := by rw [e7, hc, nI_pred]
  have hd := r.2.2.2.1 q hq
  have R1 := r.pas hT hq
  rw [hc, Nat.add_sub_cancel] at R1
  have loop : ∀ (j i : Nat), i + j = 2 * c → 2 * q ≤ i → At γ σ 0 0 29 [(0, vR 0 0), (1, vI (nI q)), (2, vI (nI c)), (3, vI (gsg T q)), (4, vI (nI i))] [] (mdl (wA m (sh2 (zA m) (98 + 2 * q) (98 + i)))) := by
    intro j
    induction j with
    | zero =>
      intro i hi hq2
      have hi : i = 2 * c := by omega
      subst hi
      refine B.run okX11_passesBy [(29, [0, 1, 2, 3, 4])] 60 ?_
      have e2 : (2 : Int32) * nI c = nI (2 * c) := by rw [show (2 : Int32) = nI 2 from rfl, nI_mul]
      have e98 : (98 : Int32) + 2 * nI c = nI (98 + 2 * c) := ix2 98 c
      constructor
      · intro _
        have e99 : (98 : Int32) + 2 * nI c + 1 = nI (98 + 2 * c + 1) := by rw [e98, nI_1]
        refine ⟨by rw [e98]; exact vp_in_nI (by omega) (by decide), by rw [e99]; exact vp_in_nI (by omega) (by decide), vk, ?_⟩
        rw [e99, e98, nI_clamp (by omega), nI_clamp (by omega)]
        refine rE (m' := wA m _) (CH.up R1 fun j hj => ?_)
        rw [upd_ne _ _ (by omega), upd_ne _ _ (by omega), upd_ne _ _ (by omega)]
        unfold sh2
        rw [if_neg (by omega)]
      · intro h
        have h : ¬ (2 : Int32) * nI c ≤ nI (2 * c) := h
        rw [e2] at h
        exact absurd (nI_le (Nat.le_refl _) (by omega)) h
    | succ j ih =>
      intro i hi hq2
      have e2 : (2 : Int32) * nI c = nI (2 * c) := by rw [show (2 : Int32) = nI 2 from rfl, nI_mul]
      have E1 : (98 : Int32) + nI i = nI (98 + i) := nI_add 98 i
      have E2 : (98 : Int32) + nI i + 2 = nI (98 + i + 2) := by rw [E1]; exact nI_add (98 + i) 2
      refine B.run okX11_passesBy [(29, [0, 1, 2, 3, 4])] 60 ?_
      constructor
      · intro h
        have h : (2 : Int32) * nI c ≤ nI i := h
        rw [e2] at h
        exact absurd h (nI_ge (by omega) (by omega))
      · intro _
        refine ⟨by rw [E2]; exact vp_in_nI (by omega) (by decide), by rw [E1]; exact vp_in_nI (by omega) (by decide), ?_⟩
        rw [E2, E1, nI_clamp (by omega), nI_clamp (by omega)]
        have z := ih (i + 1) (by omega) (by omega)
        rw [← nI_1, show 98 + (i + 1) = 98 + i + 1 by omega, ← sh2_put (zA m) (98 + 2 * q) (98 + i) (by omega)] at z
        exact z
  refine B.run okX11_passesBy [(29, [0, 1, 2, 3, 4])] 60 ?_
  have ei : (98 : Int32) + 2 * nI q + 1 = nI (98 + 2 * q + 1) := by rw [← nI_1]; exact congrArg (· + 1) (ix2 98 q)
  have e2q : (2 : Int32) * nI q = nI (2 * q) := by rw [show (2 : Int32) = nI 2 from rfl, nI_mul]
  refine ⟨vk, by rw [ei]; exact vp_in_nI (by omega) (by decide), ?_⟩
  rw [ei, nI_clamp (by omega)]
  have z := loop (2 * c - 2 * q) (2 * q) (by omega) (Nat.le_refl _)
  have e0 : sh2 (zA m) (98 + 2 * q) (98 + 2 * q) = zA m := by
    funext j
    unfold sh2
    rw [if_neg (by omega)]
  rw [e0, ← hlast, ← hd.2, ← e2q] at z
  exact z
end ND
