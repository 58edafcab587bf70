/-! ===== the ships of the class and the rows of the model ===== -/
def RP (S : SH) (f : FI) : Prop := ∃ T, SP S T ∧ RS T f
theorem RP.agree {S : SH} {f g : FI} (h : RP S f) (hS : WF S) (e : ∀ j, j < 116 → g j = f j) : RP S g := by
  obtain ⟨T, h1, h2⟩ := h
  exact ⟨T, h1, h2.agree e (h1.wf hS)⟩
theorem RP.cp {S : SH} {f : FI} (h : RP S f) (A : SH) : RP (cpS A S) f := by
  obtain ⟨T, ⟨a, b, rfl, p, s⟩, h2⟩ := h
  exact ⟨stSt (cpS A S) (gsc S, a, b, glc S, glg S), ⟨a, b, rfl, p, s⟩, h2⟩
theorem RP.un {S A : SH} {f : FI} (h : RP (cpS A S) f) : RP S f := by
  obtain ⟨T, ⟨a, b, rfl, p, s⟩, h2⟩ := h
  exact ⟨stSt S (gsc S, a, b, glc S, glg S), ⟨a, b, rfl, p, s⟩, h2⟩
/-- the ring of the class and the rows 1 to n -/
def HRel (H : Nat × Nat × (Nat → SH)) (m : MS) : Prop := H.1 < 8 ∧ H.2.1 ≤ 8 ∧ (∀ i, WF (H.2.2 i)) ∧ zN m = nI H.2.1 ∧ ∀ k, 1 ≤ k → k ≤ H.2.1 → RP (H.2.2 ((H.1 + 7 + k - H.2.1) % 8)) (fun j => zA m (116 * k + j))
theorem HRel.push {H : Nat × Nat × (Nat → SH)} {m m' : MS} {S T' : SH} (h : HRel H m) (r : RP S (zA m)) (hS : WF S) (c : PCh 0 H.2.1 m m' T') : HRel (keepH H S) m' := by
  obtain ⟨nx, ct, G⟩ := H
  obtain ⟨h1, h2, hw, h3, h4⟩ := h
  obtain ⟨⟨y, c1⟩, -, c2⟩ := c
  obtain ⟨-, -, c2⟩ := c2 rfl
  have h1 : nx < 8 := h1
  have h2 : ct ≤ 8 := h2
  have h4 : ∀ k, 1 ≤ k → k ≤ ct → RP (G ((nx + 7 + k - ct) % 8)) (fun j => zA m (116 * k + j)) := h4
  have hn : enN ct = if ct < 8 then ct + 1 else 8 := rfl
  have c2 : ∀ k j, 1 ≤ k → k ≤ enN ct → j < 116 → zA m' (116 * k + j) = if k = enN ct then zA m j else if ct < 8 then zA m (116 * k + j) else zA m (116 * (k + 1) + j) := c2
  have hu : ∀ i, WF (updS G nx (cpS (G nx) S) i) := fun i => by
    unfold updS
    split
    · exact hS
    · exact hw i
  refine ⟨Nat.mod_lt _ (by decide), by show (if ct < 8 then ct + 1 else 8) ≤ 8; split <;> omega, hu, ?_, ?_⟩
  · show m'.2.1.2.1 = _
    rw [c1]
    rfl
  · intro k hk hk2
    have hk2 : k ≤ enN ct := hk2
    show RP (updS G nx (cpS (G nx) S) (((nx + 1) % 8 + 7 + k - enN ct) % 8)) (fun j => zA m' (116 * k + j))
    by_cases e : k = enN ct
    · have ei : ((nx + 1) % 8 + 7 + k - enN ct) % 8 = nx := by omega
      rw [ei]
      have z : updS G nx (cpS (G nx) S) nx = cpS (G nx) S := by
        unfold updS
        rw [if_pos rfl]
      rw [z]
      refine RP.agree (r.cp _) hS fun j hj => ?_
      show zA m' (116 * k + j) = zA m j
      rw [c2 k j hk hk2 hj, if_pos e]
    · by_cases g : ct < 8
      · have hn : enN ct = ct + 1 := by rw [hn, if_pos g]
        have ei : ((nx + 1) % 8 + 7 + k - enN ct) % 8 = (nx + 7 + k - ct) % 8 := by omega
        have ne : (nx + 7 + k - ct) % 8 ≠ nx := by omega
        rw [ei]
        have z : updS G nx (cpS (G nx) S) ((nx + 7 + k - ct) % 8) = G ((nx + 7 + k - ct) % 8) := by
          unfold updS
          rw [if_neg ne]
        rw [z]
        refine RP.agree (h4 k hk (by omega)) (hw _) fun j hj => ?_
        show zA m' (116 * k + j) = zA m (116 * k + j)
        rw [c2 k j hk hk2 hj, if_neg e, if_pos g]
      · have hn : enN ct = 8 := by rw [hn, if_neg g]
        have ei : ((nx + 1) % 8 + 7 + k - enN ct) % 8 = (nx + 7 + (k + 1) - ct) % 8 := by omega
        have ne : (nx + 7 + (k + 1) - ct) % 8 ≠ nx := by omega
        rw [ei]
        have z : updS G nx (cpS (G nx) S) ((nx + 7 + (k + 1) - ct) % 8) = G ((nx + 7 + (k + 1) - ct) % 8) := by
          unfold updS
          rw [if_neg ne]
        rw [z]
        refine RP.agree (h4 (k + 1) (by omega) (by omega)) (hw _) fun j hj => ?_
        show zA m' (116 * k + j) = zA m (116 * (k + 1) + j)
        rw [c2 k j hk hk2 hj, if_neg e, if_neg g]
theorem HRel.undo {H : Nat × Nat × (Nat → SH)} {m : MS} (h : HRel H m) (h0 : ¬ H.2.1 = 0) (S : SH) :
    HRel (ndx H, H.2.1 - 1, H.2.2) (wN (wT (wA m (cpF (zA m) H.2.1 0)) 0) (nI (H.2.1 - 1))) ∧ RP (cpS S (H.2.2 (ndx H))) (cpF (zA m) H.2.1 0) := by
  obtain ⟨nx, ct, G⟩ := H
  obtain ⟨h1, h2, hw, h3, h4⟩ := h
  have h1 : nx < 8 := h1
  have h2 : ct ≤ 8 := h2
  have h0 : ¬ ct = 0 := h0
  have h4 : ∀ k, 1 ≤ k → k ≤ ct → RP (G ((nx + 7 + k - ct) % 8)) (fun j => zA m (116 * k + j)) := h4
  have hc : ∀ j, cpF (zA m) ct 0 j = if 116 * 0 ≤ j ∧ j < 116 * 0 + 116 then zA m (j - 116 * 0 + 116 * ct) else zA m j := fun _ => rfl
  refine ⟨⟨Nat.mod_lt _ (by decide), by show ct - 1 ≤ 8; omega, hw, rfl, fun k hk hk2 => ?_⟩, ?_⟩
  · have hk2 : k ≤ ct - 1 := hk2
    show RP (G (((nx + 7) % 8 + 7 + k - (ct - 1)) % 8)) (fun j => cpF (zA m) ct 0 (116 * k + j))
    have ei : ((nx + 7) % 8 + 7 + k - (ct - 1)) % 8 = (nx + 7 + k - ct) % 8 := by omega
    rw [ei]
    refine RP.agree (h4 k hk (by omega)) (hw _) fun j hj => ?_
    show cpF (zA m) ct 0 (116 * k + j) = zA m (116 * k + j)
    rw [hc, if_neg (by omega)]
  · show RP (cpS S (G ((nx + 7) % 8))) (cpF (zA m) ct 0)
    have z := h4 ct (by omega) (Nat.le_refl _)
    rw [show (nx + 7 + ct - ct) % 8 = (nx + 7) % 8 by omega] at z
    refine RP.agree (z.cp S) (hw _) fun j hj => ?_
    show cpF (zA m) ct 0 j = zA m (116 * ct + j)
    rw [hc, if_pos (by omega), show j - 116 * 0 + 116 * ct = 116 * ct + j by omega]
