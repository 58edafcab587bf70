/-! ===== a run's minutes; further changes ===== -/
/-- a run's minutes -/
theorem rn_keep {nn : Nat} {kw : Nat → Nat} {rw' : Nat → FI} (hk : ∀ k, k < nn → kw k < 10) : ∀ (n i B : Nat) {S : SH}, i + n ≤ nn → VS S → WF S → MP B S → B + 120 * (n + 1) ≤ 1000000 → VS (rnF kw rw' n i S).2 ∧ WF (rnF kw rw' n i S).2 ∧ MP (B + 120 * n) (rnF kw rw' n i S).2
  | 0, _, B, _, _, hV, hS, hM, _ => ⟨hV, hS, hM⟩
  | n + 1, i, B, S, hi, hV, hS, hM, hB => by
    have h1 := hk i (by omega)
    unfold rnF
    by_cases f : fK (kw i) S (rw' i 0) (rw' i 1) (rw' i 2) = 0
    · rw [if_pos f]
      obtain ⟨z1, z2, z3⟩ := rn_keep hk n (i + 1) (B + 120) (by omega) (VS_eK hV hS _ _ _ _ h1 f) (WF_eK hS _ _ _ _ h1 f) (MP_eK hM (by omega) hV hS _ _ _ _ h1 f) (by omega)
      exact ⟨z1, z2, z3.le (by omega)⟩
    · rw [if_neg f]
      exact ⟨hV, hS, hM.le (by omega)⟩
theorem MP_lim {B : Nat} {S : SH} (h : MP B S) (x : Int32) : MP B (eLim S x) := h
theorem MP_can {B : Nat} {S : SH} (h : MP B S) (x : Int32) : MP B (eCan S x) := h
theorem MP_cp {B : Nat} {S : SH} (h : MP B S) (A : SH) : MP B (cpS A S) := h
theorem VS_cp {S : SH} (h : VS S) (A : SH) : VS (cpS A S) := h
theorem WF_cp {S : SH} (h : WF S) (A : SH) : WF (cpS A S) := h
/-! what the texts want: ids and storms -/
def IDB (B : Nat) (S : SH) : Prop := (∃ N : Nat, N ≤ B ∧ gnx S = nI N ∧ ∀ k, k < gp S → bI (gid S k) 0 N) ∧ ∀ i, i < gsc S → bI (gmi S i) 0 245760
theorem cg_b {S : SH} (h : VB S) (hS : WF S) (x : Int32) : bI (cgI (gwt S) (gpl S) x (gp S)) 0 800 := by
  have hp := hS.2.1
  exact (bI_cg (gp S) hp (fun k hk => (h.2.1 k hk).mono (by omega) (by omega))).mono (by omega) (by omega)
theorem NB_b {x : Int32} {a b : Int} (h : bI x a b) (h1 : -1000000 < a) (h2 : b < 1000000) : NB x := by
  obtain ⟨x1, x2⟩ := h
  show x.toInt.natAbs < 1000000
  omega
