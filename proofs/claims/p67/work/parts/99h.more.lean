/-! ===== a run's minutes; further changes ===== -/
theorem MP_lim {B : Nat} {S : SH} (h : MP B S) (x : Int32) : MP B (eLim S x) := h
theorem MP_can {B : Nat} {S : SH} (h : MP B S) (x : Int32) : MP B (eCan S x) := h
theorem MP_cp {B : Nat} {S : SH} (h : MP B S) (A : SH) : MP B (cpS A S) := h
theorem VS_cp {S : SH} (h : VS S) (A : SH) : VS (cpS A S) := h
theorem WF_cp {S : SH} (h : WF S) (A : SH) : WF (cpS A S) := h
/-! what the texts want: ids and storms -/
def IDB (B : Nat) (S : SH) : Prop := (∃ N : Nat, N ≤ B ∧ gnx S = nI N ∧ ∀ k, k < gp S → bI (gid S k) 0 N) ∧ ∀ i, i < gsc S → bI (gmi S i) 0 245760
theorem cg_b {S : SH} (h : VB S) (hS : WF S) (x : Int32) : bI (cgI (gwt S) (gpl S) x (gp S)) 0 800 := by
  have hp := hS.2.1
  exact (bI_cg (gp S) hp (fun k hk => (h.2.1 k hk).mono (by omega) (by omega))).mono (by omega) (by omega)
theorem NB_b {x : Int32} {a b : Int} (h : bI x a b) (h1 : -1000000 < a) (h2 : b < 1000000) : NB x := by
  obtain ⟨x1, x2⟩ := h
  show x.toInt.natAbs < 1000000
  omega
