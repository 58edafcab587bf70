/-! ===== constructors: Hold, Cargo, Storms, Choice (every cell a region of its own) ===== -/
theorem s_X5_init : Sp 1 6 48 mX5_init [vR 0 0] [[aO 7 [vI 0, vN, vN, vN, vN, vN, vN]]] (PoV ([[aO 7 [vI 0, vR 1 0, vR 2 0, vR 3 0, vR 4 0, vR 5 0, vR 6 0]], [aI 8 (fun _ => 0)], [aI 8 (fun _ => 0)], [aI 8 (fun _ => 0)], [aI 8 (fun _ => 0)], [aI 8 (fun _ => 0)], [.inl (.boolean, 8, .inl (fun _ => 0))]])) := by
  refine Sp.of' true (fun _ => rfl) (by decide) rfl rfl (Nat.le_of_ble_eq_true rfl) fun γ σ B => ?_
  refine B.run okX5_init [] 60 ?_
  refine At.objI B.1 rfl (mT 53 (by decide +kernel) rfl) oi_inst oi_code (B.fit (by decide) (by decide) (by decide)) (Nat.le_of_ble_eq_true rfl) (dcI okX5_init rfl) ?_
  refine B.run okX5_init [] 60 ?_
  refine At.newA (N := 8) (ty := .int) B.1 rfl (fun _ _ _ => rfl) (mT 88 (by decide +kernel) rfl) (by decide) (by decide) (by decide) (by rw [B.2.2.2.1]; decide) (by rw [B.2.2.2.1]; decide) (dcNew okX5_init rfl) rfl rfl rfl fun σ1 g1 => ?_
  refine B.runX okX5_init [] 60 ?_
  refine ⟨trivial, ?_⟩
  refine At.newA (N := 8) (ty := .int) B.1 rfl (fun _ _ _ => rfl) (mT 88 (by decide +kernel) rfl) (by decide) (by decide) (by decide) (by rw [B.2.2.2.1]; decide) (by rw [B.2.2.2.1]; decide) (dcNew okX5_init rfl) rfl rfl rfl fun σ2 g2 => ?_
  refine B.runX okX5_init [] 60 ?_
  refine ⟨trivial, ?_⟩
  refine At.newA (N := 8) (ty := .int) B.1 rfl (fun _ _ _ => rfl) (mT 88 (by decide +kernel) rfl) (by decide) (by decide) (by decide) (by rw [B.2.2.2.1]; decide) (by rw [B.2.2.2.1]; decide) (dcNew okX5_init rfl) rfl rfl rfl fun σ3 g3 => ?_
  refine B.runX okX5_init [] 60 ?_
  refine ⟨trivial, ?_⟩
  refine At.newA (N := 8) (ty := .int) B.1 rfl (fun _ _ _ => rfl) (mT 88 (by decide +kernel) rfl) (by decide) (by decide) (by decide) (by rw [B.2.2.2.1]; decide) (by rw [B.2.2.2.1]; decide) (dcNew okX5_init rfl) rfl rfl rfl fun σ4 g4 => ?_
  refine B.runX okX5_init [] 60 ?_
  refine ⟨trivial, ?_⟩
  refine At.newA (N := 8) (ty := .int) B.1 rfl (fun _ _ _ => rfl) (mT 88 (by decide +kernel) rfl) (by decide) (by decide) (by decide) (by rw [B.2.2.2.1]; decide) (by rw [B.2.2.2.1]; decide) (dcNew okX5_init rfl) rfl rfl rfl fun σ5 g5 => ?_
  refine B.runX okX5_init [] 60 ?_
  refine ⟨trivial, ?_⟩
  refine At.newA (N := 8) (ty := .boolean) B.1 rfl (fun _ _ _ => rfl) (mT 89 (by decide +kernel) rfl) (by decide) (by decide) (by decide) (by rw [B.2.2.2.1]; decide) (by rw [B.2.2.2.1]; decide) (dcNew okX5_init rfl) rfl rfl rfl fun σ6 g6 => ?_
  refine B.runN (fun r hr o => (g6 r (Nat.lt_trans hr (by decide)) o).trans ((g5 r (Nat.lt_trans hr (by decide)) o).trans ((g4 r (Nat.lt_trans hr (by decide)) o).trans ((g3 r (Nat.lt_trans hr (by decide)) o).trans ((g2 r (Nat.lt_trans hr (by decide)) o).trans (g1 r hr o)))))) okX5_init [] 60 ?_
  exact ⟨trivial, ⟨rfl, rfl⟩, by decide, by decide, by decide⟩
theorem s_X1_init : Sp 1 3 48 mX1_init [vR 0 0] [[aO 4 [vI 0, vI 0, vN, vN, vN]]] (PoV ([[aO 4 [vI 0, vI 0, vR 1 0, vR 2 0, vR 3 0]], [aI 16 (fun _ => 0)], [aI 16 (fun _ => 0)], [aI 16 (fun _ => 0)]])) := by
  refine Sp.of' true (fun _ => rfl) (by decide) rfl rfl (Nat.le_of_ble_eq_true rfl) fun γ σ B => ?_
  refine B.run okX1_init [] 60 ?_
  refine At.objI B.1 rfl (mT 95 (by decide +kernel) rfl) oi_inst oi_code (B.fit (by decide) (by decide) (by decide)) (Nat.le_of_ble_eq_true rfl) (dcI okX1_init rfl) ?_
  refine B.run okX1_init [] 60 ?_
  refine At.newA (N := 16) (ty := .int) B.1 rfl (fun _ _ _ => rfl) (mT 88 (by decide +kernel) rfl) (by decide) (by decide) (by decide) (by rw [B.2.2.2.1]; decide) (by rw [B.2.2.2.1]; decide) (dcNew okX1_init rfl) rfl rfl rfl fun σ1 g1 => ?_
  refine B.runX okX1_init [] 60 ?_
  refine ⟨trivial, ?_⟩
  refine At.newA (N := 16) (ty := .int) B.1 rfl (fun _ _ _ => rfl) (mT 88 (by decide +kernel) rfl) (by decide) (by decide) (by decide) (by rw [B.2.2.2.1]; decide) (by rw [B.2.2.2.1]; decide) (dcNew okX1_init rfl) rfl rfl rfl fun σ2 g2 => ?_
  refine B.runX okX1_init [] 60 ?_
  refine ⟨trivial, ?_⟩
  refine At.newA (N := 16) (ty := .int) B.1 rfl (fun _ _ _ => rfl) (mT 88 (by decide +kernel) rfl) (by decide) (by decide) (by decide) (by rw [B.2.2.2.1]; decide) (by rw [B.2.2.2.1]; decide) (dcNew okX1_init rfl) rfl rfl rfl fun σ3 g3 => ?_
  refine B.runN (fun r hr o => (g3 r (Nat.lt_trans hr (by decide)) o).trans ((g2 r (Nat.lt_trans hr (by decide)) o).trans (g1 r hr o))) okX1_init [] 60 ?_
  exact ⟨trivial, ⟨rfl, rfl⟩, by decide, by decide, by decide⟩
theorem s_X9_init : Sp 1 3 18 mX9_init [vR 0 0] [[aO 10 [vI 0, vN, vN, vI 0, vN]]] (PoV ([[aO 10 [vI 0, vR 1 0, vR 2 0, vI 0, vR 3 0]], [aI 6 (fun _ => 0)], [aI 6 (fun _ => 0)], [aI 6 (fun _ => 0)]])) := by
  refine Sp.of' true (fun _ => rfl) (by decide) rfl rfl (Nat.le_of_ble_eq_true rfl) fun γ σ B => ?_
  refine B.run okX9_init [] 60 ?_
  refine At.objI B.1 rfl (mT 128 (by decide +kernel) rfl) oi_inst oi_code (B.fit (by decide) (by decide) (by decide)) (Nat.le_of_ble_eq_true rfl) (dcI okX9_init rfl) ?_
  refine B.run okX9_init [] 60 ?_
  refine At.newA (N := 6) (ty := .int) B.1 rfl (fun _ _ _ => rfl) (mT 88 (by decide +kernel) rfl) (by decide) (by decide) (by decide) (by rw [B.2.2.2.1]; decide) (by rw [B.2.2.2.1]; decide) (dcNew okX9_init rfl) rfl rfl rfl fun σ1 g1 => ?_
  refine B.runX okX9_init [] 60 ?_
  refine ⟨trivial, ?_⟩
  refine At.newA (N := 6) (ty := .int) B.1 rfl (fun _ _ _ => rfl) (mT 88 (by decide +kernel) rfl) (by decide) (by decide) (by decide) (by rw [B.2.2.2.1]; decide) (by rw [B.2.2.2.1]; decide) (dcNew okX9_init rfl) rfl rfl rfl fun σ2 g2 => ?_
  refine B.runX okX9_init [] 60 ?_
  refine ⟨trivial, ?_⟩
  refine At.newA (N := 6) (ty := .int) B.1 rfl (fun _ _ _ => rfl) (mT 88 (by decide +kernel) rfl) (by decide) (by decide) (by decide) (by rw [B.2.2.2.1]; decide) (by rw [B.2.2.2.1]; decide) (dcNew okX9_init rfl) rfl rfl rfl fun σ3 g3 => ?_
  refine B.runN (fun r hr o => (g3 r (Nat.lt_trans hr (by decide)) o).trans ((g2 r (Nat.lt_trans hr (by decide)) o).trans (g1 r hr o))) okX9_init [] 60 ?_
  exact ⟨trivial, ⟨rfl, rfl⟩, by decide, by decide, by decide⟩
theorem s_X2_init : Sp 1 0 0 mX2_init [vR 0 0] [[aO 5 [vI 0, vI 0, vI 0, vI 0]]] (PoV [[aO 5 [vI 0, vI 0, vI 0, vI 0]]]) := by
  refine Sp.of' true (fun _ => rfl) (by decide) rfl rfl (Nat.le_of_ble_eq_true rfl) fun γ σ B => ?_
  refine B.run okX2_init [] 60 ?_
  refine At.objI B.1 rfl (mT 208 (by decide +kernel) rfl) oi_inst oi_code (B.fit (by decide) (by decide) (by decide)) (Nat.le_of_ble_eq_true rfl) (dcI okX2_init rfl) ?_
  refine B.run okX2_init [] 60 ?_
  exact rV
