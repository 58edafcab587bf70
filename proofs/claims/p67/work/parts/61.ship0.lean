/-! ===== a new ship ===== -/
def fShip (g : Nat) : AHp := [aO 9 [vR (g + 1) 0, vR (g + 8) 0, vR (g + 12) 0, vI 0, vI 2, vI 5, vI 0, vL 0]] :: (fHold (g + 1) ++ (fCargo (g + 8) ++ fStorms (g + 12)))
theorem fShip_r (g : Nat) : (fShip 0).map (fun x => x.map (renC (List.range' g 16))) = fShip g := rfl
theorem s_X8_init : Sp 2 15 131 mX8_init [vR 0 0] [[aO 9 [vN, vN, vN, vI 0, vI 0, vI 0, vI 0, vL 0]]] (PoV (fShip 0)) := by
  refine Sp.of' true (fun _ => rfl) (by decide) rfl rfl (Nat.le_of_ble_eq_true rfl) fun γ σ B => ?_
  refine B.run okX8_init [] 60 ?_
  refine At.objI B.1 rfl (mT 47 (by decide +kernel) rfl) oi_inst oi_code (B.fit (by decide) (by decide) (by decide)) (Nat.le_of_ble_eq_true rfl) (dcI okX8_init rfl) ?_
  refine B.run okX8_init [] 60 ?_
  refine At.mkN B.1 fHold (ci := 7) (C := RX5) (T := TX5) (N := 7) (m := 6) s_X5_init kX5_init nn_X8_11 rfl (mT 48 (by decide +kernel) rfl) (mT 49 (by decide +kernel) rfl) in_X5 (fun σ j hj => by
    have : j = 0 ∨ j = 1 ∨ j = 2 ∨ j = 3 ∨ j = 4 ∨ j = 5 ∨ j = 6 := by omega
    rcases this with rfl | rfl | rfl | rfl | rfl | rfl | rfl <;> rfl) rfl fHold_r (fun _ => rfl) rfl (by rw [B.2.2.2.1]; decide) (by rw [B.2.2.2.1]; decide) (B.fit (by decide) (by decide) (by decide)) (dcN okX8_init rfl) (dc1 okX8_init rfl (Or.inl rfl)) (dcI okX8_init rfl) rfl rfl rfl (Nat.le_of_ble_eq_true rfl) fun σ1 g1 => ?_
  show At γ σ1 (0 + 1 + 6) (0 + 7 + 48) 12 [(0, vR 0 0)] [vR 1 0, vR 0 0] ([aO 9 [vN, vN, vN, vI 0, vI 0, vI 0, vI 0, vL 0]] :: fHold 1)
  refine B.runX okX8_init [] 60 ?_
  refine ⟨trivial, ?_⟩
  show At γ σ1 (0 + 1 + 6) (0 + 7 + 48) 16 [(0, vR 0 0)] [vR 0 0] ([aO 9 [vR 1 0, vN, vN, vI 0, vI 0, vI 0, vI 0, vL 0]] :: fHold 1)
  refine At.mkN B.1 fCargo (ci := 4) (C := RX1) (T := TX1) (N := 5) (m := 3) s_X1_init kX1_init nn_X8_20 rfl (mT 90 (by decide +kernel) rfl) (mT 91 (by decide +kernel) rfl) in_X1 (fun σ j hj => by
    have : j = 0 ∨ j = 1 ∨ j = 2 ∨ j = 3 ∨ j = 4 := by omega
    rcases this with rfl | rfl | rfl | rfl | rfl <;> rfl) rfl fCargo_r (fun _ => rfl) rfl (by rw [B.2.2.2.1]; decide) (by rw [B.2.2.2.1]; decide) (B.fit (by decide) (by decide) (by decide)) (dcN okX8_init rfl) (dc1 okX8_init rfl (Or.inl rfl)) (dcI okX8_init rfl) rfl rfl rfl (Nat.le_of_ble_eq_true rfl) fun σ2 g2 => ?_
  show At γ σ2 (0 + 1 + 6 + 1 + 3) (0 + 7 + 48 + 5 + 48) 23 [(0, vR 0 0)] [vR 8 0, vR 0 0] ([aO 9 [vR 1 0, vN, vN, vI 0, vI 0, vI 0, vI 0, vL 0]] :: (fHold 1 ++ fCargo 8))
  refine B.runX okX8_init [] 60 ?_
  refine ⟨trivial, ?_⟩
  show At γ σ2 (0 + 1 + 6 + 1 + 3) (0 + 7 + 48 + 5 + 48) 27 [(0, vR 0 0)] [vR 0 0] ([aO 9 [vR 1 0, vR 8 0, vN, vI 0, vI 0, vI 0, vI 0, vL 0]] :: (fHold 1 ++ fCargo 8))
  refine At.mkN B.1 fStorms (ci := 10) (C := RX9) (T := TX9) (N := 5) (m := 3) s_X9_init kX9_init nn_X8_27 rfl (mT 123 (by decide +kernel) rfl) (mT 124 (by decide +kernel) rfl) in_X9 (fun σ j hj => by
    have : j = 0 ∨ j = 1 ∨ j = 2 ∨ j = 3 ∨ j = 4 := by omega
    rcases this with rfl | rfl | rfl | rfl | rfl <;> rfl) rfl fStorms_r (fun _ => rfl) rfl (by rw [B.2.2.2.1]; decide) (by rw [B.2.2.2.1]; decide) (B.fit (by decide) (by decide) (by decide)) (dcN okX8_init rfl) (dc1 okX8_init rfl (Or.inl rfl)) (dcI okX8_init rfl) rfl rfl rfl (Nat.le_of_ble_eq_true rfl) fun σ3 g3 => ?_
  show At γ σ3 (0 + 1 + 6 + 1 + 3 + 1 + 3) (0 + 7 + 48 + 5 + 48 + 5 + 18) 34 [(0, vR 0 0)] [vR 12 0, vR 0 0] ([aO 9 [vR 1 0, vR 8 0, vN, vI 0, vI 0, vI 0, vI 0, vL 0]] :: (fHold 1 ++ (fCargo 8 ++ fStorms 12)))
  refine B.runN (fun r hr o => (g3 r (Nat.lt_trans hr (by decide)) o).trans ((g2 r (Nat.lt_trans hr (by decide)) o).trans (g1 r hr o))) okX8_init [] 60 ?_
  exact ⟨trivial, trivial, trivial, ⟨rfl, rfl⟩, by decide, by decide, by decide⟩
