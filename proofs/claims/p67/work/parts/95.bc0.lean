/-! ===== a new BallastControl (flat: every cell a region of its own) ===== -/
/-- a new Program -/
def fPr (g : Nat) : AHp := [aO 8 [vR (g + 1) 0, vR (g + 2) 0, vR (g + 3) 0, vI 0, vI 0, vI 0]] :: [aB 0 16 z0] :: [aA (.object RX6) 8 (kwL 8)] :: (mnL (g + 3)).map (fun c => [c])
theorem fPr_l (g : Nat) : (fPr g).length = 12 := rfl
theorem fPr_r (g : Nat) : (fPr 0).map (fun x => x.map (renC (List.range' g 12))) = fPr g := rfl
theorem fPr_b : bdH 12 (fPr 0) = true := rfl
theorem fPr_bg (g : Nat) : bdH (g + 12) (fPr g) = true := by
  rw [← fPr_r g]
  exact bdH_ren (n := 12) fPr_b
def wB1 : AHp := fShip 1
def wB2 : AHp := wB1 ++ fShip 17
def wB3 : AHp := wB2 ++ fShip 33
def wB4 : AHp := wB3 ++ fShip 49
def wB5 : AHp := wB4 ++ fHis 65
def wB6 : AHp := wB5 ++ [rX (0, 0, 0, 0)]
def wB7 : AHp := wB6 ++ [[aB 0 16 z0]]
def wB8 : AHp := wB7 ++ fPr 197
theorem wB1_l : wB1.length = 16 := rfl
theorem wB2_l : wB2.length = 32 := by unfold wB2; rw [List.length_append, wB1_l, fShip_l]
theorem wB3_l : wB3.length = 48 := by unfold wB3; rw [List.length_append, wB2_l, fShip_l]
theorem wB4_l : wB4.length = 64 := by unfold wB4; rw [List.length_append, wB3_l, fShip_l]
theorem wB5_l : wB5.length = 194 := by unfold wB5; rw [List.length_append, wB4_l, show (fHis 65).length = 130 from fHisN_l 65 8]
theorem wB6_l : wB6.length = 195 := by unfold wB6; rw [List.length_append, wB5_l]; rfl
theorem wB7_l : wB7.length = 196 := by unfold wB7; rw [List.length_append, wB6_l]; rfl
theorem wB8_l : wB8.length = 208 := by unfold wB8; rw [List.length_append, wB7_l, fPr_l]
theorem fHis_b : bdH 195 (fHis 65) = true := by
  rw [← fHis_r 65]
  exact bdH_ren (n := 130) (fHisN_b 8)
theorem wB1_b : bdH 17 wB1 = true := fShip_b 1
theorem wB2_b : bdH 33 wB2 = true := bdH_app (bdH_mono (by decide) wB1_b) (fShip_b 17)
theorem wB3_b : bdH 49 wB3 = true := bdH_app (bdH_mono (by decide) wB2_b) (fShip_b 33)
theorem wB4_b : bdH 65 wB4 = true := bdH_app (bdH_mono (by decide) wB3_b) (fShip_b 49)
theorem wB5_b : bdH 195 wB5 = true := bdH_app (bdH_mono (by decide) wB4_b) fHis_b
theorem wB6_b : bdH 196 wB6 = true := bdH_app (bdH_mono (by decide) wB5_b) rfl
theorem wB7_b : bdH 197 wB7 = true := bdH_app (bdH_mono (by decide) wB6_b) rfl
theorem W_b {N : Nat} {fs : List AV} {b : AHp} (h1 : fs.all (bdV N) = true) (h2 : bdH N b = true) : bdH N ([aO 11 fs] :: b) = true := by
  show ((fs.all (bdV N) && true) && bdH N b) = true
  rw [h1, h2]; rfl
/-- the fields -/
def wF (a b c d e f g h : AV) : List AV := [a, b, c, d, vI 0, e, f, g, h, vI 0, vI 0, vI 0, vI 0]
abbrev wW (fs : List AV) (b : AHp) : AHp := [aO 11 fs] :: b
/-- a new BallastControl's world, flat -/
def wFl : AHp := wW (wF (vR 1 0) (vR 17 0) (vR 33 0) (vR 49 0) (vR 65 0) (vR 195 0) (vR 196 0) (vR 197 0)) wB8
theorem s_X10_init : Sp 4 210 1769 mX10_init [vR 0 0] [[aO 11 (wF vN vN vN vN vN vN vN vN)]] (PoV wFl) := by
  refine Sp.of' true (fun _ => rfl) (by decide) rfl rfl (Nat.le_of_ble_eq_true rfl) fun γ σ B => ?_
  refine B.run okX10_init [] 60 ?_
  refine At.objI B.1 rfl (mT 39 (by decide +kernel) rfl) oi_inst oi_code (B.fit (by decide) (by decide) (by decide)) (Nat.le_of_ble_eq_true rfl) (dcI okX10_init rfl) ?_
  refine B.run okX10_init [] 60 ?_
  show At γ σ 0 0 5 [(0, vR 0 0)] [vR 0 0] (wW (wF vN vN vN vN vN vN vN vN) [])
  refine At.mkN B.1 fShip (ci := 9) (C := RX8) (T := TX8) (N := 8) (m := 15) s_X8_init kX8_init nn_X10_9 rfl (mT 42 (by decide +kernel) rfl) (mT 43 (by decide +kernel) rfl) in_X8 (fun σ j hj => by
    have : j = 0 ∨ j = 1 ∨ j = 2 ∨ j = 3 ∨ j = 4 ∨ j = 5 ∨ j = 6 ∨ j = 7 := by omega
    rcases this with rfl | rfl | rfl | rfl | rfl | rfl | rfl | rfl <;> rfl) rfl fShip_r (fun _ => rfl) (by decide +kernel) (by rw [B.2.2.2.1]; decide) (by rw [B.2.2.2.1]; decide) (B.fit (by decide) (by decide) (by decide)) (dcN okX10_init rfl) (dc1 okX10_init rfl (Or.inl rfl)) (dcI okX10_init rfl) rfl rfl rfl (Nat.le_of_ble_eq_true rfl) fun σ1 g1 => ?_
  show At γ σ1 16 139 12 [(0, vR 0 0)] [vR 1 0, vR 0 0] (wW (wF vN vN vN vN vN vN vN vN) wB1)
  refine B.runX okX10_init [] 60 ?_
  refine ⟨trivial, ?_⟩
  show At γ σ1 16 139 16 [(0, vR 0 0)] [vR 0 0] (wW (wF (vR 1 0) vN vN vN vN vN vN vN) wB1)
  refine At.mkN B.1 fShip (ci := 9) (C := RX8) (T := TX8) (N := 8) (m := 15) s_X8_init kX8_init nn_X10_9 rfl (mT 42 (by decide +kernel) rfl) (mT 43 (by decide +kernel) rfl) in_X8 (fun σ j hj => by
    have : j = 0 ∨ j = 1 ∨ j = 2 ∨ j = 3 ∨ j = 4 ∨ j = 5 ∨ j = 6 ∨ j = 7 := by omega
    rcases this with rfl | rfl | rfl | rfl | rfl | rfl | rfl | rfl <;> rfl) rfl fShip_r (fun _ => rfl) (by decide +kernel) (by rw [B.2.2.2.1]; decide) (by rw [B.2.2.2.1]; decide) (B.fit (by decide) (by decide) (by decide)) (dcN okX10_init rfl) (dc1 okX10_init rfl (Or.inl rfl)) (dcI okX10_init rfl) (by rw [show (wW (wF (vR 1 0) vN vN vN vN vN vN vN) wB1).length = 17 from congrArg (· + 1) wB1_l]; exact W_b rfl wB1_b) (by rw [show (wW (wF (vR 1 0) vN vN vN vN vN vN vN) wB1).length = 17 from congrArg (· + 1) wB1_l]; rfl) (by rw [show (wW (wF (vR 1 0) vN vN vN vN vN vN vN) wB1).length = 17 from congrArg (· + 1) wB1_l]; rfl) (Nat.le_of_ble_eq_true rfl) fun σ2 g2 => ?_
  rw [show (wW (wF (vR 1 0) vN vN vN vN vN vN vN) wB1).length = 17 from congrArg (· + 1) wB1_l] at g2 ⊢
  show At γ σ2 32 278 23 [(0, vR 0 0)] [vR 17 0, vR 0 0] (wW (wF (vR 1 0) vN vN vN vN vN vN vN) wB2)
  refine B.runX okX10_init [] 60 ?_
  refine ⟨trivial, ?_⟩
  show At γ σ2 32 278 27 [(0, vR 0 0)] [vR 0 0] (wW (wF (vR 1 0) (vR 17 0) vN vN vN vN vN vN) wB2)
  refine At.mkN B.1 fShip (ci := 9) (C := RX8) (T := TX8) (N := 8) (m := 15) s_X8_init kX8_init nn_X10_9 rfl (mT 42 (by decide +kernel) rfl) (mT 43 (by decide +kernel) rfl) in_X8 (fun σ j hj => by
    have : j = 0 ∨ j = 1 ∨ j = 2 ∨ j = 3 ∨ j = 4 ∨ j = 5 ∨ j = 6 ∨ j = 7 := by omega
    rcases this with rfl | rfl | rfl | rfl | rfl | rfl | rfl | rfl <;> rfl) rfl fShip_r (fun _ => rfl) (by decide +kernel) (by rw [B.2.2.2.1]; decide) (by rw [B.2.2.2.1]; decide) (B.fit (by decide) (by decide) (by decide)) (dcN okX10_init rfl) (dc1 okX10_init rfl (Or.inl rfl)) (dcI okX10_init rfl) (by rw [show (wW (wF (vR 1 0) (vR 17 0) vN vN vN vN vN vN) wB2).length = 33 from congrArg (· + 1) wB2_l]; exact W_b rfl wB2_b) (by rw [show (wW (wF (vR 1 0) (vR 17 0) vN vN vN vN vN vN) wB2).length = 33 from congrArg (· + 1) wB2_l]; rfl) (by rw [show (wW (wF (vR 1 0) (vR 17 0) vN vN vN vN vN vN) wB2).length = 33 from congrArg (· + 1) wB2_l]; rfl) (Nat.le_of_ble_eq_true rfl) fun σ3 g3 => ?_
  rw [show (wW (wF (vR 1 0) (vR 17 0) vN vN vN vN vN vN) wB2).length = 33 from congrArg (· + 1) wB2_l] at g3 ⊢
  show At γ σ3 48 417 34 [(0, vR 0 0)] [vR 33 0, vR 0 0] (wW (wF (vR 1 0) (vR 17 0) vN vN vN vN vN vN) wB3)
  refine B.runX okX10_init [] 60 ?_
  refine ⟨trivial, ?_⟩
  show At γ σ3 48 417 38 [(0, vR 0 0)] [vR 0 0] (wW (wF (vR 1 0) (vR 17 0) (vR 33 0) vN vN vN vN vN) wB3)
  refine At.mkN B.1 fShip (ci := 9) (C := RX8) (T := TX8) (N := 8) (m := 15) s_X8_init kX8_init nn_X10_9 rfl (mT 42 (by decide +kernel) rfl) (mT 43 (by decide +kernel) rfl) in_X8 (fun σ j hj => by
    have : j = 0 ∨ j = 1 ∨ j = 2 ∨ j = 3 ∨ j = 4 ∨ j = 5 ∨ j = 6 ∨ j = 7 := by omega
    rcases this with rfl | rfl | rfl | rfl | rfl | rfl | rfl | rfl <;> rfl) rfl fShip_r (fun _ => rfl) (by decide +kernel) (by rw [B.2.2.2.1]; decide) (by rw [B.2.2.2.1]; decide) (B.fit (by decide) (by decide) (by decide)) (dcN okX10_init rfl) (dc1 okX10_init rfl (Or.inl rfl)) (dcI okX10_init rfl) (by rw [show (wW (wF (vR 1 0) (vR 17 0) (vR 33 0) vN vN vN vN vN) wB3).length = 49 from congrArg (· + 1) wB3_l]; exact W_b rfl wB3_b) (by rw [show (wW (wF (vR 1 0) (vR 17 0) (vR 33 0) vN vN vN vN vN) wB3).length = 49 from congrArg (· + 1) wB3_l]; rfl) (by rw [show (wW (wF (vR 1 0) (vR 17 0) (vR 33 0) vN vN vN vN vN) wB3).length = 49 from congrArg (· + 1) wB3_l]; rfl) (Nat.le_of_ble_eq_true rfl) fun σ4 g4 => ?_
  rw [show (wW (wF (vR 1 0) (vR 17 0) (vR 33 0) vN vN vN vN vN) wB3).length = 49 from congrArg (· + 1) wB3_l] at g4 ⊢
  show At γ σ4 64 556 45 [(0, vR 0 0)] [vR 49 0, vR 0 0] (wW (wF (vR 1 0) (vR 17 0) (vR 33 0) vN vN vN vN vN) wB4)
  refine B.runX okX10_init [] 60 ?_
  refine ⟨trivial, ?_⟩
  show At γ σ4 64 556 49 [(0, vR 0 0)] [vR 0 0] (wW (wF (vR 1 0) (vR 17 0) (vR 33 0) (vR 49 0) vN vN vN vN) wB4)
  refine At.mkI B.1 fHis (ci := 6) (C := RX4) (T := TX4) (N := 3) (m := 129) s_X4_init kX4_init ln_X10_27 rfl (mT 183 (by decide +kernel) rfl) (mT 184 (by decide +kernel) rfl) in_X4 (fun σ j hj => by
    have : j = 0 ∨ j = 1 ∨ j = 2 := by omega
    rcases this with rfl | rfl | rfl <;> rfl) rfl fHis_r (fun g => fHisN_l g 8) (fHisN_b 8) (by rw [B.2.2.2.1]; decide) (by rw [B.2.2.2.1]; decide) (B.fit (by decide) (by decide) (by decide)) (dcN okX10_init rfl) (dc1 okX10_init rfl (Or.inl rfl)) (dcI okX10_init rfl) (by rw [show (wW (wF (vR 1 0) (vR 17 0) (vR 33 0) (vR 49 0) vN vN vN vN) wB4).length = 65 from congrArg (· + 1) wB4_l]; exact W_b rfl wB4_b) (by rw [show (wW (wF (vR 1 0) (vR 17 0) (vR 33 0) (vR 49 0) vN vN vN vN) wB4).length = 65 from congrArg (· + 1) wB4_l]; rfl) (by rw [show (wW (wF (vR 1 0) (vR 17 0) (vR 33 0) (vR 49 0) vN vN vN vN) wB4).length = 65 from congrArg (· + 1) wB4_l]; rfl) (Nat.le_of_ble_eq_true rfl) fun σ5 g5 => ?_
  rw [show (wW (wF (vR 1 0) (vR 17 0) (vR 33 0) (vR 49 0) vN vN vN vN) wB4).length = 65 from congrArg (· + 1) wB4_l] at g5 ⊢
  show At γ σ5 194 1679 56 [(0, vR 0 0)] [vR 65 0, vR 0 0] (wW (wF (vR 1 0) (vR 17 0) (vR 33 0) (vR 49 0) vN vN vN vN) wB5)
  refine B.runX okX10_init [] 60 ?_
  refine ⟨trivial, ?_⟩
  show At γ σ5 194 1679 60 [(0, vR 0 0)] [vR 0 0] (wW (wF (vR 1 0) (vR 17 0) (vR 33 0) (vR 49 0) (vR 65 0) vN vN vN) wB5)
  refine At.mkN B.1 (fun _ => [rX (0, 0, 0, 0)]) (ci := 5) (C := RX2) (T := TX2) (N := 4) (m := 0) s_X2_init kX2_init nn_X10_34 rfl (mT 203 (by decide +kernel) rfl) (mT 204 (by decide +kernel) rfl) in_X2 (fun σ j hj => by
    have : j = 0 ∨ j = 1 ∨ j = 2 ∨ j = 3 := by omega
    rcases this with rfl | rfl | rfl | rfl <;> rfl) rfl (fun _ => rfl) (fun _ => rfl) rfl (by rw [B.2.2.2.1]; decide) (by rw [B.2.2.2.1]; decide) (B.fit (by decide) (by decide) (by decide)) (dcN okX10_init rfl) (dc1 okX10_init rfl (Or.inl rfl)) (dcI okX10_init rfl) (by rw [show (wW (wF (vR 1 0) (vR 17 0) (vR 33 0) (vR 49 0) (vR 65 0) vN vN vN) wB5).length = 195 from congrArg (· + 1) wB5_l]; exact W_b rfl wB5_b) (by rw [show (wW (wF (vR 1 0) (vR 17 0) (vR 33 0) (vR 49 0) (vR 65 0) vN vN vN) wB5).length = 195 from congrArg (· + 1) wB5_l]; rfl) (by rw [show (wW (wF (vR 1 0) (vR 17 0) (vR 33 0) (vR 49 0) (vR 65 0) vN vN vN) wB5).length = 195 from congrArg (· + 1) wB5_l]; rfl) (Nat.le_of_ble_eq_true rfl) fun σ6 g6 => ?_
  rw [show (wW (wF (vR 1 0) (vR 17 0) (vR 33 0) (vR 49 0) (vR 65 0) vN vN vN) wB5).length = 195 from congrArg (· + 1) wB5_l] at g6 ⊢
  show At γ σ6 195 1683 67 [(0, vR 0 0)] [vR 195 0, vR 0 0] (wW (wF (vR 1 0) (vR 17 0) (vR 33 0) (vR 49 0) (vR 65 0) vN vN vN) wB6)
  refine B.runX okX10_init [] 60 ?_
  refine ⟨trivial, ?_⟩
  show At γ σ6 195 1683 71 [(0, vR 0 0)] [vR 0 0] (wW (wF (vR 1 0) (vR 17 0) (vR 33 0) (vR 49 0) (vR 65 0) (vR 195 0) vN vN) wB6)
  refine At.mkI B.1 (fun _ => [[aB 0 16 z0]]) (ci := 1) (C := RJ4) (T := TJ4) (N := 4) (m := 0) s_sNew kJ4_init_da8c8 ln_X10_41 rfl (mT 226 (by decide +kernel) rfl) (mT 227 (by decide +kernel) rfl) in_J4 (fun σ j hj => by
    have : j = 0 ∨ j = 1 ∨ j = 2 ∨ j = 3 := by omega
    rcases this with rfl | rfl | rfl | rfl <;> rfl) rfl (fun _ => rfl) (fun _ => rfl) rfl (by rw [B.2.2.2.1]; decide) (by rw [B.2.2.2.1]; decide) (B.fit (by decide) (by decide) (by decide)) (dcN okX10_init rfl) (dc1 okX10_init rfl (Or.inl rfl)) (dcI okX10_init rfl) (by rw [show (wW (wF (vR 1 0) (vR 17 0) (vR 33 0) (vR 49 0) (vR 65 0) (vR 195 0) vN vN) wB6).length = 196 from congrArg (· + 1) wB6_l]; exact W_b rfl wB6_b) (by rw [show (wW (wF (vR 1 0) (vR 17 0) (vR 33 0) (vR 49 0) (vR 65 0) (vR 195 0) vN vN) wB6).length = 196 from congrArg (· + 1) wB6_l]; rfl) (by rw [show (wW (wF (vR 1 0) (vR 17 0) (vR 33 0) (vR 49 0) (vR 65 0) (vR 195 0) vN vN) wB6).length = 196 from congrArg (· + 1) wB6_l]; rfl) (Nat.le_of_ble_eq_true rfl) fun σ7 g7 => ?_
  rw [show (wW (wF (vR 1 0) (vR 17 0) (vR 33 0) (vR 49 0) (vR 65 0) (vR 195 0) vN vN) wB6).length = 196 from congrArg (· + 1) wB6_l] at g7 ⊢
  show At γ σ7 197 1703 78 [(0, vR 0 0)] [vR 196 0, vR 0 0] (wW (wF (vR 1 0) (vR 17 0) (vR 33 0) (vR 49 0) (vR 65 0) (vR 195 0) vN vN) wB7)
  refine B.runX okX10_init [] 60 ?_
  refine ⟨trivial, ?_⟩
  show At γ σ7 197 1703 82 [(0, vR 0 0)] [vR 0 0] (wW (wF (vR 1 0) (vR 17 0) (vR 33 0) (vR 49 0) (vR 65 0) (vR 195 0) (vR 196 0) vN) wB7)
  refine At.mkI B.1 fPr (ci := 8) (C := RX7) (T := TX7) (N := 6) (m := 11) s_X7_init kX7_init ln_X10_48 rfl (mT 259 (by decide +kernel) rfl) (mT 260 (by decide +kernel) rfl) in_X7 (fun σ j hj => by
    have : j = 0 ∨ j = 1 ∨ j = 2 ∨ j = 3 ∨ j = 4 ∨ j = 5 := by omega
    rcases this with rfl | rfl | rfl | rfl | rfl | rfl <;> rfl) rfl fPr_r fPr_l fPr_b (by rw [B.2.2.2.1]; decide) (by rw [B.2.2.2.1]; decide) (B.fit (by decide) (by decide) (by decide)) (dcN okX10_init rfl) (dc1 okX10_init rfl (Or.inl rfl)) (dcI okX10_init rfl) (by rw [show (wW (wF (vR 1 0) (vR 17 0) (vR 33 0) (vR 49 0) (vR 65 0) (vR 195 0) (vR 196 0) vN) wB7).length = 197 from congrArg (· + 1) wB7_l]; exact W_b rfl wB7_b) (by rw [show (wW (wF (vR 1 0) (vR 17 0) (vR 33 0) (vR 49 0) (vR 65 0) (vR 195 0) (vR 196 0) vN) wB7).length = 197 from congrArg (· + 1) wB7_l]; rfl) (by rw [show (wW (wF (vR 1 0) (vR 17 0) (vR 33 0) (vR 49 0) (vR 65 0) (vR 195 0) (vR 196 0) vN) wB7).length = 197 from congrArg (· + 1) wB7_l]; rfl) (Nat.le_of_ble_eq_true rfl) fun σ8 g8 => ?_
  rw [show (wW (wF (vR 1 0) (vR 17 0) (vR 33 0) (vR 49 0) (vR 65 0) (vR 195 0) (vR 196 0) vN) wB7).length = 197 from congrArg (· + 1) wB7_l] at g8 ⊢
  show At γ σ8 210 1769 89 [(0, vR 0 0)] [vR 197 0, vR 0 0] (wW (wF (vR 1 0) (vR 17 0) (vR 33 0) (vR 49 0) (vR 65 0) (vR 195 0) (vR 196 0) vN) wB8)
  refine B.runN (fun r hr o => ?_) okX10_init [] 60 ?_
  · have hr : r < 1 := hr
    exact (g8 r (by omega) o).trans ((g7 r (by omega) o).trans ((g6 r (by omega) o).trans ((g5 r (by omega) o).trans ((g4 r (by omega) o).trans ((g3 r (by omega) o).trans ((g2 r (by omega) o).trans (g1 r hr o)))))))
  · refine ⟨trivial, ⟨rfl, rfl⟩, by decide, by decide, ?_⟩
    show 1 < wB8.length + 1
    rw [wB8_l]
    decide
