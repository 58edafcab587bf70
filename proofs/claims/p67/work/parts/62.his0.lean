/-! ===== a new History ===== -/
theorem bdV_ren {g n : Nat} {v : AV} (h : bdV n v = true) : bdV (g + n) (ren (List.range' g n) v) = true := by
  rcases v with v | ⟨r, o⟩ | k
  · rfl
  · have hr : r < n := Nat.le_of_ble_eq_true h
    have e : rn (List.range' g n) r = g + r := by
      unfold rn
      rw [hnth_eq, List.getElem?_range' hr]
      show g + 1 * r = g + r
      omega
    show Nat.blt (rn (List.range' g n) r) (g + n) = true
    rw [e]
    exact Nat.ble_eq.mpr (by omega)
  · rfl
theorem bdVs_ren {g n : Nat} {l : List AV} (h : l.all (bdV n) = true) : (l.map (ren (List.range' g n))).all (bdV (g + n)) = true := by
  rw [List.all_map]
  exact List.all_eq_true.mpr fun v hv => bdV_ren (List.all_eq_true.mp h v hv)
theorem bdC_ren {g n : Nat} {c : ACell} (h : bdC n c = true) : bdC (g + n) (renC (List.range' g n) c) = true := by
  rcases c with ⟨ty, n, x⟩ | ⟨ci, fs⟩ | ⟨n, m, t⟩
  · rcases x with f | f | f | f
    · rfl
    · rfl
    · rfl
    · exact bdVs_ren h
  · exact bdVs_ren h
  · rfl
theorem bdH_ren {g n : Nat} {h : AHp} (hb : bdH n h = true) : bdH (g + n) (h.map (fun x => x.map (renC (List.range' g n)))) = true := by
  unfold bdH at *
  rw [List.all_map]
  refine List.all_eq_true.mpr fun x hx => ?_
  show (x.map (renC (List.range' g n))).all (bdC (g + n)) = true
  rw [List.all_map]
  exact List.all_eq_true.mpr fun c hc => bdC_ren (List.all_eq_true.mp (List.all_eq_true.mp hb x hx) c hc)
theorem fShip_b (g : Nat) : bdH (g + 16) (fShip g) = true := by
  rw [← fShip_r g]; exact bdH_ren (by decide +kernel)
theorem fShip_l (g : Nat) : (fShip g).length = 16 := rfl
def shs (g : Nat) : Nat → AHp
  | 0 => []
  | i + 1 => shs g i ++ fShip (g + 16 * i)
theorem shs_l (g : Nat) : ∀ i, (shs g i).length = 16 * i
  | 0 => rfl
  | i + 1 => by
    show (shs g i ++ fShip (g + 16 * i)).length = _
    rw [List.length_append, shs_l g i, fShip_l]; omega
theorem shs_b (g : Nat) : ∀ i, bdH (g + 16 * i) (shs g i) = true
  | 0 => rfl
  | i + 1 => bdH_app (bdH_mono (by omega) (shs_b g i)) (bdH_mono (by omega) (fShip_b (g + 16 * i)))
theorem shs_get (g : Nat) : ∀ i j, j < i → hget (shs g i) (16 * j) 0 = some (aO 9 [vR (g + 16 * j + 1) 0, vR (g + 16 * j + 8) 0, vR (g + 16 * j + 12) 0, vI 0, vI 2, vI 5, vI 0, vL 0])
  | i + 1, j, hj => by
    show (hnth (shs g i ++ fShip (g + 16 * i)) (16 * j)).bind _ = _
    rcases Nat.lt_or_ge j i with h | h
    · rw [hnth_app_lt (by rw [shs_l]; omega)]
      exact shs_get g i j h
    · have e : j = i := by omega
      subst e
      rw [hnth_app_ge (by rw [shs_l]; omega), shs_l, Nat.sub_self]; rfl
def arL (g i : Nat) : List AV := (List.range 8).map fun j => if j < i then vR (g + 16 * j) 0 else vN
theorem arL_put (g : Nat) : ∀ i, i < 8 → hput (arL g i) i (vR (g + 16 * i) 0) = arL g (i + 1) := by
  intro i hi
  have : i = 0 ∨ i = 1 ∨ i = 2 ∨ i = 3 ∨ i = 4 ∨ i = 5 ∨ i = 6 ∨ i = 7 := by omega
  rcases this with rfl | rfl | rfl | rfl | rfl | rfl | rfl | rfl <;> rfl
theorem arL_l (g i : Nat) : (arL g i).length = 8 := rfl
theorem arL_b (g i : Nat) : (arL g i).all (bdV (g + 16 * i)) = true := by
  unfold arL
  rw [List.all_map]
  refine List.all_eq_true.mpr fun j _ => ?_
  show bdV _ (if j < i then vR (g + 16 * j) 0 else vN) = true
  split
  · exact Nat.ble_eq.mpr (by omega)
  · rfl
def fHisN (g i : Nat) : AHp := [aO 6 [vR (g + 1) 0, vI 0, vI 0]] :: [aA (.object RX8) 8 (arL (g + 2) i)] :: shs (g + 2) i
def fHis (g : Nat) : AHp := fHisN g 8
theorem fHisN_l (g i : Nat) : (fHisN g i).length = 2 + 16 * i := by
  show (shs (g + 2) i).length + 1 + 1 = _
  rw [shs_l]; omega
theorem fHisN_b (i : Nat) : bdH (2 + 16 * i) (fHisN 0 i) = true := by
  show ((Nat.blt (0 + 1) (2 + 16 * i) && (true && (true && true))) && true && (((arL (0 + 2) i).all (bdV (2 + 16 * i)) && true) && bdH (2 + 16 * i) (shs (0 + 2) i))) = true
  rw [show Nat.blt (0 + 1) (2 + 16 * i) = true from Nat.ble_eq.mpr (by omega), arL_b, shs_b]; rfl
theorem s_X4_init : Sp 3 129 1120 mX4_init [vR 0 0] [[aO 6 [vN, vI 0, vI 0]]] (PoV (fHis 0)) := by
  refine Sp.of' true (fun _ => rfl) (by decide) rfl rfl (Nat.le_of_ble_eq_true rfl) fun γ σ B => ?_
  have loop : ∀ (m i : Nat), i + m = 8 → ∀ σ', (∀ r, r < 1 → ∀ o, σ' r o = σ r o) → At γ σ' (1 + 16 * i) (8 + 139 * i) 15 [(0, vR 0 0), (1, vI (nI i))] [] (fHisN 0 i) := by
    intro m
    induction m with
    | zero =>
      intro i hi σ' hs
      have hi : i = 8 := by omega
      subst hi
      refine B.runN hs okX4_init [(15, [0, 1])] 60 ?_
      constructor
      · intro _
        exact ⟨⟨rfl, rfl⟩, by decide, by decide, by show 1 < (fHisN 0 8).length; rw [fHisN_l]; decide⟩
      · intro h
        exact absurd (nI_le (a := 8) (b := 8) (by omega) (by omega)) h
    | succ m ih =>
      intro i hi σ' hs
      have hi8 : i < 8 := by omega
      have hl := fHisN_l 0 i
      refine B.runX okX4_init [(15, [0, 1])] 60 ?_
      constructor
      · intro h
        exact absurd h (nI_ge (a := i) (b := 8) (by omega) (by omega))
      · intro _
        refine At.mkN B.1 fShip (ci := 9) (C := RX8) (T := TX8) (N := 8) (m := 15) s_X8_init kX8_init nn_X4_17 rfl (mT 189 (by decide +kernel) rfl) (mT 43 (by decide +kernel) rfl) in_X8 (fun σ j hj => by
    have : j = 0 ∨ j = 1 ∨ j = 2 ∨ j = 3 ∨ j = 4 ∨ j = 5 ∨ j = 6 ∨ j = 7 := by omega
    rcases this with rfl | rfl | rfl | rfl | rfl | rfl | rfl | rfl <;> rfl) rfl fShip_r (fun _ => rfl) (by decide +kernel) (by rw [B.2.2.2.1]; show 1 + 16 * i + 1 ≤ 129; omega) (by rw [B.2.2.2.1]; show 8 + 139 * i + 8 ≤ 1120; omega) (B.fit (by decide) (by omega) (by omega)) (dcN okX4_init rfl) (dc1 okX4_init rfl (Or.inl rfl)) (dcI okX4_init rfl) (by rw [hl]; exact fHisN_b i) (by
          rw [hl]
          show (Nat.blt 0 (2 + 16 * i) && (true && true)) = true
          rw [show Nat.blt 0 (2 + 16 * i) = true from Nat.ble_eq.mpr (by omega)]; rfl) (by
          rw [hl]
          show (true && (Nat.blt 1 (2 + 16 * i) && true)) = true
          rw [show Nat.blt 1 (2 + 16 * i) = true from Nat.ble_eq.mpr (by omega)]; rfl) (Nat.le_of_ble_eq_true rfl) fun σ2 g2 => ?_
        rw [hl] at g2 ⊢
        have eg := shs_get (0 + 2) (i + 1) i (by omega)
        show At γ σ2 (1 + 16 * i + 1 + 15) (8 + 139 * i + 8 + 131) 33 [(0, vR 0 0), (1, vI (nI i))] [vR (2 + 16 * i) 0, vI (nI i), vR 1 0] ([aO 6 [vR 1 0, vI 0, vI 0]] :: [aA (.object RX8) 8 (arL 2 i)] :: shs 2 (i + 1))
        have eg2 : hget ([aO 6 [vR 1 0, vI 0, vI 0]] :: [aA (.object RX8) 8 (arL 2 i)] :: shs 2 (i + 1)) (2 + 16 * i) 0 = some (aO 9 [vR (2 + 16 * i + 1) 0, vR (2 + 16 * i + 8) 0, vR (2 + 16 * i + 12) 0, vI 0, vI 2, vI 5, vI 0, vL 0]) := by
          rw [show 2 + 16 * i = 16 * i + 1 + 1 by omega]
          rw [show (16 * i + 1 + 1 : Nat) = 2 + 16 * i by omega] 
          have : hget ([aO 6 [vR 1 0, vI 0, vI 0]] :: [aA (.object RX8) 8 (arL 2 i)] :: shs 2 (i + 1)) (16 * i + 1 + 1) 0 = hget (shs 2 (i + 1)) (16 * i) 0 := rfl
          rw [show 2 + 16 * i = 16 * i + 1 + 1 by omega, this, eg]
          rw [show (0 + 2 + 16 * i : Nat) = 16 * i + 1 + 1 by omega]
        refine At.aastO B.1 (ci := 9) (C := RX8) (T := TX8) (Nn := 8) rfl (dc1L okX4_init rfl (by simp [L1])) (r := 1) (o := 0) (N := 8) (f := arL 2 i) rfl eg2 rfl (vp_in_nI hi8 (by decide)) ?_
        rw [nI_clamp (by omega), arL_put 2 i hi8]
        show At γ σ2 (1 + 16 * i + 1 + 15) (8 + 139 * i + 8 + 131) 34 [(0, vR 0 0), (1, vI (nI i))] [] (fHisN 0 (i + 1))
        have z := ih (i + 1) (by omega) σ2 (fun r hr o => (g2 r (by omega) o).trans (hs r hr o))
        rw [← nI_1, show 1 + 16 * (i + 1) = 1 + 16 * i + 1 + 15 by omega, show 8 + 139 * (i + 1) = 8 + 139 * i + 8 + 131 by omega] at z
        refine B.runX okX4_init [(15, [0, 1])] 60 ?_
        exact z
  refine B.run okX4_init [] 60 ?_
  refine At.objI B.1 rfl (mT 188 (by decide +kernel) rfl) oi_inst oi_code (B.fit (by decide) (by decide) (by decide)) (Nat.le_of_ble_eq_true rfl) (dcI okX4_init rfl) ?_
  refine B.run okX4_init [] 60 ?_
  refine At.newQ B.1 (C := RX8) (N := 8) (mT 189 (by decide +kernel) rfl) (va_AO.use ((sx B.1).2.2.2.2.1 _ List.mem_cons_self)) (by decide) (by decide) (by decide) (by rw [B.2.2.2.1]; decide) (by rw [B.2.2.2.1]; decide) (dcANew okX4_init rfl) rfl rfl rfl fun σ1 g1 => ?_
  refine B.runX okX4_init [(15, [0, 1])] 60 ?_
  refine ⟨trivial, ?_⟩
  exact loop 8 0 rfl σ1 g1
