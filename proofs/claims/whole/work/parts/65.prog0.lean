/-! ===== a new Program ===== -/
abbrev kwL (i : Nat) : List AV := (List.range 8).map fun j => if j < i then vK 5 else vN
theorem kwL_put : ∀ i, i < 8 → hput (kwL i) i (vK 5) = kwL (i + 1) := by
  intro i hi
  have : i = 0 ∨ i = 1 ∨ i = 2 ∨ i = 3 ∨ i = 4 ∨ i = 5 ∨ i = 6 ∨ i = 7 := by omega
  rcases this with rfl | rfl | rfl | rfl | rfl | rfl | rfl | rfl <;> rfl
abbrev z0 : Nat → Nat := fun _ => 0
/-- the program's object, its text's place t, the others from g on -/
abbrev fPrN (a t g : Nat) (i : Nat) (sb : List ACell) : AHp := [aO 8 [vR t 0, vR g 0, vR (g + 1) 0, vI 0, vI 0, vI 0]] :: sb :: [aA (.object RX6) 8 (kwL i)] :: (mnL (g + 1)).map (fun c => [c])
theorem dmul_X7 : decode cX7_init 28 = .ok (.multianewarray 24 2, 4) := by decide +kernel
theorem s_X7_init : Sp 3 12 60 mX7_init [vR 0 0] [[aO 8 [vN, vN, vN, vI 0, vI 0, vI 0]]] (PoV (fPrN 0 1 2 8 [aB 0 16 z0])) := by
  refine Sp.of' true (fun _ => rfl) (by decide) rfl rfl (Nat.le_of_ble_eq_true rfl) fun γ σ B => ?_
  have loop : ∀ (j i : Nat), i + j = 8 → ∀ σ', (∀ r, r < 1 → ∀ o, σ' r o = σ r o) → At γ σ' 12 60 37 [(0, vR 0 0), (1, vI (nI i))] [] (fPrN 0 1 2 i [aB 0 16 z0]) := by
    intro j
    induction j with
    | zero =>
      intro i hi σ' hs
      have hi : i = 8 := by omega
      subst hi
      refine B.runN hs okX7_init [(37, [0, 1])] 60 ?_
      constructor
      · intro _
        exact ⟨⟨rfl, rfl⟩, by decide, by decide, by show 1 < 12; decide⟩
      · intro h
        exact absurd (nI_le (a := 8) (b := 8) (by omega) (by omega)) h
    | succ j ih =>
      intro i hi σ' hs
      have hi8 : i < 8 := by omega
      refine B.runX okX7_init [(37, [0, 1])] 60 ?_
      constructor
      · intro h
        exact absurd h (nI_ge (a := i) (b := 8) (by omega) (by omega))
      · intro _
        refine At.getZ B.1 (v := vK 5) (((sx B.1).1.1.1 0 (by decide)).1) rfl (mT 276 (by decide +kernel) rfl) (dcG okX7_init rfl) ?_
        refine At.aastK (ci := 0) B.1 (C := RX6) (q := cκ γ 5) (x := vK 5) (((sx B.1).1.1.1 0 (by decide)).2.1) (fun _ => rfl) (dc1L okX7_init rfl (by simp [L1])) (r := 2) (o := 0) (N := 8) (f := kwL i) rfl rfl (vp_in_nI hi8 (by decide)) ?_
        rw [nI_clamp (by omega), kwL_put i hi8]
        show At γ σ' 12 60 52 [(0, vR 0 0), (1, vI (nI i))] [] (fPrN 0 1 2 (i + 1) [aB 0 16 z0])
        have z := ih (i + 1) (by omega) σ' hs
        rw [← nI_1] at z
        refine B.runX okX7_init [(37, [0, 1])] 60 ?_
        exact z
  refine B.run okX7_init [] 60 ?_
  refine At.objI B.1 rfl (mT 269 (by decide +kernel) rfl) oi_inst oi_code (B.fit (by decide) (by decide) (by decide)) (Nat.le_of_ble_eq_true rfl) (dcI okX7_init rfl) ?_
  refine B.run okX7_init [] 60 ?_
  show At γ σ 0 0 5 [(0, vR 0 0)] [vR 0 0] [[aO 8 [vN, vN, vN, vI 0, vI 0, vI 0]]]
  refine At.mkI B.1 (fun _ => [[aB 0 16 z0]]) (ci := 1) (C := RJ4) (T := TJ4) (N := 4) (m := 0) s_sNew kJ4_init_da8c8 ln_X7_11 rfl (mT 270 (by decide +kernel) rfl) (mT 232 (by decide +kernel) rfl) in_J4 (fun σ j hj => by
    have : j = 0 ∨ j = 1 ∨ j = 2 ∨ j = 3 := by omega
    rcases this with rfl | rfl | rfl | rfl <;> rfl) rfl (fun _ => rfl) (fun _ => rfl) rfl (by rw [B.2.2.2.1]; decide) (by rw [B.2.2.2.1]; decide) (B.fit (by decide) (by decide) (by decide)) (dcN okX7_init rfl) (dc1 okX7_init rfl (Or.inl rfl)) (dcI okX7_init rfl) rfl rfl rfl (Nat.le_of_ble_eq_true rfl) fun σ0 g0 => ?_
  show At γ σ0 2 20 12 [(0, vR 0 0)] [vR 1 0, vR 0 0] [[aO 8 [vN, vN, vN, vI 0, vI 0, vI 0]], [aB 0 16 z0]]
  refine B.runX okX7_init [(37, [0, 1])] 60 ?_
  refine ⟨trivial, ?_⟩
  refine At.newQ B.1 (C := RX6) (N := 8) (mT 272 (by decide +kernel) rfl) (va_AO.use ((sx B.1).2.2.2.2.1 _ (List.mem_cons_of_mem _ List.mem_cons_self))) (by decide) (by decide) (by decide) (by rw [B.2.2.2.1]; decide) (by rw [B.2.2.2.1]; decide) (dcANew okX7_init rfl) rfl rfl rfl fun σ1 g1 => ?_
  refine B.runX okX7_init [(37, [0, 1])] 60 ?_
  refine ⟨trivial, ?_⟩
  refine At.newM B.1 (mT 274 (by decide +kernel) rfl) (mT 90 (by decide +kernel) rfl) (by rw [B.2.2.2.1]; decide) (by rw [B.2.2.2.1]; decide) dmul_X7 rfl rfl rfl fun σ2 g2 => ?_
  refine B.runX okX7_init [(37, [0, 1])] 60 ?_
  refine ⟨trivial, ?_⟩
  exact loop 8 0 rfl σ2 (fun r hr o => (g2 r (by show r < 3; omega) o).trans ((g1 r (by show r < 2; omega) o).trans (g0 r hr o)))
