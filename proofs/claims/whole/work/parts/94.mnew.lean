/-! ===== the model: append; a new model ===== -/
section NAP
variable {m : MS} {I : SBB}
def APP (I : SBB) (x : Int32) (m m' : MS) : Prop := if fApp I x = 0 then IR (pC I x.toNatClampNeg) m' ∧ m'.1 = m.1 ∧ m'.2.1 = (wT m 0).2.1 ∧ m'.2.2.1 = m.2.2.1 ∧ m'.2.2.2.1.2.2 = m.2.2.2.1.2.2 ∧ m'.2.2.2.2 = m.2.2.2.2 else m' = wT m (nI (thr (fApp I x) 0 1 2 0))
theorem n_append (hI : IR I m) (x : Int32) : Sp 1 0 0 mX11_append [vR 0 0, vI x] (mdl m) (PoE (some (vI (if fApp I x = 0 then nI (I.1 + 1) else 0))) (APP I x m)) := by
  refine Sp.of' false (fun h => by cases h) (by decide) rfl rfl (Nat.le_of_ble_eq_true rfl) fun γ σ B => ?_
  have F : Fit γ 0 0 0 0 0 := fiW B (by decide) (Nat.zero_le _) (Nat.zero_le _)
  obtain ⟨i1, i2, i3⟩ := hI
  have go : ∀ (t : Nat), t = thr (fApp I x) 0 1 2 0 → (t = 0 ↔ fApp I x = 0) → t < 100 → (fApp I x = 0 → I.1 < 60 ∧ wiB x 32 126 = true) → At γ σ 0 0 30 [(0, vR 0 0), (1, vI x)] [vI (nI t), vR 0 0] (mdl m) := by
    intro t ht h0 hl hw
    refine B.run okX11_append [] 60 ?_
    refine ⟨trivial, ?_⟩
    constructor
    · intro w
      have z : t = 0 := (nI_eq (by omega) (by decide)).mp (show nI t = nI 0 from w)
      have zf := h0.mp z
      obtain ⟨hl60, hb⟩ := hw zf
      have hc : ∃ c : Nat, c < 127 ∧ x = nI c := by
        have b := bI_wi hb
        obtain ⟨c, hc, e⟩ := bI.nat (x := x) (b := 126) ⟨by have := b.1; have e : (32 : Int32).toInt = 32 := rfl; omega, b.2⟩
        exact ⟨c, by omega, e⟩
      obtain ⟨c, hc, rfl⟩ := hc
      have e1 : (zTy m).toNatClampNeg = I.1 := by rw [i1]; exact nI_clamp (by omega)
      have ec : (nI c).toNatClampNeg = c := nI_clamp (by omega)
      have ech : ∀ c : Nat, c < 256 → (nI c).toUInt32.toUInt16.toUInt32.toInt32 = nI c := by decide +kernel
      refine ⟨by
        show vp_in (zTy m) 60
        rw [i1]; exact vp_in_nI hl60 (by decide), trivial, ?_⟩
      refine rEv (m' := (m.1, (0, m.2.1.2), m.2.2.1, (upd (zI m) (zTy m).toNatClampNeg ((nI c).toUInt32.toUInt16.toUInt32.toInt32), zTy m + 1, m.2.2.2.1.2.2), m.2.2.2.2)) ?_ ?_ ?_
      · rw [if_pos zf, i1, nI_1]
      · unfold APP
        rw [if_pos zf, ec]
        refine ⟨⟨?_, ?_, fun j hj => ?_⟩, rfl, rfl, rfl, rfl, rfl⟩
        · show zTy m + 1 = nI (I.1 + 1)
          rw [i1, nI_1]
        · show I.1 + 1 ≤ 60
          omega
        · have hj : j < I.1 + 1 := hj
          show upd (zI m) (zTy m).toNatClampNeg ((nI c).toUInt32.toUInt16.toUInt32.toInt32) j = nI (sb_cat I.2.2 I.1 (fun _ => c) j) ∧ sb_cat I.2.2 I.1 (fun _ => c) j < 256
          rw [e1, ech c (by omega)]
          by_cases z2 : j = I.1
          · subst z2
            rw [upd_eq]
            unfold sb_cat
            rw [if_neg (Nat.lt_irrefl _)]
            exact ⟨rfl, (show c < 256 by omega)⟩
          · rw [upd_ne _ _ z2, sb_cat_lo (by omega)]
            exact i3 j (by omega)
      · rw [z]; rfl
    · intro w
      have z : ¬ t = 0 := fun v => w (by rw [v]; rfl)
      have zf : ¬ fApp I x = 0 := fun v => z (h0.mpr v)
      exact rEv (m' := wT m (nI t)) (by rw [if_neg zf]) (by unfold APP; rw [if_neg zf, ← ht]) rfl
  refine B.run okX11_append [(30, [0, 1])] 60 ?_
  refine At.mS [vI x, vI 32, vI 126] [vR 0 0] B.1 (n_in x 32 126) kX11_in ln_X11_43 F (dcS okX11_append rfl) ?_
  refine B.run okX11_append [(30, [0, 1])] 60 ?_
  constructor
  · intro w
    have ef : fApp I x = 2 := by unfold fApp; rw [if_neg (by rw [b2_eq0.mp w]; decide)]
    have z := go 1 (by rw [ef]; rfl) (by rw [ef]; decide) (by decide) (fun v => by rw [ef] at v; cases v)
    exact z
  · intro w
    have hb := b2_ne0.mp w
    constructor
    · intro w2
      have w2 : zTy m = 60 := w2
      rw [i1] at w2
      have h60 : I.1 = 60 := (nI_eq (by omega) (by decide)).mp w2
      have ef : fApp I x = 3 := by unfold fApp; rw [if_pos hb, if_neg (by omega)]
      have z := go 2 (by rw [ef]; rfl) (by rw [ef]; decide) (by decide) (fun v => by rw [ef] at v; cases v)
      exact z
    · intro w2
      have w2 : ¬ zTy m = 60 := w2
      rw [i1] at w2
      have h60 : I.1 < 60 := by
        rcases Nat.lt_or_ge I.1 60 with u | u
        · exact u
        · exact absurd (show nI I.1 = 60 by rw [show I.1 = 60 by omega]; rfl) w2
      have ef : fApp I x = 0 := by unfold fApp; rw [if_pos hb, if_pos h60]
      have z := go 0 (by rw [ef]; rfl) (by rw [ef]) (by decide) (fun _ => ⟨h60, hb⟩)
      exact z
end NAP
/-- a new model -/
def m00 : MS := (upd (upd (fun _ => 0) 4 2) 5 5, (0, 0, 0, 0), (fun _ => 0, 0), (fun _ => 0, 0, 0, 0, -1, -1), (fun _ => 0, 0))
theorem s_X11_init : Sp 1 4 1936 mX11_init [vR 0 0] [[aO 12 [vI 0, vN, vI 0, vI 0, vI 0, vN, vI 0, vN, vI 0, vI 0, vI 0, vI 0, vI 0, vN, vI 0]]] (PoV (mdl m00)) := by
  refine Sp.of' true (fun _ => rfl) (by decide) rfl rfl (Nat.le_of_ble_eq_true rfl) fun γ σ B => ?_
  refine B.run okX11_init [] 60 ?_
  refine At.objI B.1 rfl (mT 1604 (by decide +kernel) rfl) oi_inst oi_code (B.fit (by decide) (by decide) (by decide)) (Nat.le_of_ble_eq_true rfl) (dcI okX11_init rfl) ?_
  refine B.run okX11_init [] 60 ?_
  refine At.newA (N := 1392) (ty := .int) B.1 rfl (fun _ _ _ => rfl) (mT 90 (by decide +kernel) rfl) (by decide) (by decide) (by decide) (by rw [B.2.2.2.1]; decide) (by rw [B.2.2.2.1]; decide) (dcNew okX11_init rfl) rfl rfl rfl fun σ1 g1 => ?_
  refine B.runX okX11_init [] 60 ?_
  refine ⟨trivial, ?_⟩
  refine At.newA (N := 240) (ty := .char) B.1 rfl (fun _ _ _ => rfl) (mT 1651 (by decide +kernel) rfl) (by decide) (by decide) (by decide) (by rw [B.2.2.2.1]; decide) (by rw [B.2.2.2.1]; decide) (dcNew okX11_init rfl) rfl rfl rfl fun σ2 g2 => ?_
  refine B.runX okX11_init [] 60 ?_
  refine ⟨trivial, ?_⟩
  refine At.newA (N := 60) (ty := .char) B.1 rfl (fun _ _ _ => rfl) (mT 1651 (by decide +kernel) rfl) (by decide) (by decide) (by decide) (by rw [B.2.2.2.1]; decide) (by rw [B.2.2.2.1]; decide) (dcNew okX11_init rfl) rfl rfl rfl fun σ3 g3 => ?_
  refine B.runX okX11_init [] 60 ?_
  refine ⟨trivial, trivial, trivial, ?_⟩
  refine At.newA (N := 244) (ty := .int) B.1 rfl (fun _ _ _ => rfl) (mT 90 (by decide +kernel) rfl) (by decide) (by decide) (by decide) (by rw [B.2.2.2.1]; decide) (by rw [B.2.2.2.1]; decide) (dcNew okX11_init rfl) rfl rfl rfl fun σ4 g4 => ?_
  refine B.runN (fun r hr o => (g4 r (Nat.lt_trans hr (by decide)) o).trans ((g3 r (Nat.lt_trans hr (by decide)) o).trans ((g2 r (Nat.lt_trans hr (by decide)) o).trans (g1 r hr o)))) okX11_init [] 60 ?_
  exact ⟨trivial, vk, vk, ⟨rfl, rfl⟩, by decide, by decide, by decide⟩
