/-! ===== the model: its line ===== -/
abbrev wL (m : MS) (f : FI) (n : Int32) : MS := (m.1, m.2.1, (f, n), m.2.2.2)
/-- the line holds the text L -/
def LR (L : SBB) (m : MS) : Prop := zLn m = nI L.1 ∧ L.1 ≤ 240 ∧ ∀ j, j < L.1 → zL m j = nI (L.2.2 j)
/-- all but the line is kept -/
def KL (m m' : MS) : Prop := m'.1 = m.1 ∧ m'.2.1 = m.2.1 ∧ m'.2.2.2 = m.2.2.2
theorem KL.tr {a b c : MS} (h : KL a b) (g : KL b c) : KL a c := ⟨g.1.trans h.1, g.2.1.trans h.2.1, g.2.2.trans h.2.2⟩
theorem LR.cong {L L' : SBB} {m : MS} (h : LR L m) (e : L'.1 = L.1) (f : ∀ j, j < L.1 → L'.2.2 j = L.2.2 j) : LR L' m := ⟨by rw [e]; exact h.1, by rw [e]; exact h.2.1, fun j hj => by
  have hj : j < L.1 := by omega
  rw [f j hj]; exact h.2.2 j hj⟩
theorem c16 : ∀ c, c < 256 → ((nI c).toUInt32 % 65536).toInt32.toUInt32.toUInt16.toUInt32.toInt32 = nI c := by decide +kernel
section NL
variable {m : MS} {T : SH}
theorem n_writes {L : SBB} (h : LR L m) (c : Nat) (hc : c < 256) (hl : L.1 < 240) : Sp 0 0 0 mX11_writes [vR 0 0, vI (nI c)] (mdl m) (PoE none (fun m' => LR (pC L c) m' ∧ KL m m')) := by
  refine Sp.of' false (fun h => by cases h) (by decide) rfl rfl (Nat.le_of_ble_eq_true rfl) fun γ σ B => ?_
  obtain ⟨h1, h2, h3⟩ := h
  refine B.run okX11_writes [] 60 ?_
  refine ⟨by
    show vp_in (zLn m) 240
    rw [h1]; exact vp_in_nI hl (by decide), trivial, ?_⟩
  have e1 : (zLn m).toNatClampNeg = L.1 := by rw [h1]; exact nI_clamp (by omega)
  refine rE (m' := wL m (upd (zL m) (zLn m).toNatClampNeg ((nI c).toUInt32 % 65536).toInt32.toUInt32.toUInt16.toUInt32.toInt32) (zLn m + 1)) ⟨⟨?_, by show L.1 + 1 ≤ 240; omega, fun j hj => ?_⟩, rfl, rfl, rfl⟩ rfl
  · show zLn m + 1 = nI (L.1 + 1)
    rw [h1, nI_1]
  · have hj : j < L.1 + 1 := hj
    show upd (zL m) (zLn m).toNatClampNeg ((nI c).toUInt32 % 65536).toInt32.toUInt32.toUInt16.toUInt32.toInt32 j = nI (sb_cat L.2.2 L.1 (fun _ => c) j)
    rw [e1, c16 c hc]
    by_cases z : j = L.1
    · subst z
      rw [upd_eq]
      unfold sb_cat
      rw [if_neg (Nat.lt_irrefl _)]
    · rw [upd_ne _ _ z, sb_cat_lo (by omega)]
      exact h3 j (by omega)
/-- a number behind the text -/
def pW (L : SBB) (s : Bool) (w : Nat) : SBB := (L.1 + itL s w, L.2.1, sb_cat L.2.2 L.1 (itT s w))
theorem dg10 {w : Nat} (h : 10 ≤ w) (hw : w < 1000000) : sb_dg w = sb_dg (w / 10) + 1 := by
  unfold sb_dg
  rw [if_neg (show ¬ w < 10 by omega)]
  by_cases h2 : w < 100
  · rw [if_pos h2, if_pos (by omega)]
  · rw [if_neg h2, if_neg (show ¬ w / 10 < 10 by omega)]
    by_cases h3 : w < 1000
    · rw [if_pos h3, if_pos (by omega)]
    · rw [if_neg h3, if_neg (show ¬ w / 10 < 100 by omega)]
      by_cases h4 : w < 10000
      · rw [if_pos h4, if_pos (by omega)]
      · rw [if_neg h4, if_neg (show ¬ w / 10 < 1000 by omega)]
        by_cases h5 : w < 100000
        · rw [if_pos h5, if_pos (by omega)]
        · rw [if_neg h5, if_neg (show ¬ w / 10 < 10000 by omega), if_pos hw, if_pos (by omega)]
theorem dec10 {w i : Nat} (h : 10 ≤ w) (hw : w < 1000000) (hi : i < sb_dg (w / 10)) : sb_dec w i = sb_dec (w / 10) i := by
  unfold sb_dec
  rw [dg10 h hw, show sb_dg (w / 10) + 1 - 1 - i = (sb_dg (w / 10) - 1 - i) + 1 by omega, Nat.pow_succ, Nat.mul_comm, ← Nat.div_div_eq_div_mul]
theorem n_writesNumber : ∀ (w : Nat) (s : Bool), (s = true → 0 < w) → w < 1000000 → ∀ (m : MS) (L : SBB) (d : Nat), sb_dg w ≤ d → LR L m → L.1 + itL s w ≤ 240 → Sp d 0 0 mX11_writesNumber [vR 0 0, vI (itI s w)] (mdl m) (PoE none (fun m' => LR (pW L s w) m' ∧ KL m m')) := by
  intro w
  induction w using Nat.strongRecOn with
  | ind w ih =>
  intro s hs hw m L d hd0 hL hl
  refine Sp.of' false (fun h => by cases h) (by decide) rfl rfl (Nat.le_of_ble_eq_true rfl) fun γ σ B => ?_
  have hdg := sb_dg_in w
  have F : Fit γ 0 0 0 0 0 := fiW B (by omega) (Nat.zero_le _) (Nat.zero_le _)
  have ea : absI (itI s w) = nI w := by
    unfold absI
    cases s with
    | false => exact if_pos (nI_pos' (by omega))
    | true =>
      have := hs rfl
      rw [if_neg]
      · show 0 - -nI w = nI w
        grind
      · show ¬ (0 : Int32) ≤ -nI w
        intro q
        rw [Int32.le_iff_toInt_le, sb_negT (by omega), Int32.toInt_zero] at q
        omega
  -- behind the sign
  have body : ∀ (m1 : MS) (L1 : SBB), LR L1 m1 → KL m m1 → L1.1 + sb_dg w ≤ 240 → (∀ m', LR (pW L1 false w) m' → LR (pW L s w) m') → At γ σ 0 0 10 [(0, vR 0 0), (1, vI (itI s w))] [] (mdl m1) := by
    intro m1 L1 h1 k1 hl1 hfin
    refine B.run okX11_writesNumber [(29, [0, 1, 2])] 60 ?_
    refine At.mS [vI (itI s w)] [] B.1 (n_size (itI s w)) kX11_size ln_X11_98 F (dcS okX11_writesNumber rfl) ?_
    rw [ea]
    have last : ∀ (m2 : MS) (L2 : SBB), LR L2 m2 → KL m m2 → L2.1 < 240 → (∀ m', LR (pC L2 (48 + w % 10)) m' → LR (pW L s w) m') → At γ σ 0 0 29 [(0, vR 0 0), (1, vI (itI s w)), (2, vI (nI w))] [] (mdl m2) := by
      intro m2 L2 h2 k2 hl2 hf2
      have SW := n_writes h2 (48 + w % 10) (by omega) hl2
      have e48 : (48 : Int32) + (nI w - nI w / 10 * 10) = nI (48 + w % 10) := by
        rw [show (10 : Int32) = nI 10 from rfl, pk_div (by omega) (by decide) (by decide), nI_mul, show (48 : Int32) = nI 48 from rfl]
        have e : nI w - nI (w / 10 * 10) = nI (w % 10) := by
          have e2 : nI w = nI (w / 10 * 10) + nI (w % 10) := by rw [nI_add]; congr 1; omega
          rw [e2]; grind
        rw [e, nI_add]
      rw [← e48] at SW
      refine B.run okX11_writesNumber [] 60 ?_
      refine ⟨by decide, ?_⟩
      refine At.mE [vI (48 + (nI w - nI w / 10 * 10))] [] B.1 SW kX11_writes ln_X11_199 F (dcV okX11_writesNumber rfl) fun m3 h3 => ?_
      refine B.run okX11_writesNumber [] 60 ?_
      exact rE (m' := m3) ⟨hf2 m3 h3.1, k2.tr h3.2⟩ rfl
    refine B.run okX11_writesNumber [(29, [0, 1, 2])] 60 ?_
    constructor
    · intro q
      have hw9 : w ≤ 9 := (nI_leI (by omega) (by decide)).mp (show nI w ≤ nI 9 from q)
      have hd1 : sb_dg w = 1 := by unfold sb_dg; rw [if_pos (by omega)]
      refine last m1 L1 h1 k1 (by omega) fun m' hm' => hfin m' (hm'.cong ?_ fun j hj => ?_)
      · show L1.1 + sb_dg w = L1.1 + 1
        rw [hd1]
      · have hj : j < L1.1 + 1 := hj
        show sb_cat L1.2.2 L1.1 (sb_dec w) j = sb_cat L1.2.2 L1.1 (fun _ => 48 + w % 10) j
        unfold sb_cat
        by_cases z : j < L1.1
        · rw [if_pos z, if_pos z]
        · rw [if_neg z, if_neg z]
          unfold sb_dec
          rw [hd1, show 1 - 1 - (j - L1.1) = 0 by omega, Nat.pow_zero, Nat.div_one]
    · intro q
      have hw10 : 10 ≤ w := by
        rcases Nat.lt_or_ge w 10 with z | z
        · exact absurd (show nI w ≤ nI 9 from nI_le (by omega) (by decide)) q
        · exact z
      have hd := dg10 hw10 hw
      have SN := ih (w / 10) (by omega) false (fun z => by cases z) (by omega) m1 L1 (d - 1) (by omega) h1 (by show L1.1 + sb_dg (w / 10) ≤ 240; omega)
      have e10 : itI false (w / 10) = nI w / 10 := (pk_div (a := w) (d := 10) (by omega) (by decide) (by decide)).symm
      rw [e10] at SN
      have FN : Fit γ 0 0 (d - 1) 0 0 := fiW B (by omega) (Nat.zero_le _) (Nat.zero_le _)
      refine ⟨by decide, ?_⟩
      refine At.mE [vI (nI w / 10)] [] B.1 SN kX11_writesNumber ln_X11_202 FN (dcV okX11_writesNumber rfl) fun m2 h2 => ?_
      refine last m2 _ h2.1 (k1.tr h2.2) (by show L1.1 + sb_dg (w / 10) < 240; omega) fun m' hm' => hfin m' (hm'.cong ?_ fun j hj => ?_)
      · show L1.1 + sb_dg w = L1.1 + sb_dg (w / 10) + 1
        omega
      · have hj : j < L1.1 + sb_dg (w / 10) + 1 := hj
        show sb_cat L1.2.2 L1.1 (sb_dec w) j = sb_cat (sb_cat L1.2.2 L1.1 (sb_dec (w / 10))) (L1.1 + sb_dg (w / 10)) (fun _ => 48 + w % 10) j
        unfold sb_cat
        by_cases z : j < L1.1
        · rw [if_pos z, if_pos (by omega), if_pos z]
        · rw [if_neg z]
          by_cases z2 : j < L1.1 + sb_dg (w / 10)
          · rw [if_pos z2, if_neg z]
            exact dec10 hw10 hw (by omega)
          · rw [if_neg z2]
            unfold sb_dec
            rw [hd, show sb_dg (w / 10) + 1 - 1 - (j - L1.1) = 0 by omega, Nat.pow_zero, Nat.div_one]
  refine B.run okX11_writesNumber [(10, [0, 1])] 60 ?_
  cases s with
  | false =>
    constructor
    · intro _
      exact body m L hL ⟨rfl, rfl, rfl⟩ hl (fun m' hm' => hm')
    · intro q
      exact absurd (nI_pos' (n := w) (by omega)) q
  | true =>
    have h0 := hs rfl
    constructor
    · intro q
      have q : (0 : Int32) ≤ -nI w := q
      rw [Int32.le_iff_toInt_le, sb_negT (by omega), Int32.toInt_zero] at q
      omega
    · intro _
      refine B.run okX11_writesNumber [(10, [0, 1])] 60 ?_
      have hl2 : L.1 + (sb_dg w + 1) ≤ 240 := hl
      refine At.mE [vI (nI 45)] [] B.1 (n_writes hL 45 (by decide) (by omega)) kX11_writes ln_X11_199 F (dcV okX11_writesNumber rfl) fun m1 h1 => ?_
      refine body m1 (pC L 45) h1.1 h1.2 (by show L.1 + 1 + sb_dg w ≤ 240; omega) fun m' hm' => hm'.cong ?_ fun j hj => ?_
      · show L.1 + (sb_dg w + 1) = L.1 + 1 + sb_dg w
        omega
      · have hj : j < L.1 + 1 + sb_dg w := hj
        show sb_cat L.2.2 L.1 (itT true w) j = sb_cat (sb_cat L.2.2 L.1 (fun _ => 45)) (L.1 + 1) (sb_dec w) j
        unfold sb_cat
        by_cases z : j < L.1
        · rw [if_pos z, if_pos (by omega), if_pos z]
        · rw [if_neg z]
          by_cases z2 : j = L.1
          · subst z2
            rw [Nat.sub_self, if_pos (by omega), if_neg z]; rfl
          · rw [if_neg (by omega), show j - L.1 = (j - (L.1 + 1)) + 1 by omega]; rfl
/-- the same for a value -/
theorem n_wn {L : SBB} (h : LR L m) (x : Int32) (hx : NB x) (hl : L.1 + itL (decide (x < 0)) x.toInt.natAbs ≤ 240) : Sp 6 0 0 mX11_writesNumber [vR 0 0, vI x] (mdl m) (PoE none (fun m' => LR (pN L x) m' ∧ KL m m')) := by
  have hd : sb_dg x.toInt.natAbs ≤ 6 := by
    have : x.toInt.natAbs < 1000000 := hx
    unfold sb_dg
    repeat' split
    all_goals omega
  have z := n_writesNumber x.toInt.natAbs (decide (x < 0)) (it_pos x) hx m L 6 hd h hl
  rw [it_of] at z
  exact z.mono fun o h2 hp => by
    obtain ⟨m', e1, e2, hL, hK⟩ := hp
    exact ⟨m', e1, e2, hL.cong rfl (fun _ _ => rfl), hK⟩
end NL
