/-! ===== the bounds are kept ===== -/
theorem min_r (x y : Int32) : (minI x y).toInt ≤ y.toInt := by
  unfold minI
  split
  · exact Int.le_refl _
  · rename_i h; exact Int32.le_iff_toInt_le.mp (Int32.not_lt.mp h)
theorem min_lo {x y : Int32} {a : Int} (h1 : a ≤ x.toInt) (h2 : a ≤ y.toInt) : a ≤ (minI x y).toInt := by
  unfold minI
  split
  · exact h2
  · exact h1
def SB (S : SH) : Prop := ∀ i, i < gsc S → bI (gsg S i) 1 9
def VS (S : SH) : Prop := VB S ∧ SB S
theorem VB.leak {S : SH} (h : VB S) : VB (leakS S) := by
  refine ⟨fun i hi => ?_, h.2.1, h.2.2.1, h.2.2.2⟩
  have hi : i < gc S := hi
  obtain ⟨b1, b2, b3, b4, b5, b6⟩ := h.1 i hi
  have e : gw (leakS S) i = minI (gw S i + gl S i) (gcp S i) := fill_in _ _ hi
  have z := bI.add b3 b5 (by omega) (by omega)
  have z1 := min_r (gw S i + gl S i) (gcp S i)
  have z2 := min_lo (a := 0) (x := gw S i + gl S i) (y := gcp S i) (by have := z.1; omega) (by have := b2.1; omega)
  refine ⟨b1, b2, ?_, ?_, b5, b6⟩
  · rw [e]
    exact ⟨z2, by have := b2.2; omega⟩
  · rw [e]
    exact Int32.le_iff_toInt_le.mpr z1
theorem VB.pump {S : SH} (h : VB S) : VB (pumpS S) := by
  refine ⟨fun i hi => ?_, h.2.1, h.2.2.1, h.2.2.2⟩
  have hi : i < gc S := hi
  obtain ⟨b1, b2, b3, b4, b5, b6⟩ := h.1 i hi
  have e : gw (pumpS S) i = pmI (gu S) (gw S) (gc S) (gpw S) i := fill_in _ _ hi
  have z1 := min_r (gu S i) (gw S i)
  have z2 := min_lo (a := 0) (x := gu S i) (y := gw S i) b6.1 b3.1
  have b31 := b3.1
  have b32 := b3.2
  have z : 0 ≤ (pmI (gu S) (gw S) (gc S) (gpw S) i).toInt ∧ (pmI (gu S) (gw S) (gc S) (gpw S) i).toInt ≤ (gw S i).toInt := by
    unfold pmI
    split
    · generalize hm : minI (gu S i) (gw S i) = m at *
      rw [Int32.toInt_sub, Int.bmod_eq_of_le (by omega) (by omega)]
      constructor <;> omega
    · exact ⟨b31, Int.le_refl _⟩
  have b4 := bI_le b4
  obtain ⟨y1, y2⟩ := z
  refine ⟨b1, b2, ?_, ?_, b5, b6⟩
  · rw [e]
    exact ⟨y1, Int.le_trans y2 b32⟩
  · rw [e]
    exact Int32.le_iff_toInt_le.mpr (Int.le_trans y2 b4)
theorem SB_shl {S : SH} (h : SB S) (q : Nat) : ∀ i, i < gsc S - 1 → bI (shl (gsg S) q (gsc S - 1) i) 1 9 := by
  intro i hi
  unfold shl
  split
  · exact h (i + 1) (by omega)
  · exact h i (by omega)
theorem VS_strike {S : SH} (h : VS S) (hS : WF S) : VS (strike S) := by
  have hc := hS.1
  unfold strike
  generalize hq : fst (eqB (gmi S) (gmn S)) (gsc S) = q
  split
  · rename_i hf
    have s1 : VS (stQ S q) := ⟨h.1, SB_shl h.2 q⟩
    split
    · rename_i h0
      have hl : fuN (ldI S) (gc S) < gc S := by
        obtain ⟨c', hc'⟩ : ∃ c', gc S = c' + 1 := ⟨gc S - 1, by omega⟩
        have := fuN_lt (ldI S) c'
        rw [hc']
        omega
      generalize fuN (ldI S) (gc S) = f at hl
      refine ⟨⟨fun i hi => ?_, h.1.2.1, h.1.2.2.1, h.1.2.2.2⟩, s1.2⟩
      have hi : i < gc S := hi
      obtain ⟨b1, b2, b3, b4, b5, b6⟩ := h.1.1 i hi
      refine ⟨b1, b2, b3, b4, ?_, b6⟩
      show bI (upd (gl S) f (minI (gl S f + gsg S q) 20) i) 0 20
      by_cases e : i = f
      · subst e
        rw [upd_eq]
        have z := bI.add b5 (h.2 q hf) (by omega) (by omega)
        have e20 : (20 : Int32).toInt = 20 := rfl
        exact ⟨min_lo (by have := z.1; omega) (by omega), by have := min_r (gl S i + gsg S q) 20; omega⟩
      · rw [upd_ne _ _ e]
        exact b5
    · exact s1
  · exact h
theorem VS_tick {S : SH} (h : VS S) (hS : WF S) : VS (tick S) := by
  have h1 : VS (stM S (gmn S + 1)) := h
  have h2 := VS_strike h1 (WF_stM hS _)
  exact ⟨VB.pump (VB.leak h2.1), h2.2⟩
theorem VS_tks : ∀ (n : Nat) {S : SH}, VS S → WF S → VS (tks n S)
  | 0, _, h, _ => h
  | n + 1, S, h, hS => by
    rw [tks_s]
    split
    · exact VS_tks n (VS_tick h hS) (WF_tick hS)
    · exact h
/-! what the faults leave open -/
theorem fAdd_w {S : SH} {x y : Int32} (h : fAdd S x y = 0) : wiB x (-9) 9 = true ∧ wiB y 10 200 = true := by
  unfold fAdd at h
  split at h
  · rename_i q; simpa using q
  · cases h
theorem fLoad_w {S : SH} {x y : Int32} (h : fLoad S x y = 0) : wiB y 1 50 = true := by
  unfold fLoad at h
  split at h
  · split at h
    · assumption
    · cases h
  · cases h
theorem fRat_w {S : SH} {x y : Int32} (h : fRat S x y = 0) : wiB y 0 20 = true := by
  unfold fRat at h
  split at h
  · split at h
    · assumption
    · cases h
  · cases h
theorem fMov_w {S : SH} {x y a : Int32} (h : fMov S x y a = 0) : wiB a 1 200 = true ∧ mvI (gcp S) (gw S) x y a = true := by
  unfold fMov at h
  split at h
  · split at h
    · rename_i q
      split at h
      · rename_i q2; exact ⟨q, q2⟩
      · cases h
    · cases h
  · cases h
theorem fPow_w {x : Int32} (h : fPow x = 0) : wiB x 0 8 = true := by
  unfold fPow at h
  split at h
  · assumption
  · cases h
theorem fSch_w {S : SH} {x y : Int32} (h : fSch S x y = 0) : gmn S < x ∧ x - gmn S ≤ 999 ∧ wiB y 1 9 = true := by
  unfold fSch at h
  split at h
  · assumption
  · cases h
theorem VS_eAdd {S : SH} (h : VS S) {x y : Int32} (hf : fAdd S x y = 0) : VS (eAdd S x y) := by
  obtain ⟨w1, w2⟩ := fAdd_w hf
  refine ⟨⟨fun i hi => ?_, h.1.2.1, h.1.2.2.1, h.1.2.2.2⟩, h.2⟩
  have hi : i < gc S + 1 := hi
  show bI (upd (gar S) (gc S) x i) (-9) 9 ∧ bI (upd (gcp S) (gc S) y i) 10 200 ∧ bI (upd (gw S) (gc S) 0 i) 0 200 ∧ upd (gw S) (gc S) 0 i ≤ upd (gcp S) (gc S) y i ∧ bI (upd (gl S) (gc S) 0 i) 0 20 ∧ bI (upd (gu S) (gc S) 5 i) 0 20
  by_cases e : i = gc S
  · subst e
    simp only [upd_eq]
    have b2 := bI_wi w2
    exact ⟨bI_wi w1, b2, ⟨by decide, by decide⟩, Int32.le_iff_toInt_le.mpr (Int.le_trans (by decide) b2.1), ⟨by decide, by decide⟩, ⟨by decide, by decide⟩⟩
  · simp only [upd_ne _ _ e]
    exact h.1.1 i (by omega)
theorem VS_ePut {S : SH} (h : VS S) {x y : Int32} (hf : fLoad S x y = 0) : VS (ePut S x y) := by
  refine ⟨⟨h.1.1, fun k hk => ?_, h.1.2.2.1, h.1.2.2.2⟩, h.2⟩
  have hk : k < gp S + 1 := hk
  show bI (upd (gwt S) (gp S) y k) 1 50
  by_cases e : k = gp S
  · subst e
    rw [upd_eq]
    exact bI_wi (fLoad_w hf)
  · rw [upd_ne _ _ e]
    exact h.1.2.1 k (by omega)
theorem VS_eRem {S : SH} (h : VS S) {x : Int32} : VS (eRem S x) := by
  refine ⟨⟨h.1.1, fun k hk => ?_, h.1.2.2.1, h.1.2.2.2⟩, h.2⟩
  have hk : k < gp S - 1 := hk
  show bI (shl (gwt S) (pq S x) (gp S - 1) k) 1 50
  unfold shl
  split
  · exact h.1.2.1 (k + 1) (by omega)
  · exact h.1.2.1 k (by omega)
theorem VS_eLk {S : SH} (h : VS S) {x y : Int32} (w : wiB y 0 20 = true) : VS (eLk S x y) := by
  refine ⟨⟨fun i hi => ?_, h.1.2.1, h.1.2.2.1, h.1.2.2.2⟩, h.2⟩
  obtain ⟨b1, b2, b3, b4, b5, b6⟩ := h.1.1 i hi
  refine ⟨b1, b2, b3, b4, ?_, b6⟩
  show bI (upd (gl S) x.toNatClampNeg y i) 0 20
  by_cases e : i = x.toNatClampNeg
  · rw [e, upd_eq]; exact bI_wi w
  · rw [upd_ne _ _ e]; exact b5
theorem VS_eGu {S : SH} (h : VS S) {x y : Int32} (w : wiB y 0 20 = true) : VS (eGu S x y) := by
  refine ⟨⟨fun i hi => ?_, h.1.2.1, h.1.2.2.1, h.1.2.2.2⟩, h.2⟩
  obtain ⟨b1, b2, b3, b4, b5, b6⟩ := h.1.1 i hi
  refine ⟨b1, b2, b3, b4, b5, ?_⟩
  show bI (upd (gu S) x.toNatClampNeg y i) 0 20
  by_cases e : i = x.toNatClampNeg
  · rw [e, upd_eq]; exact bI_wi w
  · rw [upd_ne _ _ e]; exact b6
theorem VS_eMov {S : SH} (h : VS S) (hS : WF S) {x y a : Int32} (hf : fMov S x y a = 0) : VS (eMov S x y a) := by
  have hc := hS.1
  obtain ⟨w1, w2⟩ := fMov_w hf
  obtain ⟨h1, h2⟩ := (fMov_i S x y a).2 hf
  obtain ⟨s, hs, rfl⟩ := hsB_in hS h1
  obtain ⟨t, ht, rfl⟩ := hsB_in hS h2
  unfold eMov
  rw [nI_clamp (by omega), nI_clamp (by omega)]
  exact ⟨h.1.mov hS hs ht (bI_wi w1) w2, h.2⟩
theorem VS_ePow {S : SH} (h : VS S) {x : Int32} (w : wiB x 0 8 = true) : VS (ePow S x) := ⟨⟨h.1.1, h.1.2.1, bI_wi w, h.1.2.2.2⟩, h.2⟩
theorem VS_eLim {S : SH} (h : VS S) {x : Int32} (w : wiB x 1 9 = true) : VS (eLim S x) := ⟨⟨h.1.1, h.1.2.1, h.1.2.2.1, bI_wi w⟩, h.2⟩
theorem VS_eSch {S : SH} (h : VS S) {x y : Int32} (w : wiB y 1 9 = true) : VS (eSch S x y) := by
  refine ⟨h.1, fun i hi => ?_⟩
  have hi : i < gsc S + 1 := hi
  show bI (upd (shr (gsg S) (insP (gmi S) x (gsc S)) (gsc S)) (insP (gmi S) x (gsc S)) y i) 1 9
  have hp := insP_le (gmi S) x (gsc S)
  generalize insP (gmi S) x (gsc S) = p at hp
  by_cases e : i = p
  · rw [e, upd_eq]; exact bI_wi w
  · rw [upd_ne _ _ e]
    unfold shr
    split
    · exact h.2 (i - 1) (by omega)
    · exact h.2 i (by omega)
theorem VS_eCan {S : SH} (h : VS S) {x : Int32} : VS (eCan S x) := ⟨h.1, SB_shl h.2 _⟩
theorem VS_eK {S : SH} (h : VS S) (hS : WF S) (a b c : Int32) : ∀ o, o < 10 → fK o S a b c = 0 → VS (eK o S a b c) := by
  refine ten ?_ ?_ ?_ ?_ ?_ ?_ ?_ ?_ ?_ ?_
  · exact fun hf => VS_eAdd h hf
  · exact fun hf => VS_ePut h hf
  · exact fun _ => VS_eRem h
  · exact fun _ => h
  · exact fun hf => VS_eLk h (fRat_w hf)
  · exact fun hf => VS_eGu h (fRat_w hf)
  · exact fun hf => VS_eMov h hS hf
  · exact fun hf => VS_ePow h (fPow_w hf)
  · exact fun hf => VS_eSch h (fSch_w hf).2.2
  · exact fun _ => VS_tks _ h hS
