/-! ===== the line and the input ===== -/
def NB (x : Int32) : Prop := x.toInt.natAbs < 1000000
theorem it_of (x : Int32) : itI (decide (x < 0)) x.toInt.natAbs = x := by
  by_cases h : x < 0
  · rw [decide_eq_true h]
    have h2 : x.toInt < 0 := Int32.lt_iff_toInt_lt.mp h
    have e : x.toInt = -(x.toInt.natAbs : Int) := by omega
    show -nI x.toInt.natAbs = x
    have e2 : nI x.toInt.natAbs = Int32.ofInt (x.toInt.natAbs : Int) := rfl
    rw [e2, ← Int32.ofInt_neg, ← e, Int32.ofInt_toInt]
  · rw [decide_eq_false h]
    have h2 : ¬ x.toInt < 0 := fun q => h (Int32.lt_iff_toInt_lt.mpr q)
    have e : (x.toInt.natAbs : Int) = x.toInt := by omega
    show nI x.toInt.natAbs = x
    have e2 : nI x.toInt.natAbs = Int32.ofInt (x.toInt.natAbs : Int) := rfl
    rw [e2, e, Int32.ofInt_toInt]
theorem it_pos (x : Int32) : decide (x < 0) = true → 0 < x.toInt.natAbs := fun h => by
  have h2 : x.toInt < 0 := Int32.lt_iff_toInt_lt.mp (of_decide_eq_true h)
  omega
theorem itL7 (s : Bool) {w : Nat} (hw : w < 1000000) : itL s w ≤ 7 := by
  have : sb_dg w ≤ 6 := by
    unfold sb_dg
    repeat' split
    all_goals omega
  cases s
  · exact Nat.le_succ_of_le this
  · exact Nat.succ_le_succ this
def pC (L : SBB) (c : Nat) : SBB := (L.1 + 1, sb_cap (L.1 + 1) L.2.1, sb_cat L.2.2 L.1 (fun _ => c))
def pN (L : SBB) (x : Int32) : SBB := (L.1 + itL (decide (x < 0)) x.toInt.natAbs, sb_cap (L.1 + itL (decide (x < 0)) x.toInt.natAbs) L.2.1, sb_cat L.2.2 L.1 (itT (decide (x < 0)) x.toInt.natAbs))
def pX (L : SBB) (j : Nat) : SBB := (L.1 + (sxB j).length, sb_cap (L.1 + (sxB j).length) L.2.1, sb_cat L.2.2 L.1 (sxC j))
def gk (m : Nat) : Nat := if 300 ≤ m then 0 else if 149 ≤ m then 1 else if 74 ≤ m then 2 else if 36 ≤ m then 3 else if 17 ≤ m then 4 else 5
def gsl (m : Nat) : Nat := if 300 ≤ m then 0 else if 149 ≤ m then 600 else if 74 ≤ m then 900 else if 36 ≤ m then 1200 else if 17 ≤ m then 1500 else 1800
theorem gk_le (m : Nat) : gk m ≤ 5 := by unfold gk; (repeat' split) <;> omega
theorem gs_le (m : Nat) : gsl m ≤ 1800 := by unfold gsl; (repeat' split) <;> omega
theorem room_of {q m : Nat} (h16 : 16 ≤ m) (hq : q ≤ 300) : ∃ mc ms, sb_Room q m mc ms ∧ mc + gk (sb_cap q m) ≤ gk m ∧ ms + gsl (sb_cap q m) ≤ gsl m ∧ 16 ≤ sb_cap q m := by
  rcases Nat.lt_or_ge m q with h | h
  · have e : sb_cap q m = if 2 * m + 2 < q then q else 2 * m + 2 := by unfold sb_cap; rw [if_neg (by omega)]
    have c1 : 2 * m + 2 ≤ sb_cap q m := by rw [e]; split <;> omega
    have c2 : sb_cap q m ≤ 2 * m + 2 ∨ sb_cap q m = q := by rw [e]; split <;> omega
    have hr : sb_Room q m 1 (sb_cap q m) := Or.inr ⟨Nat.le_refl _, Nat.le_refl _, by omega⟩
    refine ⟨1, sb_cap q m, hr, ?_, ?_, by omega⟩ <;> generalize sb_cap q m = c at c1 c2
    · unfold gk
      repeat' split
      all_goals omega
    · unfold gsl
      repeat' split
      all_goals omega
  · have e : sb_cap q m = m := by unfold sb_cap; rw [if_pos h]
    exact ⟨0, 0, Or.inl h, by rw [e]; omega, by rw [e]; omega, by omega⟩
def Bud (k n b : Nat) (L : SBB) : Prop := L.1 ≤ b ∧ 16 ≤ L.2.1 ∧ k + gk L.2.1 ≤ 8 ∧ n + gsl L.2.1 ≤ 1900
theorem Bud.k {k n b : Nat} {L : SBB} (h : Bud k n b L) : k ≤ 8 ∧ n ≤ 1900 := ⟨by have := h.2.2.1; omega, by have := h.2.2.2; omega⟩
section ATB
variable {γ : CX} {own : String} {cc : ByteArray} {σ : Nat → Nat → Nat} {k n pc : Nat} {ls : List (Nat × AV)} {st : List AV} {hC2 : AHp} {mc2 ms2 d2 ix na n0 m0 : Nat} {t0 : Nat → Nat} {M : MR} {v : Option AV} {K K2 : KS'} {P : List Nat}
theorem At.wB (E : FE P [[aB n0 m0 t0]] hC2 K K2) (As rest : List AV) (O : OK γ own cc) (S : Sp d2 mc2 ms2 M (vR 0 0 :: As) [[aB n0 m0 t0]] (PoQ v hC2)) (Kk : KV M na) (w : Cond.methodLink own ix (mY M) ∈ GT) (hf : Fit γ k n d2 mc2 ms2) (d : decode cc pc = .ok (.invokevirtual ix, 3))
    (g : At γ σ (k + mc2) (n + ms2) (pc + 3) ls ((v.toList.map (ren P)) ++ rest) (world K2)) (hrc : (mY M).cls = RJ4 := by rfl) (hn : va_nd P = true := by rfl) (hna : As.length = na := by rfl) (hrw : wsum rest ≤ 8 := by exact Nat.le_of_ble_eq_true rfl) (hst : st = (As.map (ren P)).reverse ++ vR (rn P 0) 0 :: rest := by rfl) (hl : hC2.length = 1 := by rfl) : At γ σ k n pc ls st (world K) :=
  At.wV (c := aB n0 m0 t0) E As rest O S Kk w hf d g rfl hrc hn hna hrw hst hl
end ATB
section APP
variable {γ : CX} {own : String} {cc : ByteArray} {σ : Nat → Nat → Nat} {k n pc N0 mc ms d ix b : Nat} {ls : List (Nat × AV)} {rest : List AV} {Po : Out → AHp → Prop} {K : KS'} {ini : Bool} {M : MR}
theorem At.apC (O : OK γ own cc) (B : Bd γ σ ini M d mc ms N0 Po) (w : Cond.methodLink own ix yJ4_append_cf468 ∈ GT) (c : Nat) (hb : Bud k n b (kL K)) (dd : decode cc pc = .ok (.invokevirtual ix, 3))
    (g : ∀ k' n', Bud k' n' (b + 1) (pC (kL K) c) → At γ σ k' n' (pc + 3) ls (vR 52 0 :: rest) (world (stLn K (pC (kL K) c)))) (hc : c < 256 := by decide) (hq : b + 1 ≤ 300 := by decide) (h1 : 5 < d := by decide) (h2 : 8 ≤ mc := by decide) (h3 : 1900 ≤ ms := by decide) (hrw : wsum rest ≤ 8 := by exact Nat.le_of_ble_eq_true rfl) : At γ σ k n pc ls (vI (nI c) :: vR 52 0 :: rest) (world K) := by
  obtain ⟨b1, b2, b3, b4⟩ := hb
  obtain ⟨mc2, ms2, r1, r2, r3, r4⟩ := room_of (q := (kL K).1 + 1) b2 (by omega)
  exact At.wB (fe_L K (pC (kL K) c)) [vI (nI c)] rest O (s_sC (kL K).1 (kL K).2.1 c mc2 ms2 (kL K).2.2 hc (by omega) r1) kJ4_append_cf468 w (B.fit h1 (by omega) (by omega)) dd (g (k + mc2) (n + ms2) ⟨Nat.succ_le_succ b1, r4, by show k + mc2 + gk (sb_cap ((kL K).1 + 1) (kL K).2.1) ≤ 8; omega, by show n + ms2 + gsl (sb_cap ((kL K).1 + 1) (kL K).2.1) ≤ 1900; omega⟩) (hrw := hrw)
theorem At.apN (O : OK γ own cc) (B : Bd γ σ ini M d mc ms N0 Po) (w : Cond.methodLink own ix yJ4_append_bf812 ∈ GT) (x : Int32) (hx : NB x) (hb : Bud k n b (kL K)) (dd : decode cc pc = .ok (.invokevirtual ix, 3))
    (g : ∀ k' n', Bud k' n' (b + 7) (pN (kL K) x) → At γ σ k' n' (pc + 3) ls (vR 52 0 :: rest) (world (stLn K (pN (kL K) x)))) (hq : b + 7 ≤ 300 := by decide) (h1 : 5 < d := by decide) (h2 : 8 ≤ mc := by decide) (h3 : 1900 ≤ ms := by decide) (hrw : wsum rest ≤ 8 := by exact Nat.le_of_ble_eq_true rfl) : At γ σ k n pc ls (vI x :: vR 52 0 :: rest) (world K) := by
  obtain ⟨b1, b2, b3, b4⟩ := hb
  have h7 := itL7 (decide (x < 0)) hx
  obtain ⟨mc2, ms2, r1, r2, r3, r4⟩ := room_of (q := (kL K).1 + itL (decide (x < 0)) x.toInt.natAbs) b2 (by omega)
  have S := s_sI (decide (x < 0)) x.toInt.natAbs (kL K).1 (kL K).2.1 mc2 ms2 (kL K).2.2 (it_pos x) hx r1
  rw [it_of] at S
  exact At.wB (fe_L K (pN (kL K) x)) [vI x] rest O S kJ4_append_bf812 w (B.fit h1 (by omega) (by omega)) dd (g (k + mc2) (n + ms2) ⟨Nat.add_le_add b1 h7, r4, by show k + mc2 + gk (sb_cap ((kL K).1 + itL (decide (x < 0)) x.toInt.natAbs) (kL K).2.1) ≤ 8; omega, by show n + ms2 + gsl (sb_cap ((kL K).1 + itL (decide (x < 0)) x.toInt.natAbs) (kL K).2.1) ≤ 1900; omega⟩) (hrw := hrw)
theorem At.apS (O : OK γ own cc) (B : Bd γ σ ini M d mc ms N0 Po) (w : Cond.methodLink own ix yJ4_append_15ec4 ∈ GT) (j : Nat) (hb : Bud k n b (kL K)) (dd : decode cc pc = .ok (.invokevirtual ix, 3))
    (g : ∀ k' n', Bud k' n' (b + 2) (pX (kL K) j) → At γ σ k' n' (pc + 3) ls (vR 52 0 :: rest) (world (stLn K (pX (kL K) j)))) (hj : j < 19 := by decide) (hl : (sxB j).length = 2 := by decide) (hq : b + 2 ≤ 300 := by decide) (h1 : 5 < d := by decide) (h2 : 8 ≤ mc := by decide) (h3 : 1900 ≤ ms := by decide) (hrw : wsum rest ≤ 8 := by exact Nat.le_of_ble_eq_true rfl) : At γ σ k n pc ls (vK (15 + j) :: vR 52 0 :: rest) (world K) := by
  obtain ⟨b1, b2, b3, b4⟩ := hb
  obtain ⟨mc2, ms2, r1, r2, r3, r4⟩ := room_of (q := (kL K).1 + (sxB j).length) b2 (by omega)
  exact At.wB (fe_L K (pX (kL K) j)) [vK (15 + j)] rest O (s_sS j (kL K).1 (kL K).2.1 mc2 ms2 (kL K).2.2 hj r1) kJ4_append_15ec4 w (B.fit h1 (by omega) (by omega)) dd (g (k + mc2) (n + ms2) ⟨by show (kL K).1 + (sxB j).length ≤ b + 2; omega, r4, by show k + mc2 + gk (sb_cap ((kL K).1 + (sxB j).length) (kL K).2.1) ≤ 8; omega, by show n + ms2 + gsl (sb_cap ((kL K).1 + (sxB j).length) (kL K).2.1) ≤ 1900; omega⟩) (hrw := hrw)
end APP
def sepL (L : SBB) (c : Nat) : SBB := if L.1 = 0 then L else pC L c
theorem s_separate (K : KS') (c mc ms : Nat) (hc : c < 256) (hL : (kL K).1 ≤ 300) (hr : sb_Room ((kL K).1 + 1) (kL K).2.1 mc ms) : Sp 6 mc ms mX10_separate [vR 0 0, vI (nI c)] (world K) (PoF 0 none (world (stLn K (sepL (kL K) c)))) := by
  refine Sp.of' false (fun h => by cases h) (by decide) rfl rfl (Nat.le_of_ble_eq_true rfl) fun γ σ B => ?_
  refine B.run okX10_separate [] 60 ?_
  refine At.wB (fe_L K (kL K)) [] [] B.1 (s_sbLen (kL K).1 (kL K).2.1 (kL K).2.2) kJ4_length_8abf5 ln_X10_353 (B.fit (by decide) (by omega) (by omega)) (dcV okX10_separate rfl) ?_
  refine B.run okX10_separate [] 60 ?_
  constructor
  · intro h
    have h : (kL K).1 = 0 := by
      rcases Nat.eq_zero_or_pos (kL K).1 with q | q
      · exact q
      · exact absurd h (nI_nle q (by omega))
    have e : sepL (kL K) c = kL K := if_pos h
    exact rCN rfl (by rw [e])
  · intro h
    have h : ¬ (kL K).1 = 0 := fun q => h (by rw [q]; decide)
    have e : sepL (kL K) c = pC (kL K) c := if_neg h
    refine B.run okX10_separate [] 60 ?_
    refine At.wB (fe_L K (pC (kL K) c)) [vI (nI c)] [] B.1 (s_sC (kL K).1 (kL K).2.1 c mc ms (kL K).2.2 hc (by omega) hr) kJ4_append_cf468 ln_X10_334 (B.fit (by decide) (by omega) (by omega)) (dcV okX10_separate rfl) ?_
    refine B.run okX10_separate [] 60 ?_
    exact rCN rfl (by rw [e])
section APP2
variable {γ : CX} {cc : ByteArray} {σ : Nat → Nat → Nat} {k n pc N0 mc ms d ix b : Nat} {ls : List (Nat × AV)} {rest : List AV} {Po : Out → AHp → Prop} {K : KS'} {ini : Bool} {M : MR}
theorem At.sep (O : OK γ RX10 cc) (B : Bd γ σ ini M d mc ms N0 Po) (c : Nat) (Fi : Fin γ σ N0 mc ms (mZ M) Po) (hb : Bud k n b (kL K)) (dd : decode cc pc = .ok (.invokevirtual 356, 3))
    (g : ∀ k' n', Bud k' n' (b + 1) (sepL (kL K) c) → At γ σ k' n' (pc + 3) ls rest (world (stLn K (sepL (kL K) c)))) (hq : b + 1 ≤ 300 := by decide) (hc : c < 256 := by decide) (h1 : 6 < d := by decide) (h2 : 8 ≤ mc := by decide) (h3 : 1900 ≤ ms := by decide) (hrw : wsum rest ≤ 8 := by exact Nat.le_of_ble_eq_true rfl) : At γ σ k n pc ls (vI (nI c) :: vR 0 0 :: rest) (world K) := by
  obtain ⟨b1, b2, b3, b4⟩ := hb
  obtain ⟨mc2, ms2, r1, r2, r3, r4⟩ := room_of (q := (kL K).1 + 1) b2 (by omega)
  have hx : Bud (k + mc2) (n + ms2) (b + 1) (sepL (kL K) c) := by
    unfold sepL
    split
    · have g1 : gk (sb_cap ((kL K).1 + 1) (kL K).2.1) = gk (kL K).2.1 := by
        have : sb_cap ((kL K).1 + 1) (kL K).2.1 = (kL K).2.1 := by unfold sb_cap; rw [if_pos (by omega)]
        rw [this]
      have g2 : gsl (sb_cap ((kL K).1 + 1) (kL K).2.1) = gsl (kL K).2.1 := by
        have : sb_cap ((kL K).1 + 1) (kL K).2.1 = (kL K).2.1 := by unfold sb_cap; rw [if_pos (by omega)]
        rw [this]
      exact ⟨by omega, b2, by omega, by omega⟩
    · exact ⟨Nat.succ_le_succ b1, r4, by show k + mc2 + gk (sb_cap ((kL K).1 + 1) (kL K).2.1) ≤ 8; omega, by show n + ms2 + gsl (sb_cap ((kL K).1 + 1) (kL K).2.1) ≤ 1900; omega⟩
  exact At.fI [vI (nI c)] rest O Fi (s_separate K c mc2 ms2 hc (by omega) r1) kX10_separate ln_X10_356 (B.fit h1 (by omega) (by omega)) (by omega) (by omega) dd (fun _ => g _ _ hx) (fun q => absurd rfl q) (hrw := hrw)
end APP2
abbrev L0 (L : SBB) : SBB := (0, L.2.1, L.2.2)
def fcA (S : SH) (x : Int32) (j : Nat) (L : SBB) : SBB := pN (pX (pN (pC (pN (pC (pN (pX (pN (pC (L0 L) 67) x) 16) (gar S j)) 32) (gw S j)) 47) (gcp S j)) 17) (cgI (gwt S) (gpl S) x (gp S))
def fcL (S : SH) (x : Int32) (j : Nat) (L : SBB) : SBB := if 0 < gl S j then pN (pX (fcA S x j L) 18) (gl S j) else fcA S x j L
def NBS (S : SH) : Prop := (∀ i, i < gc S → NB (gar S i) ∧ NB (gw S i) ∧ NB (gcp S i) ∧ NB (gl S i) ∧ NB (cgI (gwt S) (gpl S) (nI i) (gp S))) ∧ (∀ i, i < gp S → NB (gid S i) ∧ NB (gwt S i)) ∧ ∀ i, i < gsc S → NB (gmi S i) ∧ NB (gsg S i)
theorem NB_nI {w : Nat} (h : w < 1000000) : NB (nI w) := by
  unfold NB
  rw [nI_toInt (by omega)]
  omega
theorem m_formatCompartment (K : KS') (hK : WK K) (x : Int32) (hN : NBS (kS K)) (hL : 16 ≤ (kL K).2.1) : Sp 12 12 2000 mX10_formatCompartment [vR 0 0, vI x] (world K) (PoC (fChk (kS K) x) (some (vI (nI (fcL (kS K) x x.toNatClampNeg (kL K)).1))) (stLn K (fcL (kS K) x x.toNatClampNeg (kL K))) (K)) := by
  refine Sp.of' false (fun h => by cases h) (by decide) rfl rfl (Nat.le_of_ble_eq_true rfl) fun γ σ B => ?_
  refine B.run okX10_formatCompartment [] 60 ?_
  refine At.fI [vI x] [] B.1 B.2.1 (s_check K hK x) kX10_checkCompartment ln_X10_197 (B.fit (by decide) (by decide) (by decide)) (by decide) (by decide) (dcV okX10_formatCompartment rfl) (fun hf => ?_) (fun hf => PoC_x hf (kT K) (kC K) hK.2.1 rfl)
  have h8 := fChk_0 hf
  obtain ⟨j, hj, ej⟩ := hs_of (Nat.le_trans hK.1.1 (by decide)) h8
  have hj8 : j < 8 := Nat.lt_of_lt_of_le hj hK.1.1
  have hi : vp_in x 8 := by rw [ej]; exact vp_in_nI hj8 (by decide)
  have en : x.toNatClampNeg = j := by rw [ej]; exact nI_clamp (by omega)
  have hx : NB x := by rw [ej]; exact NB_nI (by omega)
  have hc := hN.1 j hj
  refine B.run okX10_formatCompartment [] 60 ?_
  refine At.wB (fe_L K (L0 (kL K))) [vI (nI 0)] [] B.1 (s_sSet (kL K).1 (kL K).2.1 (kL K).2.2) kJ4_setLength_d00df ln_X10_331 (B.fit (by decide) (by decide) (by decide)) (dcV okX10_formatCompartment rfl) ?_
  have hb : Bud (0 + 1 + 0) (0 + 6 + 0) 0 (L0 (kL K)) := ⟨Nat.le_refl _, hL, by have := gk_le (kL K).2.1; show 0 + 1 + 0 + gk (kL K).2.1 ≤ 8; omega, by have := gs_le (kL K).2.1; show 0 + 6 + 0 + gsl (kL K).2.1 ≤ 1900; omega⟩
  refine B.run okX10_formatCompartment [] 60 ?_
  refine At.apC B.1 B ln_X10_334 67 hb (dcV okX10_formatCompartment rfl) fun k1 n1 hb => ?_
  refine B.run okX10_formatCompartment [] 60 ?_
  refine At.apN B.1 B ln_X10_338 (x) (hx) hb (dcV okX10_formatCompartment rfl) fun k1 n1 hb => ?_
  refine At.ldcSW (v := vK (15 + 16)) B.1 ((sx B.1).2.1 _ (List.mem_of_getElem? (l := ldL) (i := 0) rfl)) rfl (dcW okX10_formatCompartment rfl) ?_
  refine At.apS B.1 B ln_X10_343 16 hb (dcV okX10_formatCompartment rfl) fun k1 n1 hb => ?_
  refine B.run okX10_formatCompartment [] 60 ?_
  refine ⟨hi, ?_⟩
  rw [en]
  refine At.apN B.1 B ln_X10_338 (gar (kS K) j) (hc.1) hb (dcV okX10_formatCompartment rfl) fun k1 n1 hb => ?_
  refine B.run okX10_formatCompartment [] 60 ?_
  refine At.apC B.1 B ln_X10_334 32 hb (dcV okX10_formatCompartment rfl) fun k1 n1 hb => ?_
  refine B.run okX10_formatCompartment [] 60 ?_
  refine ⟨hi, ?_⟩
  rw [en]
  refine At.apN B.1 B ln_X10_338 (gw (kS K) j) (hc.2.1) hb (dcV okX10_formatCompartment rfl) fun k1 n1 hb => ?_
  refine B.run okX10_formatCompartment [] 60 ?_
  refine At.apC B.1 B ln_X10_334 47 hb (dcV okX10_formatCompartment rfl) fun k1 n1 hb => ?_
  refine B.run okX10_formatCompartment [] 60 ?_
  refine ⟨hi, ?_⟩
  rw [en]
  refine At.apN B.1 B ln_X10_338 (gcp (kS K) j) (hc.2.2.1) hb (dcV okX10_formatCompartment rfl) fun k1 n1 hb => ?_
  refine B.run okX10_formatCompartment [] 60 ?_
  refine At.ldcSW (v := vK (15 + 17)) B.1 ((sx B.1).2.1 _ (List.mem_of_getElem? (l := ldL) (i := 1) rfl)) rfl (dcW okX10_formatCompartment rfl) ?_
  refine At.apS B.1 B ln_X10_343 17 hb (dcV okX10_formatCompartment rfl) fun k1 n1 hb => ?_
  refine B.run okX10_formatCompartment [] 60 ?_
  have hk := hb.k
  refine At.wV (fe_gS (stLn K (pX (pN (pC (pN (pC (pN (pX (pN (pC (L0 (kL K)) 67) x) 16) (gar (kS K) j)) 32) (gw (kS K) j)) 47) (gcp (kS K) j)) 17)) (kS K).2.1) [vI x] [vR 52 0] B.1 (s_weightIn (gp (kS K)) hK.1.2.1 _ _ _ _ x) kX1_weightIn ln_X10_348 (B.fit (by decide) (by omega) (by omega)) (dcV okX10_formatCompartment rfl) ?_
  refine At.apN B.1 B ln_X10_338 (cgI (gwt (kS K)) (gpl (kS K)) x (gp (kS K))) (by rw [ej]; exact hc.2.2.2.2) (show Bud (k1 + 0) (n1 + 0) _ _ from hb) (dcV okX10_formatCompartment rfl) fun k1 n1 hb => ?_
  refine B.run okX10_formatCompartment [(137, [0, 1, 2])] 60 ?_
  refine ⟨hi, ?_⟩
  rw [en]
  have fin : ∀ (k2 n2 : Nat) (L : SBB), Bud k2 n2 300 L → L = fcL (kS K) x j (kL K) → At γ σ k2 n2 137 [(0, vR 0 0), (1, vI x), (2, vR 2 0)] [] (world (stLn K L)) := by
    intro k2 n2 L hb e
    have hk := hb.k
    refine B.run okX10_formatCompartment [] 60 ?_
    refine At.wB (fe_L (stLn K L) L) [] [] B.1 (s_sbLen L.1 L.2.1 L.2.2) kJ4_length_8abf5 ln_X10_353 (B.fit (by decide) (by omega) (by omega)) (dcV okX10_formatCompartment rfl) ?_
    refine B.run okX10_formatCompartment [] 60 ?_
    subst e
    exact rCo hf (by rw [en]) (kT K) (kC K) hK.2.1 (by rw [en])
  constructor
  · intro h
    refine fin _ _ _ ⟨Nat.le_trans hb.1 (by decide), hb.2⟩ ?_
    unfold fcL
    rw [if_neg (Int32.not_lt.mpr h)]; rfl
  · intro h
    have h : 0 < gl (kS K) j := Int32.not_le.mp h
    refine B.run okX10_formatCompartment [(137, [0, 1, 2])] 60 ?_
    refine At.ldcSW (v := vK (15 + 18)) B.1 ((sx B.1).2.1 _ (List.mem_of_getElem? (l := ldL) (i := 2) rfl)) rfl (dcW okX10_formatCompartment rfl) ?_
    refine At.apS B.1 B ln_X10_343 18 hb (dcV okX10_formatCompartment rfl) fun k1 n1 hb => ?_
    refine B.run okX10_formatCompartment [] 60 ?_
    refine ⟨hi, ?_⟩
    rw [en]
    refine At.apN B.1 B ln_X10_338 (gl (kS K) j) (hc.2.2.2.1) hb (dcV okX10_formatCompartment rfl) fun k1 n1 hb => ?_
    refine B.run okX10_formatCompartment [(137, [0, 1, 2])] 60 ?_
    refine fin _ _ _ ⟨Nat.le_trans hb.1 (by decide), hb.2⟩ ?_
    unfold fcL
    rw [if_pos h]; rfl
