/-! ===== calls in the same world ===== -/
theorem rn_id {N r : Nat} (h : r < N) : rn (List.range N) r = r := by
  unfold rn
  rw [hnth_eq, List.getElem?_range h]; rfl
theorem ren_id {N : Nat} {v : AV} (h : bdV N v = true) : ren (List.range N) v = v := by
  rcases v with v | ⟨r, o⟩ | k
  · rfl
  · show Sum.inr (Sum.inl (rn (List.range N) r, o)) = _
    rw [rn_id (Nat.le_of_ble_eq_true h)]
  · rfl
theorem ren_idL {N : Nat} {l : List AV} (h : l.all (bdV N) = true) : l.map (ren (List.range N)) = l := by
  have : ∀ v ∈ l, ren (List.range N) v = id v := fun v hv => ren_id (List.all_eq_true.mp h v hv)
  rw [List.map_congr_left this, List.map_id]
theorem renC_id {N : Nat} {c : ACell} (h : bdC N c = true) : renC (List.range N) c = c := by
  rcases c with ⟨ty, n, x⟩ | ⟨ci, fs⟩ | ⟨n, m, t⟩
  · rcases x with f | f | f | f
    · rfl
    · rfl
    · rfl
    · show Sum.inl (ty, n, Sum.inr (Sum.inr (Sum.inr (f.map (ren (List.range N)))))) = _
      rw [ren_idL h]
  · show Sum.inr (Sum.inl (ci, fs.map (ren (List.range N)))) = _
    rw [ren_idL h]
  · rfl
theorem renG_id {N : Nat} {g : List ACell} (h : g.all (bdC N) = true) : g.map (renC (List.range N)) = g := by
  have : ∀ v ∈ g, renC (List.range N) v = id v := fun v hv => renC_id (List.all_eq_true.mp h v hv)
  rw [List.map_congr_left this, List.map_id]
theorem Fits_id2 (N : Nat) : ∀ (b a : AHp), b.all (fun g => g.all (bdC N)) = true → Fits (List.range N) (List.range' a.length b.length) b (a ++ b)
  | [], _, _ => trivial
  | g :: b, a, h => by
    simp only [List.all_cons, Bool.and_eq_true] at h
    refine ⟨?_, ?_⟩
    · rw [hnth_eq, renG_id h.1, List.getElem?_append_right (Nat.le_refl _), Nat.sub_self]; rfl
    · have h2 := Fits_id2 N b (a ++ [g]) h.2
      rw [List.length_append, List.append_assoc] at h2
      exact h2
theorem Fits_id {h : AHp} (hb : bdH h.length h = true) : Fits (List.range h.length) (List.range h.length) h h := by
  have h2 := Fits_id2 h.length h [] hb
  rw [List.range_eq_range']
  rw [List.range_eq_range'] at h2
  exact h2
theorem plug_id2 (N : Nat) : ∀ (b c a : AHp), b.all (fun g => g.all (bdC N)) = true → c.length = b.length → plug (List.range N) (List.range' a.length b.length) b (a ++ c) = a ++ b
  | [], c, a, _, hl => by
    cases c with
    | nil => rfl
    | cons x c => cases hl
  | g :: b, c, a, h, hl => by
    cases c with
    | nil => cases hl
    | cons x c =>
      simp only [List.all_cons, Bool.and_eq_true] at h
      have h2 := plug_id2 N b c (a ++ [g]) h.2 (Nat.succ.inj hl)
      rw [List.length_append, List.append_assoc, List.append_assoc] at h2
      show plug (List.range N) (List.range' (a.length + 1) b.length) b (hput (a ++ x :: c) a.length (g.map (renC (List.range N)))) = _
      rw [renG_id h.1, hput_eq, List.set_append_right _ _ (Nat.le_refl _), Nat.sub_self]
      exact h2
theorem plug_id {h h2 : AHp} (hb : bdH h.length h2 = true) (hl : h2.length = h.length) : plug (List.range h.length) (List.range h.length) h2 h = h2 := by
  have e := plug_id2 h.length h2 h [] hb hl.symm
  rw [hl] at e
  have e2 : List.range h.length = List.range' 0 h.length := List.range_eq_range'
  rw [e2]
  rw [e2] at e
  exact e
theorem range_nd (N : Nat) : va_nd (List.range N) = true := va_nd_of List.nodup_range
section ATI
variable {γ : CX} {own : String} {cc : ByteArray} {σ : Nat → Nat → Nat} {k n pc N0 mc ms f : Nat} {ls : List (Nat × AV)} {st : List AV} {h h2 : AHp} {mc2 ms2 d2 ix na r o : Nat} {M : MR} {v : Option AV} {Po : Out → AHp → Prop} {ret : Option FieldType}
/-- a call of one's own object's method, over the whole world -/
theorem At.fI (As rest : List AV) (O : OK γ own cc) (Fi : Fin γ σ N0 mc ms ret Po) {ci : Nat} {fs : List AV} {T : u_T} {N : Nat} (S : Sp d2 mc2 ms2 M (vR r o :: As) h (PoF f v h2)) (K : KV M na) (w : Cond.methodLink own ix (mY M) ∈ GT) (hf : Fit γ k n d2 mc2 ms2) (hk : k + mc2 ≤ mc) (hs : n + ms2 ≤ ms) (d : decode cc pc = .ok (.invokevirtual ix, 3))
    (g : f = 0 → At γ σ (k + mc2) (n + ms2) (pc + 3) ls (v.toList ++ rest) h2) (gx : ¬ f = 0 → Po (.inr (exF f)) h2) (hb : bdH h.length h = true := by rfl) (hb2 : bdH h.length h2 = true := by rfl) (hl : h2.length = h.length := by rfl) (ha : (vR r o :: As).all (bdV h.length) = true := by rfl) (hv : v.toList.all (bdV h.length) = true := by rfl) (hg : hget h r o = some (aO ci fs) := by rfl) (hc : vwCl[ci]? = some ((mY M).cls, T, N) := by rfl) (hna : As.length = na := by rfl) (hrw : wsum rest ≤ 8 := by exact Nat.le_of_ble_eq_true rfl) (hst : st = As.reverse ++ vR r o :: rest := by rfl) : At γ σ k n pc ls st h := by
  have e1 : plug (List.range h.length) (List.range h.length) h2 h = h2 := plug_id hb2 hl
  have ha2 : bdV h.length (vR r o) = true ∧ As.all (bdV h.length) = true := by
    simp only [List.all_cons, Bool.and_eq_true] at ha
    exact ha
  have ea : As.map (ren (List.range h.length)) = As := ren_idL ha2.2
  have er : vR (rn (List.range h.length) r) o = vR r o := ren_id ha2.1
  refine At.fV (List.range h.length) As rest O Fi S K w (Fits_id hb) hf hk hs d (fun hf => ?_) (fun hf => ?_) (range_nd _) hg hc hna hrw (by rw [ea, er]; exact hst) hl
  · rw [ren_idL hv, e1]; exact g hf
  · rw [e1]; exact gx hf
end ATI
/-! ===== the world of BallastControl ===== -/
abbrev SBB : Type := Nat × Nat × (Nat → Nat)
abbrev PS : Type := Int32 × Int32 × Int32 × (Nat → Nat) × (Nat → FI)
abbrev FS : Type := Int32 × Int32 × Int32 × Int32 × Int32
abbrev KS' : Type := (SH × SH × SH × SH) × (Nat × Nat × (Nat → SH)) × CS × SBB × SBB × PS × FS
abbrev kS (K : KS') : SH := K.1.1
abbrev kT (K : KS') : SH := K.1.2.1
abbrev kB (K : KS') : SH := K.1.2.2.1
abbrev kV (K : KS') : SH := K.1.2.2.2
abbrev kH (K : KS') : Nat × Nat × (Nat → SH) := K.2.1
abbrev kC (K : KS') : CS := K.2.2.1
abbrev kL (K : KS') : SBB := K.2.2.2.1
abbrev kI (K : KS') : SBB := K.2.2.2.2.1
abbrev kP (K : KS') : PS := K.2.2.2.2.2.1
abbrev kF (K : KS') : FS := K.2.2.2.2.2.2
abbrev q4 (g : Nat) (S : SH) (r : AHp) : AHp := qS g S :: qH g S :: qC g S :: qW g S :: r
abbrev h8 (g : Nat) (H : Nat → SH) (r : AHp) : AHp := q4 g (H 0) (q4 (g + 4) (H 1) (q4 (g + 8) (H 2) (q4 (g + 12) (H 3) (q4 (g + 16) (H 4) (q4 (g + 20) (H 5) (q4 (g + 24) (H 6) (q4 (g + 28) (H 7) r)))))))
abbrev aA (ty : FieldType) (n : Nat) (l : List AV) : ACell := .inl (ty, n, .inr (.inr (.inr l)))
abbrev aShips (g : Nat) : ACell := aA (.object RX8) 8 [vR g 0, vR (g + 4) 0, vR (g + 8) 0, vR (g + 12) 0, vR (g + 16) 0, vR (g + 20) 0, vR (g + 24) 0, vR (g + 28) 0]
abbrev rHi (g nx ct : Nat) : ACell := aO 6 [vR g 0, vI (nI nx), vI (nI ct)]
abbrev aKws (q : Nat → Nat) : ACell := aA (.object RX6) 8 [vK (5 + q 0), vK (5 + q 1), vK (5 + q 2), vK (5 + q 3), vK (5 + q 4), vK (5 + q 5), vK (5 + q 6), vK (5 + q 7)]
abbrev aArg (g : Nat) : ACell := aA (.array .int) 8 [vR g 0, vR (g + 1) 0, vR (g + 2) 0, vR (g + 3) 0, vR (g + 4) 0, vR (g + 5) 0, vR (g + 6) 0, vR (g + 7) 0]
abbrev wP (t g : Nat) (p : PS) : AHp := [[aO 8 [vR t 0, vR (g + 1) 0, vR (g + 2) 0, vI p.1, vI p.2.1, vI p.2.2.1]], [aKws p.2.2.2.1], [aArg (g + 3)], [aI 3 (p.2.2.2.2 0)], [aI 3 (p.2.2.2.2 1)], [aI 3 (p.2.2.2.2 2)], [aI 3 (p.2.2.2.2 3)], [aI 3 (p.2.2.2.2 4)], [aI 3 (p.2.2.2.2 5)], [aI 3 (p.2.2.2.2 6)], [aI 3 (p.2.2.2.2 7)]]
/-- the program's object, its text, its rows -/
abbrev wQ (g : Nat) (I : SBB) (p : PS) : AHp := [aO 8 [vR (g + 1) 0, vR (g + 2) 0, vR (g + 3) 0, vI p.1, vI p.2.1, vI p.2.2.1]] :: [aB I.1 I.2.1 I.2.2] :: [[aKws p.2.2.2.1], [aArg (g + 4)], [aI 3 (p.2.2.2.2 0)], [aI 3 (p.2.2.2.2 1)], [aI 3 (p.2.2.2.2 2)], [aI 3 (p.2.2.2.2 3)], [aI 3 (p.2.2.2.2 4)], [aI 3 (p.2.2.2.2 5)], [aI 3 (p.2.2.2.2 6)], [aI 3 (p.2.2.2.2 7)]]
abbrev wM (F : FS) : ACell := aO 11 [vR 1 0, vR 5 0, vR 9 0, vR 13 0, vI F.1, vR 17 0, vR 51 0, vR 52 0, vR 53 0, vI F.2.1, vI F.2.2.1, vI F.2.2.2.1, vI F.2.2.2.2]
def world (K : KS') : AHp := [wM (kF K)] :: q4 1 (kS K) (q4 5 (kT K) (q4 9 (kB K) (q4 13 (kV K) ([rHi 18 (kH K).1 (kH K).2.1] :: [aShips 19] :: h8 19 (kH K).2.2 (rX (kC K) :: [aB (kL K).1 (kL K).2.1 (kL K).2.2] :: wQ 53 (kI K) (kP K))))))
theorem world_len (K : KS') : (world K).length = 65 := rfl
theorem world_bd (K : KS') : bdH 65 (world K) = true := rfl
/-- a ship's bounds, with its flag -/
def WK (K : KS') : Prop := WF (kS K) ∧ WF (kT K) ∧ WF (kB K) ∧ WF (kV K) ∧ (kH K).1 < 8 ∧ (kH K).2.1 ≤ 8 ∧ ∀ i, WF ((kH K).2.2 i)
/-! ===== History ===== -/
theorem min8 {c : Nat} (h : c ≤ 8) : (if (8 : Int32) < nI c + 1 then 8 else nI c + 1) = nI (if c < 8 then c + 1 else 8) := by
  rcases Nat.lt_or_ge c 8 with q | q
  · rw [if_pos q, nI_1, show (8 : Int32) = nI 8 from rfl, if_neg (nI_nlt (by omega) (by decide))]
  · have : c = 8 := by omega
    subst this; rfl
def hisW (H : Nat × Nat × (Nat → SH)) (S : SH) : AHp := [rHi 1 H.1 H.2.1] :: [aShips 2] :: h8 2 H.2.2 (q4 34 S [])
def updS (f : Nat → SH) (i : Nat) (x : SH) : Nat → SH := fun j => if j = i then x else f j
def keepH (H : Nat × Nat × (Nat → SH)) (S : SH) : Nat × Nat × (Nat → SH) := ((H.1 + 1) % 8, (if H.2.1 < 8 then H.2.1 + 1 else 8), updS H.2.2 H.1 (cpS (H.2.2 H.1) S))
theorem s_keep (H : Nat × Nat × (Nat → SH)) (S : SH) (h1 : H.1 < 8) (h2 : H.2.1 ≤ 8) (hk : gsk S = 0 ∨ gsk S = 1) : Sp 3 0 0 mX4_keep [vR 0 0, vR 34 0] (hisW H S) (PoV (hisW (keepH H S) S)) := by
  refine Sp.of' false (fun h => by cases h) (by decide) rfl rfl (Nat.le_of_ble_eq_true rfl) fun γ σ B => ?_
  have F : Fit γ 0 0 0 0 0 := fiW B (by decide) (Nat.zero_le _) (Nat.zero_le _)
  have F2 : Fit γ 0 0 2 0 0 := fiW B (by decide) (Nat.zero_le _) (Nat.zero_le _)
  obtain ⟨nx, ct, hs⟩ := H
  refine B.run okX4_keep [] 60 ?_
  refine ⟨vp_in_nI h1 (by decide), ?_⟩
  have e2 := min8 h2
  have cases8 : nx = 0 ∨ nx = 1 ∨ nx = 2 ∨ nx = 3 ∨ nx = 4 ∨ nx = 5 ∨ nx = 6 ∨ nx = 7 := by
    have : nx < 8 := h1
    omega
  rcases cases8 with rfl | rfl | rfl | rfl | rfl | rfl | rfl | rfl
  · refine At.cVV [2, 3, 4, 5, 34, 35, 36, 37] [vR 4 0] [] B.1 (s_scopy (hs 0) S hk) kX8_copyFrom ln_X4_22 ⟨rfl, rfl, rfl, rfl, rfl, rfl, rfl, rfl, trivial⟩ F2 (dcV okX4_keep rfl) ?_
    show At γ σ 0 0 13 [(0, vR 0 0), (1, vR 34 0)] [] (hisW (0, ct, updS hs 0 (cpS (hs 0) S)) S)
    refine B.run okX4_keep [] 60 ?_
    refine ⟨by decide, trivial, ?_⟩
    refine At.mmin B.1 kmin ln_X4_29 F (Nat.le_of_ble_eq_true rfl) (dcS okX4_keep rfl) ?_
    refine B.run okX4_keep [] 60 ?_
    refine ⟨trivial, rV ?_⟩
    show ([aO 6 [vR 1 0, vI (nI 0 + 1 - (nI 0 + 1) / 8 * 8), vI (if (8 : Int32) < nI ct + 1 then 8 else nI ct + 1)]] :: [aShips 2] :: h8 2 (updS hs 0 (cpS (hs 0) S)) (q4 34 S []) : AHp) = _
    rw [e2, show nI 0 + 1 - (nI 0 + 1) / 8 * 8 = nI 1 by decide +kernel]; rfl
  · refine At.cVV [6, 7, 8, 9, 34, 35, 36, 37] [vR 4 0] [] B.1 (s_scopy (hs 1) S hk) kX8_copyFrom ln_X4_22 ⟨rfl, rfl, rfl, rfl, rfl, rfl, rfl, rfl, trivial⟩ F2 (dcV okX4_keep rfl) ?_
    show At γ σ 0 0 13 [(0, vR 0 0), (1, vR 34 0)] [] (hisW (1, ct, updS hs 1 (cpS (hs 1) S)) S)
    refine B.run okX4_keep [] 60 ?_
    refine ⟨by decide, trivial, ?_⟩
    refine At.mmin B.1 kmin ln_X4_29 F (Nat.le_of_ble_eq_true rfl) (dcS okX4_keep rfl) ?_
    refine B.run okX4_keep [] 60 ?_
    refine ⟨trivial, rV ?_⟩
    show ([aO 6 [vR 1 0, vI (nI 1 + 1 - (nI 1 + 1) / 8 * 8), vI (if (8 : Int32) < nI ct + 1 then 8 else nI ct + 1)]] :: [aShips 2] :: h8 2 (updS hs 1 (cpS (hs 1) S)) (q4 34 S []) : AHp) = _
    rw [e2, show nI 1 + 1 - (nI 1 + 1) / 8 * 8 = nI 2 by decide +kernel]; rfl
  · refine At.cVV [10, 11, 12, 13, 34, 35, 36, 37] [vR 4 0] [] B.1 (s_scopy (hs 2) S hk) kX8_copyFrom ln_X4_22 ⟨rfl, rfl, rfl, rfl, rfl, rfl, rfl, rfl, trivial⟩ F2 (dcV okX4_keep rfl) ?_
    show At γ σ 0 0 13 [(0, vR 0 0), (1, vR 34 0)] [] (hisW (2, ct, updS hs 2 (cpS (hs 2) S)) S)
    refine B.run okX4_keep [] 60 ?_
    refine ⟨by decide, trivial, ?_⟩
    refine At.mmin B.1 kmin ln_X4_29 F (Nat.le_of_ble_eq_true rfl) (dcS okX4_keep rfl) ?_
    refine B.run okX4_keep [] 60 ?_
    refine ⟨trivial, rV ?_⟩
    show ([aO 6 [vR 1 0, vI (nI 2 + 1 - (nI 2 + 1) / 8 * 8), vI (if (8 : Int32) < nI ct + 1 then 8 else nI ct + 1)]] :: [aShips 2] :: h8 2 (updS hs 2 (cpS (hs 2) S)) (q4 34 S []) : AHp) = _
    rw [e2, show nI 2 + 1 - (nI 2 + 1) / 8 * 8 = nI 3 by decide +kernel]; rfl
  · refine At.cVV [14, 15, 16, 17, 34, 35, 36, 37] [vR 4 0] [] B.1 (s_scopy (hs 3) S hk) kX8_copyFrom ln_X4_22 ⟨rfl, rfl, rfl, rfl, rfl, rfl, rfl, rfl, trivial⟩ F2 (dcV okX4_keep rfl) ?_
    show At γ σ 0 0 13 [(0, vR 0 0), (1, vR 34 0)] [] (hisW (3, ct, updS hs 3 (cpS (hs 3) S)) S)
    refine B.run okX4_keep [] 60 ?_
    refine ⟨by decide, trivial, ?_⟩
    refine At.mmin B.1 kmin ln_X4_29 F (Nat.le_of_ble_eq_true rfl) (dcS okX4_keep rfl) ?_
    refine B.run okX4_keep [] 60 ?_
    refine ⟨trivial, rV ?_⟩
    show ([aO 6 [vR 1 0, vI (nI 3 + 1 - (nI 3 + 1) / 8 * 8), vI (if (8 : Int32) < nI ct + 1 then 8 else nI ct + 1)]] :: [aShips 2] :: h8 2 (updS hs 3 (cpS (hs 3) S)) (q4 34 S []) : AHp) = _
    rw [e2, show nI 3 + 1 - (nI 3 + 1) / 8 * 8 = nI 4 by decide +kernel]; rfl
  · refine At.cVV [18, 19, 20, 21, 34, 35, 36, 37] [vR 4 0] [] B.1 (s_scopy (hs 4) S hk) kX8_copyFrom ln_X4_22 ⟨rfl, rfl, rfl, rfl, rfl, rfl, rfl, rfl, trivial⟩ F2 (dcV okX4_keep rfl) ?_
    show At γ σ 0 0 13 [(0, vR 0 0), (1, vR 34 0)] [] (hisW (4, ct, updS hs 4 (cpS (hs 4) S)) S)
    refine B.run okX4_keep [] 60 ?_
    refine ⟨by decide, trivial, ?_⟩
    refine At.mmin B.1 kmin ln_X4_29 F (Nat.le_of_ble_eq_true rfl) (dcS okX4_keep rfl) ?_
    refine B.run okX4_keep [] 60 ?_
    refine ⟨trivial, rV ?_⟩
    show ([aO 6 [vR 1 0, vI (nI 4 + 1 - (nI 4 + 1) / 8 * 8), vI (if (8 : Int32) < nI ct + 1 then 8 else nI ct + 1)]] :: [aShips 2] :: h8 2 (updS hs 4 (cpS (hs 4) S)) (q4 34 S []) : AHp) = _
    rw [e2, show nI 4 + 1 - (nI 4 + 1) / 8 * 8 = nI 5 by decide +kernel]; rfl
  · refine At.cVV [22, 23, 24, 25, 34, 35, 36, 37] [vR 4 0] [] B.1 (s_scopy (hs 5) S hk) kX8_copyFrom ln_X4_22 ⟨rfl, rfl, rfl, rfl, rfl, rfl, rfl, rfl, trivial⟩ F2 (dcV okX4_keep rfl) ?_
    show At γ σ 0 0 13 [(0, vR 0 0), (1, vR 34 0)] [] (hisW (5, ct, updS hs 5 (cpS (hs 5) S)) S)
    refine B.run okX4_keep [] 60 ?_
    refine ⟨by decide, trivial, ?_⟩
    refine At.mmin B.1 kmin ln_X4_29 F (Nat.le_of_ble_eq_true rfl) (dcS okX4_keep rfl) ?_
    refine B.run okX4_keep [] 60 ?_
    refine ⟨trivial, rV ?_⟩
    show ([aO 6 [vR 1 0, vI (nI 5 + 1 - (nI 5 + 1) / 8 * 8), vI (if (8 : Int32) < nI ct + 1 then 8 else nI ct + 1)]] :: [aShips 2] :: h8 2 (updS hs 5 (cpS (hs 5) S)) (q4 34 S []) : AHp) = _
    rw [e2, show nI 5 + 1 - (nI 5 + 1) / 8 * 8 = nI 6 by decide +kernel]; rfl
  · refine At.cVV [26, 27, 28, 29, 34, 35, 36, 37] [vR 4 0] [] B.1 (s_scopy (hs 6) S hk) kX8_copyFrom ln_X4_22 ⟨rfl, rfl, rfl, rfl, rfl, rfl, rfl, rfl, trivial⟩ F2 (dcV okX4_keep rfl) ?_
    show At γ σ 0 0 13 [(0, vR 0 0), (1, vR 34 0)] [] (hisW (6, ct, updS hs 6 (cpS (hs 6) S)) S)
    refine B.run okX4_keep [] 60 ?_
    refine ⟨by decide, trivial, ?_⟩
    refine At.mmin B.1 kmin ln_X4_29 F (Nat.le_of_ble_eq_true rfl) (dcS okX4_keep rfl) ?_
    refine B.run okX4_keep [] 60 ?_
    refine ⟨trivial, rV ?_⟩
    show ([aO 6 [vR 1 0, vI (nI 6 + 1 - (nI 6 + 1) / 8 * 8), vI (if (8 : Int32) < nI ct + 1 then 8 else nI ct + 1)]] :: [aShips 2] :: h8 2 (updS hs 6 (cpS (hs 6) S)) (q4 34 S []) : AHp) = _
    rw [e2, show nI 6 + 1 - (nI 6 + 1) / 8 * 8 = nI 7 by decide +kernel]; rfl
  · refine At.cVV [30, 31, 32, 33, 34, 35, 36, 37] [vR 4 0] [] B.1 (s_scopy (hs 7) S hk) kX8_copyFrom ln_X4_22 ⟨rfl, rfl, rfl, rfl, rfl, rfl, rfl, rfl, trivial⟩ F2 (dcV okX4_keep rfl) ?_
    show At γ σ 0 0 13 [(0, vR 0 0), (1, vR 34 0)] [] (hisW (7, ct, updS hs 7 (cpS (hs 7) S)) S)
    refine B.run okX4_keep [] 60 ?_
    refine ⟨by decide, trivial, ?_⟩
    refine At.mmin B.1 kmin ln_X4_29 F (Nat.le_of_ble_eq_true rfl) (dcS okX4_keep rfl) ?_
    refine B.run okX4_keep [] 60 ?_
    refine ⟨trivial, rV ?_⟩
    show ([aO 6 [vR 1 0, vI (nI 7 + 1 - (nI 7 + 1) / 8 * 8), vI (if (8 : Int32) < nI ct + 1 then 8 else nI ct + 1)]] :: [aShips 2] :: h8 2 (updS hs 7 (cpS (hs 7) S)) (q4 34 S []) : AHp) = _
    rw [e2, show nI 7 + 1 - (nI 7 + 1) / 8 * 8 = nI 0 by decide +kernel]
    show _ = hisW ((7 + 1) % 8, (if ct < 8 then ct + 1 else 8), updS hs 7 (cpS (hs 7) S)) S
    rfl
