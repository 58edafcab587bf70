/-! ===== new: an object and what its constructor makes, at the heap's end ===== -/
theorem newR_one (N m : Nat) : [N] ++ newR (N + 1) m = List.range' N (m + 1) := by
  unfold newR
  rw [List.range'_succ, List.range'_eq_map_range]
  rfl
theorem renC_nr {N : Nat} {fs : List AV} {ci : Nat} (h : fs.all (bdV 0) = true) : renC [N] (aO ci fs) = aO ci fs := by
  show Sum.inr (Sum.inl (ci, fs.map (ren [N]))) = _
  have : ∀ v ∈ fs, ren [N] v = id v := fun v hv => by
    have hb := List.all_eq_true.mp h v hv
    rcases v with v | ⟨r, o⟩ | k
    · rfl
    · exact absurd (Nat.le_of_ble_eq_true hb) (Nat.not_lt_zero _)
    · rfl
  rw [List.map_congr_left this, List.map_id]
theorem bdV_mono {N M : Nat} (hNM : N ≤ M) {v : AV} (h : bdV N v = true) : bdV M v = true := by
  rcases v with v | ⟨r, o⟩ | k
  · rfl
  · exact Nat.ble_eq.mpr (Nat.lt_of_lt_of_le (Nat.le_of_ble_eq_true h) hNM)
  · rfl
theorem bdC_mono {N M : Nat} (hNM : N ≤ M) {c : ACell} (h : bdC N c = true) : bdC M c = true := by
  rcases c with ⟨ty, n, x⟩ | ⟨ci, fs⟩ | ⟨n, m, t⟩
  · rcases x with f | f | f | f
    · rfl
    · rfl
    · rfl
    · exact List.all_eq_true.mpr fun v hv => bdV_mono hNM (List.all_eq_true.mp h v hv)
  · exact List.all_eq_true.mpr fun v hv => bdV_mono hNM (List.all_eq_true.mp h v hv)
  · rfl
theorem bdH_mono {N M : Nat} (hNM : N ≤ M) {h : AHp} (hb : bdH N h = true) : bdH M h = true :=
  List.all_eq_true.mpr fun g hg => List.all_eq_true.mpr fun c hc => bdC_mono hNM (List.all_eq_true.mp (List.all_eq_true.mp hb g hg) c hc)
theorem bdH_app {N : Nat} {a b : AHp} (ha : bdH N a = true) (hb : bdH N b = true) : bdH N (a ++ b) = true := by
  unfold bdH at *
  rw [List.all_append, ha, hb]; rfl
theorem bdVs_mono {N M : Nat} (hNM : N ≤ M) {l : List AV} (h : l.all (bdV N) = true) : l.all (bdV M) = true := List.all_eq_true.mpr fun v hv => bdV_mono hNM (List.all_eq_true.mp h v hv)
theorem bdLs_mono {N M : Nat} (hNM : N ≤ M) {l : List (Nat × AV)} (h : l.all (fun q => bdV N q.2) = true) : l.all (fun q => bdV M q.2) = true := List.all_eq_true.mpr fun v hv => bdV_mono hNM (List.all_eq_true.mp h v hv)
section MK
variable {γ : CX} {own : String} {cc : ByteArray} {σ : Nat → Nat → Nat} {k n pc : Nat} {ls : List (Nat × AV)} {st : List AV} {h : AHp} {mc2 ms2 d2 : Nat} {M : MR}
/-- new C(), by a private constructor of a nest mate -/
theorem At.mkN (O : OK γ own cc) {ix iy ci N m : Nat} {C : String} {T : u_T} (blk : Nat → AHp) {fs : List AV} (S : Sp d2 mc2 ms2 M [vR 0 0] [[aO ci fs]] (PoV (blk 0))) (Kk : KI M 0) (w : (own, iy, mY M) ∈ NWm)
    (hc : vwCl[ci]? = some (C, T, N)) (hl : Cond.classLink own ix C ∈ GT) (hi : Cond.instantiable C N ∈ GT) (hin : Cond.initialized C ∈ GT) (hfs : ∀ (σ : Nat → Nat → Nat), ∀ j, j < N → defaultValue (tyOf ci j) = vp_V (fs.map (tr σ (cκ γ))) j) (hnr : fs.all (bdV 0) = true)
    (hren : ∀ g, (blk 0).map (fun x => x.map (renC (List.range' g (m + 1)))) = blk g) (hlen : ∀ g, (blk g).length = m + 1) (hbk : bdH (m + 1) (blk 0) = true)
    (hk : k + 1 ≤ (cR γ).cells) (hn : n + N ≤ (cR γ).slots) (hf : Fit γ (k + 1) (n + N) d2 mc2 ms2) (d1 : decode cc pc = .ok (.new ix, 3)) (d2' : decode cc (pc + 3) = .ok (.dup, 1)) (d3 : decode cc (pc + 4) = .ok (.invokespecial iy, 3)) (hb : bdH h.length h = true) (hbl : ls.all (fun q => bdV h.length q.2) = true) (hbs : st.all (bdV h.length) = true) (hrw : wsum (vR h.length 0 :: st) ≤ 8)
    (g : ∀ σ2, grown σ σ2 h.length → At γ σ2 (k + 1 + mc2) (n + N + ms2) (pc + 7) ls (vR h.length 0 :: st) (h ++ blk h.length)) : At γ σ k n pc ls st h := by
  have hL : (h ++ [[aO ci fs]]).length = h.length + 1 := by rw [List.length_append]; rfl
  have hle : h.length ≤ (h ++ [[aO ci fs]]).length := by omega
  refine At.newO O hc hl hi hin (hfs σ) hnr hk hn d1 hb hbl hbs fun σ2 g2 => ?_
  refine At.dup O d2' rfl ?_
  have hbn : bdC 0 (aO ci fs) = true := hnr
  have hb1 : bdH (h ++ [[aO ci fs]]).length (h ++ [[aO ci fs]]) = true := bdH_app (bdH_mono hle hb) (by
    show ((bdC _ (aO ci fs) && true) && true) = true
    rw [bdC_mono (Nat.zero_le _) hbn]; rfl)
  have hv1 : bdV (h ++ [[aO ci fs]]).length (vR h.length 0) = true := Nat.ble_eq.mpr (by omega)
  have F : Fits [h.length] [h.length] [[aO ci fs]] (h ++ [[aO ci fs]]) := ⟨by
    rw [hnth_eq, List.getElem?_append_right (Nat.le_refl _), Nat.sub_self]
    show some [aO ci fs] = some [renC [h.length] (aO ci fs)]
    rw [renC_nr hnr], trivial⟩
  refine At.callIN O m (P := [h.length]) (hC := [[aO ci fs]]) (r := 0) (o := 0) (As := []) (rest := vR h.length 0 :: st) S Kk w rfl F hb1 (by
    show ((bdC _ (aO ci fs) && true) && true) = true
    rw [bdC_mono (Nat.zero_le _) hbn]; rfl) (bdLs_mono hle hbl) (by
    show (bdV _ (vR h.length 0) && st.all (bdV _)) = true
    rw [hv1, bdVs_mono hle hbs]; rfl) rfl hf hrw d3 rfl (fun v h2 hp => ?_) (fun E h2 hp => by cases hp.1)
  obtain ⟨hv, rfl⟩ := hp
  cases hv
  refine ⟨by rw [hlen]; show m + 1 = 1 + m; omega, by rw [hlen]; exact hbk, rfl, fun σ3 g3 => ?_⟩
  have eP : [h.length] ++ newR (h ++ [[aO ci fs]]).length m = List.range' h.length (m + 1) := by rw [hL]; exact newR_one _ _
  rw [eP]
  have e := plug_blk (List.range' h.length (m + 1)) (blk 0) ([[aO ci fs]] ++ List.replicate m []) h [] (by rw [hlen, List.length_append, List.length_replicate]; show 1 + m = m + 1; omega)
  rw [hlen, hren, List.append_nil, List.append_nil, ← List.append_assoc] at e
  rw [e]
  exact g σ3 fun r hr o => (g3 r (by omega) o).trans (g2 r hr o)
end MK
def fHold (g : Nat) : AHp := [aO 7 [vI 0, vR (g + 1) 0, vR (g + 2) 0, vR (g + 3) 0, vR (g + 4) 0, vR (g + 5) 0, vR (g + 6) 0]] :: [aI 8 (fun _ => 0)] :: [aI 8 (fun _ => 0)] :: [aI 8 (fun _ => 0)] :: [aI 8 (fun _ => 0)] :: [aI 8 (fun _ => 0)] :: [.inl (.boolean, 8, .inl (fun _ => 0))] :: []
def fCargo (g : Nat) : AHp := [aO 4 [vI 0, vI 0, vR (g + 1) 0, vR (g + 2) 0, vR (g + 3) 0]] :: [aI 16 (fun _ => 0)] :: [aI 16 (fun _ => 0)] :: [aI 16 (fun _ => 0)] :: []
def fStorms (g : Nat) : AHp := [aO 10 [vI 0, vR (g + 1) 0, vR (g + 2) 0, vI 0, vR (g + 3) 0]] :: [aI 6 (fun _ => 0)] :: [aI 6 (fun _ => 0)] :: [aI 6 (fun _ => 0)] :: []
theorem fHold_r (g : Nat) : (fHold 0).map (fun x => x.map (renC (List.range' g 7))) = fHold g := rfl
theorem fCargo_r (g : Nat) : (fCargo 0).map (fun x => x.map (renC (List.range' g 4))) = fCargo g := rfl
theorem fStorms_r (g : Nat) : (fStorms 0).map (fun x => x.map (renC (List.range' g 4))) = fStorms g := rfl
