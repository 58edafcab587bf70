/-! ===== new, by a constructor that is not private; the class's object in part ===== -/
section MKI
variable {γ : CX} {own : String} {cc : ByteArray} {σ : Nat → Nat → Nat} {k n pc : Nat} {ls : List (Nat × AV)} {st : List AV} {h : AHp} {mc2 ms2 d2 : Nat} {M : MR}
theorem At.mkI (O : OK γ own cc) {ix iy ci N m : Nat} {C : String} {T : u_T} (blk : Nat → AHp) {fs : List AV} (S : Sp d2 mc2 ms2 M [vR 0 0] [[aO ci fs]] (PoV (blk 0))) (Kk : KI M 0) (w : Cond.methodLink own iy (mY M) ∈ GT)
    (hc : vwCl[ci]? = some (C, T, N)) (hl : Cond.classLink own ix C ∈ GT) (hi : Cond.instantiable C N ∈ GT) (hin : Cond.initialized C ∈ GT) (hfs : ∀ (σ : Nat → Nat → Nat), ∀ j, j < N → defaultValue (tyOf ci j) = vp_V (fs.map (tr σ (cκ γ))) j) (hnr : fs.all (bdV 0) = true)
    (hren : ∀ g, (blk 0).map (fun x => x.map (renC (List.range' g (m + 1)))) = blk g) (hlen : ∀ g, (blk g).length = m + 1) (hbk : bdH (m + 1) (blk 0) = true)
    (hk : k + 1 ≤ (cR γ).cells) (hn : n + N ≤ (cR γ).slots) (hf : Fit γ (k + 1) (n + N) d2 mc2 ms2) (d1 : decode cc pc = .ok (.new ix, 3)) (d2' : decode cc (pc + 3) = .ok (.dup, 1)) (d3 : decode cc (pc + 4) = .ok (.invokespecial iy, 3)) (hb : bdH h.length h = true) (hbl : ls.all (fun q => bdV h.length q.2) = true) (hbs : st.all (bdV h.length) = true) (hrw : wsum (vR h.length 0 :: st) ≤ 8)
    (g : ∀ σ2, grown σ σ2 h.length → At γ σ2 (k + 1 + mc2) (n + N + ms2) (pc + 7) ls (vR h.length 0 :: st) (h ++ blk h.length)) : At γ σ k n pc ls st h := by
  have hL : (h ++ [[aO ci fs]]).length = h.length + 1 := by rw [List.length_append]; rfl
  have hle : h.length ≤ (h ++ [[aO ci fs]]).length := by omega
  refine At.newO O hc hl hi hin (hfs σ) hnr hk hn d1 hb hbl hbs fun σ2 g2 => ?_
  refine At.dup O d2' rfl ?_
  have hbn : bdC 0 (aO ci fs) = true := hnr
  have hb1 : bdH (h ++ [[aO ci fs]]).length (h ++ [[aO ci fs]]) = true := bdH_app (bdH_mono hle hb) (by
    show ((bdC _ (aO ci fs) && true) && true) = true
    rw [bdC_mono (Nat.zero_le _) hbn]; rfl)
  have hv1 : bdV (h ++ [[aO ci fs]]).length (vR h.length 0) = true := Nat.ble_eq.mpr (by omega)
  have F : Fits [h.length] [h.length] [[aO ci fs]] (h ++ [[aO ci fs]]) := ⟨by
    rw [hnth_eq, List.getElem?_append_right (Nat.le_refl _), Nat.sub_self]
    show some [aO ci fs] = some [renC [h.length] (aO ci fs)]
    rw [renC_nr hnr], trivial⟩
  refine At.callI O m (P := [h.length]) (hC := [[aO ci fs]]) (r := 0) (o := 0) (As := []) (rest := vR h.length 0 :: st) S Kk w rfl F hb1 (by
    show ((bdC _ (aO ci fs) && true) && true) = true
    rw [bdC_mono (Nat.zero_le _) hbn]; rfl) (bdLs_mono hle hbl) (by
    show (bdV _ (vR h.length 0) && st.all (bdV _)) = true
    rw [hv1, bdVs_mono hle hbs]; rfl) rfl hf hrw d3 rfl (fun v h2 hp => ?_) (fun E h2 hp => by cases hp.1)
  obtain ⟨hv, rfl⟩ := hp
  cases hv
  refine ⟨by rw [hlen]; show m + 1 = 1 + m; omega, by rw [hlen]; exact hbk, rfl, fun σ3 g3 => ?_⟩
  have eP : [h.length] ++ newR (h ++ [[aO ci fs]]).length m = List.range' h.length (m + 1) := by rw [hL]; exact newR_one _ _
  rw [eP]
  have e := plug_blk (List.range' h.length (m + 1)) (blk 0) ([[aO ci fs]] ++ List.replicate m []) h [] (by rw [hlen, List.length_append, List.length_replicate]; show 1 + m = m + 1; omega)
  rw [hlen, hren, List.append_nil, List.append_nil, ← List.append_assoc] at e
  rw [e]
  exact g σ3 fun r hr o => (g3 r (by omega) o).trans (g2 r hr o)
end MKI
theorem fHis_r (g : Nat) : (fHis 0).map (fun x => x.map (renC (List.range' g 130))) = fHis g := rfl
