/-! ===== new, by a constructor that is not private; the class's object in part ===== -/
section MKI
variable {γ : CX} {own : String} {cc : ByteArray} {σ : Nat → Nat → Nat} {k n pc : Nat} {ls : List (Nat × AV)} {st : List AV} {h : AHp} {mc2 ms2 d2 : Nat} {M : MR}
theorem At.mkI (O : OK γ own cc) {ix iy ci N m : Nat} {C : String} {T : u_T} (blk : Nat → AHp) {fs : List AV} (S : Sp d2 mc2 ms2 M [vR 0 0] [[aO ci fs]] (PoV (blk 0))) (Kk : KI M 0) (w : Cond.methodLink own iy (mY M) ∈ GT)
    (hc : vwCl[ci]? = some (C, T, N)) (hl : Cond.classLink own ix C ∈ GT) (hi : Cond.instantiable C N ∈ GT) (hin : Cond.initialized C ∈ GT) (hfs : ∀ (σ : Nat → Nat → Nat), ∀ j, j < N → defaultValue (tyOf ci j) = vp_V (fs.map (tr σ (cκ γ))) j) (hnr : fs.all (bdV 0) = true)
    (hren : ∀ g, (blk 0).map (fun x => x.map (renC (List.range' g (m + 1)))) = blk g) (hlen : ∀ g, (blk g).length = m + 1) (hbk : bdH (m + 1) (blk 0) = true)
    (hk : k + 1 ≤ (cR γ).cells) (hn : n + N ≤ (cR γ).slots) (hf : Fit γ (k + 1) (n + N) d2 mc2 ms2) (d1 : decode cc pc = .ok (.new ix, 3)) (d2' : decode cc (pc + 3) = .ok (.dup, 1)) (d3 : decode cc (pc + 4) = .ok (.invokespecial iy, 3)) (hb : bdH h.length h = true) (hbl : ls.all (fun q => bdV h.length q.2) = true) (hbs : st.all (bdV h.length) = true) (hrw : wsum (vR h.length 0 :: st) ≤ 8)
    (g : ∀ σ2, grown σ σ2 h.length → At γ σ2 (k + 1 + mc2) (n + N + ms2) (pc + 7) ls (vR h.length 0 :: st) (h ++ blk h.length)) : At γ σ k n pc ls st h := by
  have hL : (h ++ [[aO ci fs]]).length = h.length + 1 := by rw [List.length_append]; rfl
  have hle : h.length ≤ (h ++ [[aO ci fs]]).length := by omega
  refine At.newO O hc hl hi hin (hfs σ) hnr hk hn d1 hb hbl hbs fun σ2 g2 => ?_
  refine At.dup O d2' rfl ?_
  have hbn : bdC 0 (aO ci fs) = true := hnr
  have hb1 : bdH (h ++ [[aO ci fs]]).length (h ++ [[aO ci fs]]) = true := bdH_app (bdH_mono hle hb) (by
    show ((bdC _ (aO ci fs) && true) && true) = true
    rw [bdC_mono (Nat.zero_le _) hbn]; rfl)
  have hv1 : bdV (h ++ [[aO ci fs]]).length (vR h.length 0) = true := Nat.ble_eq.mpr (by omega)
  have F : Fits [h.length] [h.length] [[aO ci fs]] (h ++ [[aO ci fs]]) := ⟨by
    rw [hnth_eq, List.getElem?_append_right (Nat.le_refl _), Nat.sub_self]
    show some [aO ci fs] = some [renC [h.length] (aO ci fs)]
    rw [renC_nr hnr], trivial⟩
  refine At.callI O m (P := [h.length]) (hC := [[aO ci fs]]) (r := 0) (o := 0) (As := []) (rest := vR h.length 0 :: st) S Kk w rfl F hb1 (by
    show ((bdC _ (aO ci fs) && true) && true) = true
    rw [bdC_mono (Nat.zero_le _) hbn]; rfl) (bdLs_mono hle hbl) (by
    show (bdV _ (vR h.length 0) && st.all (bdV _)) = true
    rw [hv1, bdVs_mono hle hbs]; rfl) rfl hf hrw d3 rfl (fun v h2 hp => ?_) (fun E h2 hp => by cases hp.1)
  obtain ⟨hv, rfl⟩ := hp
  cases hv
  refine ⟨by rw [hlen]; show m + 1 = 1 + m; omega, by rw [hlen]; exact hbk, rfl, fun σ3 g3 => ?_⟩
  have eP : [h.length] ++ newR (h ++ [[aO ci fs]]).length m = List.range' h.length (m + 1) := by rw [hL]; exact newR_one _ _
  rw [eP]
  have e := plug_blk (List.range' h.length (m + 1)) (blk 0) ([[aO ci fs]] ++ List.replicate m []) h [] (by rw [hlen, List.length_append, List.length_replicate]; show 1 + m = m + 1; omega)
  rw [hlen, hren, List.append_nil, List.append_nil, ← List.append_assoc] at e
  rw [e]
  exact g σ3 fun r hr o => (g3 r (by omega) o).trans (g2 r hr o)
end MKI
/-- places moved by g -/
def mvV (g : Nat) : AV → AV
  | .inr (.inl q) => .inr (.inl (g + q.1, q.2))
  | v => v
def mvC (g : Nat) : ACell → ACell
  | .inl (ty, n, .inr (.inr (.inr f))) => .inl (ty, n, .inr (.inr (.inr (f.map (mvV g)))))
  | .inr (.inl (ci, fs)) => .inr (.inl (ci, fs.map (mvV g)))
  | c => c
theorem ren_sh {g n : Nat} {v : AV} (h : bdV n v = true) : ren (List.range' g n) v = mvV g v := by
  rcases v with v | ⟨r, o⟩ | k
  · rfl
  · have hr : r < n := Nat.le_of_ble_eq_true h
    have e : rn (List.range' g n) r = g + r := by
      unfold rn
      rw [hnth_eq, List.getElem?_range' hr]
      show g + 1 * r = g + r
      omega
    show Sum.inr (Sum.inl (rn (List.range' g n) r, o)) = _
    rw [e]; rfl
  · rfl
theorem renL_sh {g n : Nat} {l : List AV} (h : l.all (bdV n) = true) : l.map (ren (List.range' g n)) = l.map (mvV g) := List.map_congr_left fun v hv => ren_sh (List.all_eq_true.mp h v hv)
theorem renC_sh {g n : Nat} {c : ACell} (h : bdC n c = true) : renC (List.range' g n) c = mvC g c := by
  rcases c with ⟨ty, n, x⟩ | ⟨ci, fs⟩ | ⟨n, m, t⟩
  · rcases x with f | f | f | f
    · rfl
    · rfl
    · rfl
    · show Sum.inl (ty, n, Sum.inr (Sum.inr (Sum.inr (f.map (ren _))))) = _
      rw [renL_sh h]; rfl
  · show Sum.inr (Sum.inl (ci, fs.map (ren _))) = _
    rw [renL_sh h]; rfl
  · rfl
abbrev mvH (g : Nat) (h : AHp) : AHp := h.map (fun x => x.map (mvC g))
theorem renH_sh {g n : Nat} {h : AHp} (hb : bdH n h = true) : h.map (fun x => x.map (renC (List.range' g n))) = mvH g h :=
  List.map_congr_left fun x hx => List.map_congr_left fun c hc => renC_sh (List.all_eq_true.mp (List.all_eq_true.mp hb x hx) c hc)
theorem mvV_add (a b : Nat) (v : AV) : mvV a (mvV b v) = mvV (a + b) v := by
  rcases v with v | ⟨r, o⟩ | k
  · rfl
  · show Sum.inr (Sum.inl (a + (b + r), o)) = Sum.inr (Sum.inl (a + b + r, o))
    rw [Nat.add_assoc]
  · rfl
theorem mvL_add (a b : Nat) (l : List AV) : (l.map (mvV b)).map (mvV a) = l.map (mvV (a + b)) := by
  rw [List.map_map]
  exact List.map_congr_left fun v _ => mvV_add a b v
theorem mvC_add (a b : Nat) (c : ACell) : mvC a (mvC b c) = mvC (a + b) c := by
  rcases c with ⟨ty, n, x⟩ | ⟨ci, fs⟩ | ⟨n, m, t⟩
  · rcases x with f | f | f | f
    · rfl
    · rfl
    · rfl
    · show Sum.inl (ty, n, Sum.inr (Sum.inr (Sum.inr ((f.map (mvV b)).map (mvV a))))) = _
      rw [mvL_add]; rfl
  · show Sum.inr (Sum.inl (ci, (fs.map (mvV b)).map (mvV a))) = _
    rw [mvL_add]; rfl
  · rfl
theorem mvH_add (a b : Nat) (h : AHp) : mvH a (mvH b h) = mvH (a + b) h := by
  show (h.map _).map _ = _
  rw [List.map_map]
  refine List.map_congr_left fun x _ => ?_
  show (x.map (mvC b)).map (mvC a) = _
  rw [List.map_map]
  exact List.map_congr_left fun c _ => mvC_add a b c
theorem fShip_s (g : Nat) : fShip g = mvH g (fShip 0) := by
  rw [← fShip_r g]; exact renH_sh (n := 16) (by decide +kernel)
theorem shs_s (g b : Nat) : ∀ i, mvH g (shs b i) = shs (g + b) i
  | 0 => rfl
  | i + 1 => by
    show (shs b i ++ fShip (b + 16 * i)).map _ = shs (g + b) i ++ fShip (g + b + 16 * i)
    rw [List.map_append]
    have e1 := shs_s g b i
    have e2 : mvH g (fShip (b + 16 * i)) = fShip (g + b + 16 * i) := by
      rw [fShip_s (b + 16 * i), mvH_add, ← fShip_s, Nat.add_assoc]
    rw [← e1, ← e2]
theorem fHis_r (g : Nat) : (fHis 0).map (fun x => x.map (renC (List.range' g 130))) = fHis g := by
  refine (renH_sh (n := 130) (fHisN_b 8)).trans ?_
  show ([aO 6 [vR (g + (0 + 1)) 0, vI 0, vI 0]] :: [aA (.object RX8) 8 ((arL (0 + 2) 8).map (mvV g))] :: mvH g (shs (0 + 2) 8) : AHp) = _
  rw [shs_s]
  have e : (arL (0 + 2) 8).map (mvV g) = arL (g + 2) 8 := rfl
  rw [e]; rfl
