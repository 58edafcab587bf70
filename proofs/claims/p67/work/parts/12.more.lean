/-! ===== throws, statics, members of Math and System ===== -/
/-- a throw site: own class, index of the exception's class, of its constructor, the exception -/
def TSok (own : String) (ik ic : Nat) (E : String) (names : List String) : Prop := Bundle.fit E = true ∧ (∀ n ∈ names, Bundle.fit n = true) ∧ Cond.classLink own ik E ∈ FT ∧ Cond.initialized E ∈ FT ∧ (∀ w ∈ vx_atS own ic E names, w ∈ FT) ∧ ∀ w ∈ Cond.classLink own ik E :: Cond.initialized E :: vx_atS own ic E names, vx_ot w = true
section ATT
variable {γ : CX} {own : String} {cc : ByteArray} {σ σ0 : Nat → Nat → Nat} {k n pc N0 mc ms ik ic is d : Nat} {ls : List (Nat × AV)} {st rest : List AV} {h : AHp} {ret : Option FieldType} {Po : Out → AHp → Prop} {E text : String}
theorem FT_hts (O : OK γ own cc) {w : Cond} (hw : w ∈ FT) : w.before (cA γ) (cS γ) = true := by
  have h2 := (List.mem_filter.mp hw).2
  simp only [Bool.and_eq_true] at h2
  exact va_tabs h2.1 rfl (O.2.2.2.2.2.1.2.2.2.1 w hw)
theorem At.throwS (O : OK γ own cc) (Fi : Fin γ σ0 N0 mc ms ret Po) {e1 e2 : String} (T : TSok own ik ic E [e1, e2]) (hx : (own, is, text) ∈ exL) (hR : cR γ = rmD d mc ms) (hd : 6 ≤ d) (hrw : wsum st ≤ 100)
    (d0 : decode cc pc = .ok (.new ik, 3)) (d3 : decode cc (pc + 3) = .ok (.dup, 1)) (d4 : decode cc (pc + 4) = .ok (.ldc is, 2)) (d6 : decode cc (pc + 6) = .ok (.invokespecial ic, 3)) (d9 : decode cc (pc + 9) = .ok (.athrow, 1))
    (hk : k + 1 ≤ mc) (hs : n + 6 ≤ ms) (hσ : σ = σ0 ∨ (N0 < h.length ∧ ∀ r, r < N0 → ∀ o, σ r o = σ0 r o)) (hp : Po (.inr E) h) : At γ σ k n pc ls st h := fun η H locs lsA a b c => by
  obtain ⟨f1, f2, η0, h0, sz, f3, f4, f5⟩ := Fi
  subst f3
  obtain ⟨sa, hsa⟩ := O.2.2.2.2.2.1.2.2.1 _ hx
  obtain ⟨t1, t2, t3, t4, t5, t6⟩ := T
  unfold cW
  rw [f5]
  refine vx_throwS (names := [e1, e2]) (is := is) (ic := ic) (cls := E) (A := cF γ) O.1 O.2.1 O.2.2.2.2.2.2.2.1 O.2.2.1 t1 t2 (FT_hts O t3) (FT_hts O t4) hsa (fun w hw => FT_hts O (t5 w hw)) t6 O.2.2.2.2.2.1.2.2.2.2.1 O.2.2.2.2.2.1.2.2.2.2.2.1 b c.1 d0 d3 d4 d6 d9
    (fun x hx => absurd (f2 x hx) id) (by rw [hR]; show 2 + 3 < d; omega) ?_ (by rw [hR]; exact hk) (by rw [hR]; exact hs) O.2.2.2.2.2.2.2.2 (fun t hal hz hq => ?_) (fun z hz => by rw [← f4]; exact b.2.2 z hz) hk hs
  · rw [hR]
    have := wsum_eq (σ := σ) (κ := cκ γ) st
    show _ + (13 * 3 + 43) ≤ 48 * d
    omega
  · refine ⟨σ, h, η, hp, ?_, ?_, ?_, ?_⟩
    · rcases hσ with rfl | h9
      · exact fun _ _ _ => rfl
      · exact h9.2
    · rcases hσ with rfl | h9
      · exact fun _ => rfl
      · exact fun e => absurd e (by omega)
    · rw [← f4]
      refine ⟨fun r o c hg => ?_, a.2⟩
      have h1 := (a.1 r o c hg).moved hal
      refine h1.kept ?_ fun hsb => ?_
      · exact hq _ (Rep.size a (hget_pl hg))
      · exact hq _ (Rep.size a (p := (r, o, true)) ⟨c, hg, fun _ => hsb⟩)
    · rw [← f4]
      exact ⟨Nat.le_trans b.1 hz, fun q h1 h2 => by rw [hq q (Nat.lt_of_lt_of_le h1 b.1)]; exact b.2.1 q h1 h2⟩
theorem At.throwSW (O : OK γ own cc) (Fi : Fin γ σ0 N0 mc ms ret Po) {e1 e2 : String} (T : TSok own ik ic E [e1, e2]) (hx : (own, is, text) ∈ exL) (hR : cR γ = rmD d mc ms) (hd : 6 ≤ d) (hrw : wsum st ≤ 100)
    (d0 : decode cc pc = .ok (.new ik, 3)) (d3 : decode cc (pc + 3) = .ok (.dup, 1)) (d4 : decode cc (pc + 4) = .ok (.ldc_w is, 3)) (d6 : decode cc (pc + 7) = .ok (.invokespecial ic, 3)) (d9 : decode cc (pc + 10) = .ok (.athrow, 1))
    (hk : k + 1 ≤ mc) (hs : n + 6 ≤ ms) (hσ : σ = σ0 ∨ (N0 < h.length ∧ ∀ r, r < N0 → ∀ o, σ r o = σ0 r o)) (hp : Po (.inr E) h) : At γ σ k n pc ls st h := fun η H locs lsA a b c => by
  obtain ⟨f1, f2, η0, h0, sz, f3, f4, f5⟩ := Fi
  subst f3
  obtain ⟨sa, hsa⟩ := O.2.2.2.2.2.1.2.2.1 _ hx
  obtain ⟨t1, t2, t3, t4, t5, t6⟩ := T
  unfold cW
  rw [f5]
  refine vx_throwSW (names := [e1, e2]) (is := is) (ic := ic) (cls := E) (A := cF γ) O.1 O.2.1 O.2.2.2.2.2.2.2.1 O.2.2.1 t1 t2 (FT_hts O t3) (FT_hts O t4) hsa (fun w hw => FT_hts O (t5 w hw)) t6 O.2.2.2.2.2.1.2.2.2.2.1 O.2.2.2.2.2.1.2.2.2.2.2.1 b c.1 d0 d3 d4 d6 d9
    (fun x hx => absurd (f2 x hx) id) (by rw [hR]; show 2 + 3 < d; omega) ?_ (by rw [hR]; exact hk) (by rw [hR]; exact hs) O.2.2.2.2.2.2.2.2 (fun t hal hz hq => ?_) (fun z hz => by rw [← f4]; exact b.2.2 z hz) hk hs
  · rw [hR]
    have := wsum_eq (σ := σ) (κ := cκ γ) st
    show _ + (13 * 3 + 43) ≤ 48 * d
    omega
  · refine ⟨σ, h, η, hp, ?_, ?_, ?_, ?_⟩
    · rcases hσ with rfl | h9
      · exact fun _ _ _ => rfl
      · exact h9.2
    · rcases hσ with rfl | h9
      · exact fun _ => rfl
      · exact fun e => absurd e (by omega)
    · rw [← f4]
      refine ⟨fun r o c hg => ?_, a.2⟩
      have h1 := (a.1 r o c hg).moved hal
      refine h1.kept ?_ fun hsb => ?_
      · exact hq _ (Rep.size a (hget_pl hg))
      · exact hq _ (Rep.size a (p := (r, o, true)) ⟨c, hg, fun _ => hsb⟩)
    · rw [← f4]
      exact ⟨Nat.le_trans b.1 hz, fun q h1 h2 => by rw [hq q (Nat.lt_of_lt_of_le h1 b.1)]; exact b.2.1 q h1 h2⟩
/-- a constant of Fault -/
theorem At.getFault (O : OK γ own cc) {ix i : Nat} {nm : String} (hi : ["NONE", "NO_INDEX", "BAD_ARGUMENT", "BAD_STATE", "NO_ELEMENT"][i]? = some nm) (w : Cond.fieldLink own ix RX3 nm "LBallastControl$Fault;" ∈ GT) (d : decode cc pc = .ok (.getstatic ix, 3)) (g : At γ σ k n (pc + 3) ls (vK i :: st) h) : At γ σ k n pc ls st h := fun η H locs lsA a b c => by
  have hl : i < 5 := (List.getElem?_eq_some_iff.mp hi).1
  have h1 := (O.2.2.2.2.2.1.1.1 i hl).1
  have hnm : ["NONE", "NO_INDEX", "BAD_ARGUMENT", "BAD_STATE", "NO_ELEMENT"].getD i "" = nm := by rw [List.getD_eq_getElem?_getD, hi]; rfl
  rw [hnm] at h1
  exact va_gets O.1 O.2.1 h1 b O.2.2.1 (O.2.2.2.1 _ w) (fun _ h9 => h9) d (g η H locs lsA a b c)
theorem At.acmpK (O : OK γ own cc) {i j t : Nat} {off : Int} (hi : i < 5) (hj : j < 5) (d : decode cc pc = .ok (.if_acmp .ne off, 3)) (ht : (pc : Int) + off = (t : Int)) (g : ¬ i = j → At γ σ k n t ls st h) (f : i = j → At γ σ k n (pc + 3) ls st h) : At γ σ k n pc ls (vK j :: vK i :: st) h := fun η H locs lsA a b c => by
  have hinj := O.2.2.2.2.2.1.1.2 i j hi hj
  refine lv_acmp_ne (rx := some (cκ γ i)) (ry := some (cκ γ j)) O.1 O.2.1 d ht (fun q => ?_) (fun q => ?_)
  all_goals first
    | exact g (fun e => absurd (by rw [e]) q) η H locs lsA a b c
    | exact f (hinj (by simpa using q)) η H locs lsA a b c
end ATT
section ATM
variable {γ : CX} {own : String} {cc : ByteArray} {σ : Nat → Nat → Nat} {k n pc ix : Nat} {ls : List (Nat × AV)} {st : List AV} {h : AHp}
def KM (y : MethodName) (cd : ByteArray) (m : Nat) : Prop := Cond.static y ∈ GT ∧ Cond.initialized "java/lang/Math" ∈ GT ∧ Cond.code y cd m (some .int) ∈ GT
theorem At.mmin (O : OK γ own cc) (K : KM Lib.Math.min.name Lib.Math.min.code 2) {x y : Int32} (w : Cond.methodLink own ix Lib.Math.min.name ∈ GT) (hf : Fit γ k n 0 0 0) (hrw : wsum st ≤ 8) (d : decode cc pc = .ok (.invokestatic ix, 3)) (g : At γ σ k n (pc + 3) ls (vI (if y < x then y else x) :: st) h) : At γ σ k n pc ls (vI y :: vI x :: st) h := fun η H locs lsA a b c => by
  have := wsum_eq (σ := σ) (κ := cκ γ) st
  obtain ⟨h1, h2, h3, h4⟩ := hf
  exact va_mmin O.1 O.2.1 c.1.symm O.2.2.1 (O.2.2.2.1 _ w) (O.2.2.2.1 _ K.1) (O.2.2.2.1 _ K.2.1) (O.2.2.2.1 _ K.2.2) (by omega) (by omega) (by omega) (by omega) d (g η H locs lsA a b c)
theorem At.mmax (O : OK γ own cc) (K : KM Lib.Math.max.name Lib.Math.max.code 2) {x y : Int32} (w : Cond.methodLink own ix Lib.Math.max.name ∈ GT) (hf : Fit γ k n 0 0 0) (hrw : wsum st ≤ 8) (d : decode cc pc = .ok (.invokestatic ix, 3)) (g : At γ σ k n (pc + 3) ls (vI (if x < y then y else x) :: st) h) : At γ σ k n pc ls (vI y :: vI x :: st) h := fun η H locs lsA a b c => by
  have := wsum_eq (σ := σ) (κ := cκ γ) st
  obtain ⟨h1, h2, h3, h4⟩ := hf
  exact va_mmax O.1 O.2.1 c.1.symm O.2.2.1 (O.2.2.2.1 _ w) (O.2.2.2.1 _ K.1) (O.2.2.2.1 _ K.2.1) (O.2.2.2.1 _ K.2.2) (by omega) (by omega) (by omega) (by omega) d (g η H locs lsA a b c)
theorem At.mabs (O : OK γ own cc) (K : KM Lib.Math.abs.name Lib.Math.abs.code 1) {x : Int32} (w : Cond.methodLink own ix Lib.Math.abs.name ∈ GT) (hf : Fit γ k n 0 0 0) (hrw : wsum st ≤ 8) (d : decode cc pc = .ok (.invokestatic ix, 3)) (g : At γ σ k n (pc + 3) ls (vI (if 0 ≤ x then x else 0 - x) :: st) h) : At γ σ k n pc ls (vI x :: st) h := fun η H locs lsA a b c => by
  have := wsum_eq (σ := σ) (κ := cκ γ) st
  obtain ⟨h1, h2, h3, h4⟩ := hf
  exact va_mabs O.1 O.2.1 c.1.symm O.2.2.1 (O.2.2.2.1 _ w) (O.2.2.2.1 _ K.1) (O.2.2.2.1 _ K.2.1) (O.2.2.2.1 _ K.2.2) (by omega) (by omega) (by omega) (by omega) d (g η H locs lsA a b c)
end ATM
/-! ===== System.arraycopy of ints, from one cell to another ===== -/
theorem At.copyi {γ : CX} {own : String} {cc : ByteArray} {σ : Nat → Nat → Nat} {k n pc ix : Nat} {ls : List (Nat × AV)} {st : List AV} {h : AHp} (O : OK γ own cc) (w : Cond.methodLink own ix arraycopyName ∈ GT) (hnat : Cond.native arraycopyName ∈ GT) (hstat : Cond.static arraycopyName ∈ GT) (hini : Cond.initialized "java/lang/System" ∈ GT) {r0 o0 r1 o1 n0 n1 : Nat} {f g : Nat → Int32} (hg0 : hget h r0 o0 = some (aI n0 f)) (hg1 : hget h r1 o1 = some (aI n1 g))
    {sp dp m : Int32} (h1 : ¬ sp < 0) (h2 : ¬ dp < 0) (h3 : ¬ m < 0) (h4 : sp.toNatClampNeg + m.toNatClampNeg ≤ n0) (h5 : dp.toNatClampNeg + m.toNatClampNeg ≤ n1) (hf : Fit γ k n 0 0 0) (hrw : wsum st ≤ 8) (d : decode cc pc = .ok (.invokestatic ix, 3))
    (gg : At γ σ k n (pc + 3) ls st (hset h r1 o1 (aI n1 (va_cpy f g sp.toNatClampNeg dp.toNatClampNeg m.toNatClampNeg)))) : At γ σ k n pc ls (vI m :: vI dp :: vR r1 o1 :: vI sp :: vR r0 o0 :: st) h := by
  intro η H locs lsA a b c T hT X
  have hw := wsum_eq (σ := σ) (κ := cκ γ) st
  have nn : ∀ z : Int32, ¬ z < 0 → z.toInt = (z.toNatClampNeg : Int) := by
    intro z hz
    have hz0 : (0 : Int) ≤ z.toInt := by
      have := Int32.not_lt.mp hz
      simpa using Int32.le_iff_toInt_le.mp this
    show z.toInt = ((z.toInt.toNat : Nat) : Int)
    omega
  obtain ⟨c0, hc0, p0, -⟩ := a.1 r0 o0 _ hg0
  obtain ⟨c1, hc1, p1, p2⟩ := a.1 r1 o1 _ hg1
  have hc0 : H[σ r0 o0]? = some (vp_cell c0 (n0, .inl f)) := hc0
  have hc1 : H[σ r1 o1]? = some (vp_cell c1 (n1, .inl g)) := hc1
  obtain ⟨-, k0, hk0, cm0, hkk0⟩ := p0 n0 (fun j => .int (f j))
  obtain ⟨-, k1, hk1, cm1, hkk1⟩ := p1 n1 (fun j => .int (g j))
  obtain ⟨vm', X', step⟩ := X.arraycopy O.1 O.2.2.1 (O.2.2.2.1 _ w) (O.2.2.2.1 _ hnat) (O.2.2.2.1 _ hstat) (O.2.2.2.1 _ hini) (src := σ r0 o0) (dst := σ r1 o1) (cs := vp_cell c0 (n0, .inl f)) (cd := vp_cell c1 (n1, .inl g)) (srcPos := sp) (destPos := dp) (n := m) (by rw [hT]; exact hc0) (by rw [hT]; exact hc1)
    (fun _ h => by cases h) (fun _ h => by cases h) (fun h => by cases h) (fun h => by cases h) hk0 hk1 hkk0 hkk1 (by simp [refKind]) h1 h2 h3
    (by rw [nn sp h1, nn m h3]; show ¬ _ > ((arrV c0 n0 (fun j => .int (f j))).slots.size : Int); rw [arrV_size]; omega)
    (by rw [nn dp h2, nn m h3]; show ¬ _ > ((arrV c1 n1 (fun j => .int (g j))).slots.size : Int); rw [arrV_size]; omega)
    (fun vm₁ _ i hi => by
      have e : (vp_cell c0 (n0, .inl f)).slots.getD (sp.toNatClampNeg + i) .null = .int (f (sp.toNatClampNeg + i)) := by
        show (arrV c0 n0 (fun j => .int (f j))).slots.getD _ _ = _
        rw [Array.getD_eq_getD_getElem?, arrV_read _ _ (by omega)]
        rfl
      refine ⟨?_, ?_⟩
      · rw [e]; rfl
      · rw [e]
        exact trivial)
    (g := F0 (cM γ) pc lsA ((vI m :: vI dp :: vR r1 o1 :: vI sp :: vR r0 o0 :: st).map (tr σ (cκ γ)))) rfl c.1 (rest := st.map (tr σ (cκ γ))) rfl (by rw [O.2.1]; exact d) hf.1 (by
      have := hf.2.1
      have e0 : nativeFrameWords "java/lang/System" "arraycopy" 5 + 11 ≤ 40 := by decide
      show 2 * 0 + _ + _ ≤ _
      omega)
  have e1 : copied (vp_cell c0 (n0, .inl f)) (vp_cell c1 (n1, .inl g)) sp dp m = vp_cell c1 (n1, .inl (va_cpy f g sp.toNatClampNeg dp.toNatClampNeg m.toNatClampNeg)) := va_copied (fun z => .int z) c0 c1 f g h4
  rw [e1] at X' step
  have hl : σ r1 o1 < H.size := (Array.getElem?_eq_some_iff.mp hc1).1
  have hheap : ((T.setVm vm').setCell (σ r1 o1) (vp_cell c1 (n1, .inl (va_cpy f g sp.toNatClampNeg dp.toNatClampNeg m.toNatClampNeg)))).heap = H.setIfInBounds (σ r1 o1) (vp_cell c1 (n1, .inl (va_cpy f g sp.toNatClampNeg dp.toNatClampNeg m.toNatClampNeg))) := by rw [← hT]; rfl
  have oq : ∀ q : Nat, q ≠ σ r1 o1 → (H.setIfInBounds (σ r1 o1) (vp_cell c1 (n1, .inl (va_cpy f g sp.toNatClampNeg dp.toNatClampNeg m.toNatClampNeg))))[q]? = H[q]? := fun q hq => by simp [Array.getElem?_setIfInBounds, Ne.symm hq]
  have hFa : cF γ (σ r1 o1) := a.2.2 (r1, o1, false) (hget_pl hg1)
  obtain ⟨t, a1, b1⟩ := gg η _ _ lsA (a.set hg1 rfl rfl ⟨c1, (show (H.setIfInBounds (σ r1 o1) _)[σ r1 o1]? = some _ by (simp [Array.getElem?_setIfInBounds, hl]; rfl)), p1, p2⟩ oq) ⟨by simp; exact b.1, fun q g1 g2 => by
      rw [oq q (fun e => g2 (by rw [e]; exact hFa))]
      exact b.2.1 q g1 g2, fun q hq => by
      rcases List.mem_append.mp hq with h | h
      · exact b.2.2 q h
      · obtain ⟨z, -, hz⟩ := List.mem_map.mp h
        rw [← hz]
        exact hFa⟩ c _ hheap X'
  exact ⟨t, step t a1, b1⟩
