/-! ===== texts that are made: their two cells; length, a letter, append(String), toString ===== -/
/-- a string's object, whose bytes are region g; its bytes -/
abbrev sO (g : Nat) : ACell := aO 0 [vR g 0, vI 0, vI 0, vI 0]
abbrev sY (n : Nat) (f : Nat → Int32) : ACell := .inl (.byte, n, .inl f)
abbrev sH (n : Nat) (f : Nat → Int32) : AHp := [[sO 1], [sY n f]]
theorem rcvS {g : Nat} : rcv (sO g) RJ0 := ⟨TJ0, 4, rfl⟩
section ATPT
variable {γ : CX} {own : String} {cc : ByteArray} {σ : Nat → Nat → Nat} {k n pc : Nat} {ls : List (Nat × AV)} {st : List AV} {h hC : AHp}
/-- fewer regions, in another order -/
theorem At.part (O : OK γ own cc) {P : List Nat} (hn : va_nd P = true) (F : Fits P P hC h) (g : At γ (fun r o => σ (rn P r) o) k n pc ls st hC) : At γ σ k n pc (ls.map (fun q => (q.1, ren P q.2))) (st.map (ren P)) h := fun η H locs lsA a b c => by
  obtain ⟨R1, RA⟩ := a.part hn F
  have e1 : trL σ (cκ γ) (ls.map (fun q => (q.1, ren P q.2))) = trL (fun r o => σ (rn P r) o) (cκ γ) ls := by
    show (ls.map _).map _ = ls.map _
    rw [List.map_map]
    exact List.map_congr_left fun q _ => Prod.ext rfl (tr_ren ..)
  have e2 : (st.map (ren P)).map (tr σ (cκ γ)) = st.map (tr (fun r o => σ (rn P r) o) (cκ γ)) := by
    rw [List.map_map]
    exact List.map_congr_left fun v _ => tr_ren ..
  rw [e2]
  rw [e1] at c
  refine g _ H locs lsA (R1.weaken fun p _ hp => ?_) b c
  rcases RA _ hp with z | z
  · exact z
  · exact O.2.2.2.2.2.2.1 _ (Nat.le_trans b.1 z)
/-- clone() of bytes -/
theorem At.clone (O : OK γ own cc) {ix r o N : Nat} {f : Nat → Int32} (hg : hget h r o = some (sY N f)) (hft : sb_Fit f)
    (w1 : Cond.methodLink own ix ⟨"[B", "clone", "()Ljava/lang/Object;"⟩ ∈ lw_tbl) (w2 : Cond.sameMethod "[B" "java/lang/Object" "clone" "()Ljava/lang/Object;" ∈ lw_tbl) (w3 : Cond.native ⟨"java/lang/Object", "clone", "()Ljava/lang/Object;"⟩ ∈ lw_tbl)
    (w4 : Cond.instanceMethod ⟨"java/lang/Object", "clone", "()Ljava/lang/Object;"⟩ ∈ lw_tbl) (w5 : Cond.selects "[B" ⟨"[B", "clone", "()Ljava/lang/Object;"⟩ ⟨"java/lang/Object", "clone", "()Ljava/lang/Object;"⟩ ∈ lw_tbl) (w6 : Cond.castable "[B" "java/lang/Cloneable" ∈ FT)
    (q1 : Cond.methodLink own ix ⟨"[B", "clone", "()Ljava/lang/Object;"⟩ ∈ GT) (q2 : Cond.sameMethod "[B" "java/lang/Object" "clone" "()Ljava/lang/Object;" ∈ GT) (q3 : Cond.native ⟨"java/lang/Object", "clone", "()Ljava/lang/Object;"⟩ ∈ GT)
    (q4 : Cond.instanceMethod ⟨"java/lang/Object", "clone", "()Ljava/lang/Object;"⟩ ∈ GT) (q5 : Cond.selects "[B" ⟨"[B", "clone", "()Ljava/lang/Object;"⟩ ⟨"java/lang/Object", "clone", "()Ljava/lang/Object;"⟩ ∈ GT)
    (hf : Fit γ k n 0 1 N) (hrw : wsum st ≤ 8) (d : decode cc pc = .ok (.invokevirtual ix, 3)) (hb : bdH h.length h = true) (hbl : ls.all (fun q => bdV h.length q.2) = true) (hbs : st.all (bdV h.length) = true)
    (g : ∀ σ2, grown σ σ2 h.length → At γ σ2 (k + 1) (n + N) (pc + 3) ls (vR h.length 0 :: st) (h ++ [[sY N f]])) : At γ σ k n pc ls (vR r o :: st) h := fun η H locs lsA a b c => by
  intro T hT X
  have hw := wsum_eq (σ := σ) (κ := cκ γ) st
  obtain ⟨cA, hc0, p0, p1⟩ := a.1 r o _ hg
  have hnm : (cS γ).vm.findClass "[B" = some cA := va_nm_byte p1
  have hcell : T.heap[σ r o]? = some (arrV cA N (fun j => .int (f j))) := by rw [hT]; exact hc0
  obtain ⟨c0, t0, f1, f2, f3⟩ := Cond.castable_spec (FT_hts O w6)
  cases hnm.symm.trans f1
  obtain ⟨-, kA, hkA, comp, hkind⟩ := State.isArrayOf_alike X.warmed.alike (p0 0 (fun _ => .null))
  obtain ⟨-, kS, hkS, compS, hkindS⟩ := p0 0 (fun _ => .null)
  obtain ⟨vm', X', step⟩ := X.cloneArray O.1 O.2.2.1 (O.2.2.2.1 _ q1) (O.2.2.2.1 _ q2) (O.2.2.2.1 _ q3) (O.2.2.2.1 _ q4) (O.2.2.2.1 _ q5) (a := σ r o) (cell := arrV cA N (fun j => .int (f j))) hcell (fun k h => by cases h) (fun h => by cases h) hnm f2 f3
    (fun i v hv => by
      have hk' : T.vm.classes[cA]? = some kA := hkA
      have hfit : fits .byte v = true := va_fit (n := N) (F := fun j => .int (f j)) (ty := .byte) (fun i _ => hft i) i v hv
      show State.fitsSlot T cA .none i v = true
      simpa [State.fitsSlot, State.slotType?, hk', hkind] using hfit)
    (g := F0 (cM γ) pc lsA ((vR r o :: st).map (tr σ (cκ γ)))) (rest := st.map (tr σ (cκ γ))) rfl c.1 rfl (by rw [O.2.1]; exact d) hf.1 (by
      have := hf.2.1
      show 2 * 0 + _ + 14 ≤ _
      omega) hf.2.2.1 (by rw [arrV_size]; exact hf.2.2.2) (hloader := Vm.clonesLoader_of_array hkS hkindS)
  have hcellE : ({ cls := (arrV cA N (fun j => .int (f j))).cls, slots := (arrV cA N (fun j => .int (f j))).slots } : Cell) = arrV cA N (fun j => .int (f j)) := rfl
  rw [hcellE, arrV_size] at X'
  have hs : grown σ (fun r o => if r < h.length then σ r o else H.size) h.length := fun r hr o => if_pos hr
  have hA : cF γ H.size := O.2.2.2.2.2.2.1 _ b.1
  have o1 : ∀ q : Nat, q < H.size → (H.push (arrV cA N (fun j => .int (f j))))[q]? = H[q]? := fun q hq => by rw [Array.getElem?_push, if_neg (Nat.ne_of_lt hq)]
  have R1 := a.push (c := sY N f) (a := H.size) (H1 := H.push (arrV cA N (fun j => .int (f j)))) hb rfl o1 (Nat.le_refl _) hA ⟨cA, by
    show (H.push _)[if h.length < h.length then σ h.length 0 else H.size]? = _
    rw [if_neg (Nat.lt_irrefl _)]
    exact Array.getElem?_push_size, p0, p1⟩
  have g2 := g _ hs η _ locs lsA R1 ⟨Nat.le_trans b.1 (by simp), fun q h1 h2 => (o1 q (Nat.lt_of_lt_of_le h1 b.1)).trans (b.2.1 q h1 h2), b.2.2⟩ (by rw [trL_bd hs hbl]; exact c)
  have e2 : (vR h.length 0 :: st).map (tr (fun r o => if r < h.length then σ r o else H.size) (cκ γ)) = .ref H.size :: st.map (tr σ (cκ γ)) := by
    rw [List.map_cons, bdV_trL hs hbs]
    show Value.ref (if h.length < h.length then σ h.length 0 else H.size) :: _ = _
    rw [if_neg (Nat.lt_irrefl _)]
  rw [e2] at g2
  obtain ⟨t, b1, b2⟩ := g2 ((T.setVm vm').pushCell (arrV cA N (fun j => .int (f j)))) (by rw [← hT]; rfl) X'
  refine ⟨t, step t ?_, b2⟩
  rw [hcellE, hT]
  exact b1
/-- checkcast of bytes -/
theorem At.castB (O : OK γ own cc) {ix r o N : Nat} {f : Nat → Int32} (hg : hget h r o = some (sY N f)) (w : Cond.classLink own ix "[B" ∈ GT) (d : decode cc pc = .ok (.checkcast ix, 3)) (g : At γ σ k n (pc + 3) ls (vR r o :: st) h) : At γ σ k n pc ls (vR r o :: st) h := fun η H locs lsA a b c => by
  intro T hT X
  obtain ⟨cA, hc0, p0, p1⟩ := a.1 r o _ hg
  have hnm : (cS γ).vm.findClass "[B" = some cA := va_nm_byte p1
  have hcell : T.heap[σ r o]? = some (arrV cA N (fun j => .int (f j))) := by rw [hT]; exact hc0
  obtain ⟨vm', X', step⟩ := X.checkcastYes O.1 O.2.2.1 (O.2.2.2.1 _ w) hcell rfl hnm (va_asg _ _) (g := F0 (cM γ) pc lsA ((vR r o :: st).map (tr σ (cκ γ)))) rfl rfl (by rw [O.2.1]; exact d)
  obtain ⟨t, a1, b1⟩ := g η H locs lsA a b c (T.setVm vm') hT X'
  exact ⟨t, step t a1, b1⟩
end ATPT
theorem s_hcoder (n : Nat) (f : Nat → Int32) : Sp 0 0 0 mJ0_coder_7d493 [vR 0 0] (sH n f) (PoI 0 (sH n f)) := by
  refine Sp.of' false (fun h => by cases h) (by decide) rfl rfl (Nat.le_of_ble_eq_true rfl) fun γ σ B => ?_
  refine At.getZ B.1 (v := vI 1) (sx_cs B.1) rfl (mT 777 (by decide +kernel) rfl) (dcG okJ0_coder_7d493 rfl) ?_
  refine B.run okJ0_coder_7d493 [(14, [0])] 60 ?_
  refine ⟨fun h => absurd h (by decide), fun _ => ?_⟩
  exact At.iret B.1 B.2.1 (ty := .byte) (dc1L okJ0_coder_7d493 rfl (by simp [L1])) rfl rfl (Nat.le_refl _) (Nat.le_refl _) (Or.inl rfl) ⟨rfl, rfl⟩
theorem s_hisL (n : Nat) (f : Nat → Int32) : Sp 0 0 0 mJ0_isLatin1_aae02 [vR 0 0] (sH n f) (PoI 1 (sH n f)) := by
  refine Sp.of' false (fun h => by cases h) (by decide) rfl rfl (Nat.le_of_ble_eq_true rfl) fun γ σ B => ?_
  refine At.getZ B.1 (v := vI 1) (sx_cs B.1) rfl (mT 777 (by decide +kernel) rfl) (dcG okJ0_isLatin1_aae02 rfl) ?_
  refine B.run okJ0_isLatin1_aae02 [] 60 ?_
  exact ⟨fun h => absurd h (by decide), fun _ => ⟨fun _ => rT (b := true) rfl, fun h => absurd rfl h⟩⟩
theorem s_hlen (n : Nat) (f : Nat → Int32) : Sp 1 0 0 mJ0_length_8abf5 [vR 0 0] (sH n f) (PoI (nI n) (sH n f)) := by
  refine Sp.of' false (fun h => by cases h) (by decide) rfl rfl (Nat.le_of_ble_eq_true rfl) fun γ σ B => ?_
  refine B.run okJ0_length_8abf5 [] 60 ?_
  refine At.qV [0, 1] [] [vI (nI n)] B.1 (c := sO 1) (s_hcoder n f) kJ0_coder_7d493 ln_J0_335 ⟨rfl, rfl, trivial⟩ (B.fit (by decide) (by omega) (by omega)) (dcV okJ0_length_8abf5 rfl) rcvS ?_
  refine B.run okJ0_length_8abf5 [] 60 ?_
  exact rI (shr0 _)
theorem s_hbyt (n i : Nat) (t : Nat → Nat) (f : Nat → Int32) (hL : sb_Lat t n f) (hi : i < n) (hn : n < 2 ^ 31) : Sp 2 0 0 mJ1_charAt_3b067 [vR 0 0, vI (nI i)] [[sY n f]] (PoI (nI (t i)) [[sY n f]]) := by
  refine Sp.of' false (fun h => by cases h) (by decide) rfl rfl (Nat.le_of_ble_eq_true rfl) fun γ σ B => ?_
  obtain ⟨q1, q2⟩ := hL i hi
  obtain ⟨b1, b2, b3⟩ := sb_byte (t i) q1
  refine B.run okJ1_charAt_3b067 [] 60 ?_
  refine At.qS [] [vI (nI i), vI (nI n)] [] B.1 (s_chk i n hi hn) kJ0_checkIndex_df160 ln_J1_9 trivial (B.fit (by decide) (by omega) (by omega)) (dcS okJ1_charAt_3b067 rfl) ?_
  refine B.run okJ1_charAt_3b067 [(14, [0])] 60 ?_
  refine ⟨vp_in_nI hi hn, ?_⟩
  show At γ σ _ _ 14 [(0, vR 0 0)] [vI ((f (nI i).toNatClampNeg &&& 255).toUInt32 % 65536).toInt32] _
  rw [nI_clamp (by omega), q2, b1, b2]
  refine B.run okJ1_charAt_3b067 [] 60 ?_
  exact ⟨(pk_charN (by omega)).1, rI rfl⟩
theorem s_hchr (n i : Nat) (t : Nat → Nat) (f : Nat → Int32) (hL : sb_Lat t n f) (hi : i < n) (hn : n < 2 ^ 31) : Sp 3 0 0 mJ0_charAt_5068e [vR 0 0, vI (nI i)] (sH n f) (PoI (nI (t i)) (sH n f)) := by
  refine Sp.of' false (fun h => by cases h) (by decide) rfl rfl (Nat.le_of_ble_eq_true rfl) fun γ σ B => ?_
  obtain ⟨q1, q2⟩ := hL i hi
  refine B.run okJ0_charAt_5068e [] 60 ?_
  refine At.qV [0, 1] [] [] B.1 (c := sO 1) (s_hisL n f) kJ0_isLatin1_aae02 ln_J0_492 ⟨rfl, rfl, trivial⟩ (B.fit (by decide) (by omega) (by omega)) (dcV okJ0_charAt_5068e rfl) rcvS ?_
  refine B.run okJ0_charAt_5068e [] 60 ?_
  refine ⟨fun h => absurd h (by decide), fun _ => ?_⟩
  refine At.qS [1] [vR 0 0, vI (nI i)] [] B.1 (s_hbyt n i t f hL hi hn) kJ1_charAt_3b067 ln_J0_495 ⟨rfl, trivial⟩ (B.fit (by decide) (by omega) (by omega)) (dcS okJ0_charAt_5068e rfl) ?_
  refine B.run okJ0_charAt_5068e [] 60 ?_
  exact ⟨(pk_charN (by omega)).1, rI rfl⟩
/-- a builder opened, beside a string -/
abbrev opS (ml nn : Int32) (m : Nat) (a : Nat → Int32) (u : Nat) (f : Nat → Int32) : AHp := [[aO 1 [vR 3 0, vI 0, vI ml, vI nn]], [sO 2], [sY u f], [.inl (.byte, m, .inl a)]]
theorem s_hinf (m u : Nat) (ml nn : Int32) (a f : Nat → Int32) : Sp 1 0 0 mJ5_inflateIfNeededFor_a7421 [vR 0 0, vR 1 0] (opS ml nn m a u f) (PoV (opS ml nn m a u f)) := by
  refine Sp.of' false (fun h => by cases h) (by decide) rfl rfl (Nat.le_of_ble_eq_true rfl) fun γ σ B => ?_
  refine At.getZ B.1 (v := vI 1) (sx_cs B.1) rfl cs_J5 (dcG okJ5_inflateIfNeededFor_a7421 rfl) ?_
  refine B.run okJ5_inflateIfNeededFor_a7421 [] 60 ?_
  refine ⟨fun h => absurd h (by decide), fun _ => ?_⟩
  refine At.qV [1, 2] [] [vI 0] B.1 (c := sO 1) (s_hcoder u f) kJ0_coder_7d493 ln_J5_40 ⟨rfl, rfl, trivial⟩ (B.fit (by decide) (by omega) (by omega)) (dcV okJ5_inflateIfNeededFor_a7421 rfl) rcvS ?_
  refine B.run okJ5_inflateIfNeededFor_a7421 [] 60 ?_
  exact ⟨fun _ => rV, fun h => absurd rfl h⟩
theorem s_hgetB (u p m : Nat) (f a : Nat → Int32) (hf : sb_Fit f) (hp : p + u ≤ m) (hm : m ≤ 65536) : Sp 1 0 0 mJ0_getBytes_840e7 [vR 0 0, vR 2 0, vI (nI p), vI 0] [[sO 1], [sY u f], [sY m a]] (PoV [[sO 1], [sY u f], [sY m (va_cpy f a 0 p u)]]) := by
  refine Sp.of' false (fun h => by cases h) (by decide) rfl rfl (Nat.le_of_ble_eq_true rfl) fun γ σ B => ?_
  refine B.run okJ0_getBytes_840e7 [] 60 ?_
  refine At.qV [0, 1] [] [] B.1 (c := sO 1) (s_hcoder u f) kJ0_coder_7d493 ln_J0_335 ⟨rfl, rfl, trivial⟩ (B.fit (by decide) (by omega) (by omega)) (dcV okJ0_getBytes_840e7 rfl) rcvS ?_
  refine B.run okJ0_getBytes_840e7 [] 60 ?_
  refine ⟨fun _ => ?_, fun h => absurd rfl h⟩
  show At γ σ (0 + 0) (0 + 0) 22 [(0, vR 0 0), (1, vR 2 0), (2, vI (nI p)), (3, vI 0)] [vI (nI u), vI (nI p <<< ((0 : Int32) &&& 31)), vR 2 0, vI 0, vR 1 0] [[sO 1], [sY u f], [sY m a]]
  rw [shl0]
  refine At.copyb B.1 (mT 810 (by decide +kernel) rfl) (r0 := 1) (o0 := 0) (r1 := 2) (o1 := 0) (n0 := u) (n1 := m) (f := f) (g := a) rfl rfl hf (by decide) (nI_pos (by omega)) (nI_pos (by omega)) (by rw [nI_clamp (by omega)]; show 0 + _ ≤ _; omega) (by rw [nI_clamp (by omega), nI_clamp (by omega)]; exact hp) (B.fit (by decide) (by omega) (by omega)) (Nat.le_of_ble_eq_true rfl) (dcS okJ0_getBytes_840e7 rfl) ?_
  rw [nI_clamp (by omega), nI_clamp (by omega)]
  refine B.run okJ0_getBytes_840e7 [] 60 ?_
  exact rV
theorem s_hputS (u p m : Nat) (ml nn : Int32) (f a : Nat → Int32) (hf : sb_Fit f) (hp : p + u ≤ m) (hm : m ≤ 65536) : Sp 2 0 0 mJ5_putStringAt_47b60 [vR 0 0, vI (nI p), vR 1 0] (opS ml nn m a u f) (PoV (opS ml nn m (va_cpy f a 0 p u) u f)) := by
  refine Sp.of' false (fun h => by cases h) (by decide) rfl rfl (Nat.le_of_ble_eq_true rfl) fun γ σ B => ?_
  refine B.run okJ5_putStringAt_47b60 [] 60 ?_
  refine At.qU [0, 1, 2, 3] [vR 1 0] [] B.1 (c := aO 1 [vR 3 0, vI 0, vI ml, vI nn]) (C := RJ4) (s_hinf m u ml nn a f) nJ5_inf im_J5_inflateIfNeededFor_a7421 sm_inf (seP B.1 rfl pv_inf im_J5_inflateIfNeededFor_a7421) ln_J5_397 ⟨rfl, rfl, rfl, rfl, trivial⟩ (B.fit (by decide) (by omega) (by omega)) (dcV okJ5_putStringAt_47b60 rfl) rcvO ?_
  refine B.run okJ5_putStringAt_47b60 [] 60 ?_
  refine At.qV [1, 2, 3] [vR 2 0, vI (nI p), vI 0] [] B.1 (c := sO 1) (s_hgetB u p m f a hf hp hm) kJ0_getBytes_840e7 ln_J5_399 ⟨rfl, rfl, rfl, trivial⟩ (B.fit (by decide) (by omega) (by omega)) (dcV okJ5_putStringAt_47b60 rfl) rcvS ?_
  refine B.run okJ5_putStringAt_47b60 [] 60 ?_
  exact rV
abbrev sbS (n m : Nat) (t : Nat → Nat) (u : Nat) (f : Nat → Int32) : AHp := [[aB n m t], [sO 2], [sY u f]]
theorem s_haS (n m u mc ms : Nat) (t q : Nat → Nat) (f : Nat → Int32) (hQ : sb_Lat q u f) (hf : sb_Fit f) (hu : u < 2 ^ 31) (hr : sb_Room (n + u) m mc ms) : Sp 4 mc ms mJ5_append_cf1ce [vR 0 0, vR 1 0] (sbS n m t u f) (PoQ (some (vR 0 0)) (sbS (n + u) (sb_cap (n + u) m) (sb_cat t n q) u f)) := by
  refine Sp.of' false (fun h => by cases h) (by decide) rfl rfl (Nat.le_of_ble_eq_true rfl) fun γ σ B => ?_
  have hg := sb_cap_ge (n + u) m
  refine B.run okJ5_append_cf1ce [] 60 ?_
  refine At.ifnonnullR B.1 (v := vR 1 0) rfl (dcNnl okJ5_append_cf1ce rfl) (t := 9) rfl ?_
  refine B.run okJ5_append_cf1ce [] 60 ?_
  refine At.qV [1, 2] [] [] B.1 (c := sO 1) (s_hlen u f) kJ0_length_8abf5 ln_J5_32 ⟨rfl, rfl, trivial⟩ (B.fit (by decide) (by omega) (by omega)) (dcV okJ5_append_cf1ce rfl) rcvS ?_
  refine B.run okJ5_append_cf1ce [(14, [0, 1, 2])] 60 ?_
  show At γ σ (0 + 0) (0 + 0) 14 [(0, vR 0 0), (1, vR 1 0), (2, vI (nI u))] [] (sbS n m t u f)
  refine At.opn (r := 0) (o := 0) rfl rfl rfl rfl fun σ2 ml a hs2 hL hF hnm hm => ?_
  have hq := sb_room_le hm hr
  refine B.runX okJ5_append_cf1ce [(19, [0, 1, 2])] 60 ?_
  refine At.cls (N := 3) (r := 0) (o := 0) (r2 := 3) (nn := n) (m := m) (t := t) rfl rfl hL hF hnm hm (by decide) (Nat.le_refl _) rfl hs2 rfl rfl ?_
  refine B.run okJ5_append_cf1ce [] 60 ?_
  show At γ σ (0 + 0) (0 + 0) 21 [(0, vR 0 0), (1, vR 1 0), (2, vI (nI u))] [vI (nI n + nI u), vR 0 0] (sbS n m t u f)
  rw [nI_add]
  refine At.qU [0] [vI (nI (n + u))] [] B.1 (c := aB n m t) (C := RJ4) (s_ens n m (n + u) mc ms t hq hr) nJ5_ens im_J5_ensureCapacityInternal_d00df sm_ens (seP B.1 rfl pv_ens im_J5_ensureCapacityInternal_d00df) ln_J5_100 ⟨rfl, trivial⟩ (B.fit (by decide) (by omega) (by omega)) (dcV okJ5_append_cf1ce rfl) rfl ?_
  show At γ σ (0 + 0 + mc) (0 + 0 + ms) 24 [(0, vR 0 0), (1, vR 1 0), (2, vI (nI u))] [] (sbS n (sb_cap (n + u) m) t u f)
  refine At.opn (r := 0) (o := 0) rfl rfl rfl rfl fun σ3 ml3 a3 hs3 hL3 hF3 hnm3 hm3 => ?_
  refine B.runX okJ5_append_cf1ce [] 60 ?_
  refine At.qU [0, 1, 2, 3] [vI (nI n), vR 1 0] [] B.1 (c := aO 1 [vR 3 0, vI 0, vI ml3, vI (nI n)]) (C := RJ4) (s_hputS u n (sb_cap (n + u) m) ml3 (nI n) f a3 hf hg hm3) nJ5_put im_J5_putStringAt_47b60 sm_put (seP B.1 rfl pv_put im_J5_putStringAt_47b60) ln_J5_208 ⟨rfl, rfl, rfl, rfl, trivial⟩ (B.fit (by decide) (by omega) (by omega)) (dcV okJ5_append_cf1ce rfl) rcvO ?_
  refine B.runX okJ5_append_cf1ce [(43, [0])] 60 ?_
  refine ⟨trivial, ?_⟩
  refine At.cls (σ := σ) (N := 3) (r := 0) (o := 0) (r2 := 3) (nn := n + u) (m := sb_cap (n + u) m) (t := sb_cat t n q) (ml := ml3) (x := va_cpy f a3 0 n u) ?_ rfl (sb_latPut hL3 (fun j hj => pk_cpy_out (Or.inl hj)) (fun i hi => ?_)) (sb_fitC hf hF3) (by omega) hm3 (by decide) (Nat.le_refl _) rfl hs3 rfl rfl ?_
  · show some (aO 1 [vR 3 0, vI 0, vI ml3, vI (nI n + nI u)]) = _
    rw [nI_add]
  · obtain ⟨z1, z2⟩ := hQ i hi
    refine ⟨z1, ?_⟩
    rw [pk_cpy_in (by omega) (by omega), show 0 + (n + i - n) = i by omega]
    exact z2
  · refine B.run okJ5_append_cf1ce [] 60 ?_
    exact ⟨⟨rfl, rfl⟩, by omega, by omega⟩
theorem s_hsS (n m u mc ms : Nat) (t q : Nat → Nat) (f : Nat → Int32) (hQ : sb_Lat q u f) (hf : sb_Fit f) (hu : u < 2 ^ 31) (hr : sb_Room (n + u) m mc ms) : Sp 5 mc ms mJ4_append_15ec4 [vR 0 0, vR 1 0] (sbS n m t u f) (PoQ (some (vR 0 0)) (sbS (n + u) (sb_cap (n + u) m) (sb_cat t n q) u f)) := by
  refine Sp.of' false (fun h => by cases h) (by decide) rfl rfl (Nat.le_of_ble_eq_true rfl) fun γ σ B => ?_
  refine B.run okJ4_append_15ec4 [] 60 ?_
  refine At.qP [0, 1, 2] [vR 1 0] [] B.1 (c := aB n m t) (ci := 1) (C := RJ4) rfl (s_haS n m u mc ms t q f hQ hf hu hr) nJ5_apS im_J5_append_cf1ce sm_apS su_J4 (by decide) ln_J4_29 ⟨rfl, rfl, rfl, trivial⟩ (B.fit (by decide) (by omega) (by omega)) (dcI okJ4_append_15ec4 rfl) rfl ?_
  refine B.run okJ4_append_15ec4 [] 60 ?_
  exact ⟨⟨rfl, rfl⟩, by omega, by omega⟩
