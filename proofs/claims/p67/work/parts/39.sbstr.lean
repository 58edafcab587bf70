/-! ===== texts that are constants; StringBuilder.append(String); new StringBuilder; ordinal ===== -/
/-- letter i of text j -/
def sxC (j : Nat) : Nat → Nat := fun i => (sxB j).getD i 0
theorem sx_str {γ : CX} {own : String} {cc : ByteArray} (O : OK γ own cc) {j : Nat} (hj : j < 19) : strAt (sxB j) (cκ γ (15 + j)) (cκ γ (40 + j)) (cF γ) (cS γ) (cS γ).heap := (sx O).1.2.2.2.1 j hj
theorem sxC_lt : ∀ j, j < 19 → ∀ i, i < 10 → sxC j i < 128 := by decide
theorem sx_len : ∀ j, j < 19 → (sxB j).length < 10 := by decide
theorem s_coder (j : Nat) (hj : j < 19) : Sp 0 0 0 mJ0_coder_7d493 [vK (15 + j)] [] (PoI 0 []) := by
  refine Sp.of' false (fun h => by cases h) (by decide) rfl rfl (Nat.le_of_ble_eq_true rfl) fun γ σ B => ?_
  have hS := sx_str B.1 hj
  refine At.getZ B.1 (v := vI 1) (sx_cs B.1) rfl (mT 777 (by decide +kernel) rfl) (dcG okJ0_coder_7d493 rfl) ?_
  refine B.run okJ0_coder_7d493 [(7, [0])] 60 ?_
  refine ⟨fun h => absurd h (by decide), fun _ => ?_⟩
  refine At.getOF B.1 hS.2.1 (x := vK (15 + j)) (v := vI 0) rfl rfl (mT 908 (by decide +kernel) rfl) (dcGf okJ0_coder_7d493 rfl) ?_
  refine B.run okJ0_coder_7d493 [(14, [0])] 60 ?_
  exact At.iret B.1 B.2.1 (ty := .byte) (dc1L okJ0_coder_7d493 rfl (by simp [L1])) rfl rfl (Nat.le_refl _) (Nat.le_refl _) (Or.inl rfl) ⟨rfl, rfl⟩
theorem s_strL (j : Nat) (hj : j < 19) : Sp 0 0 0 mJ0_isLatin1_aae02 [vK (15 + j)] [] (PoI 1 []) := by
  refine Sp.of' false (fun h => by cases h) (by decide) rfl rfl (Nat.le_of_ble_eq_true rfl) fun γ σ B => ?_
  have hS := sx_str B.1 hj
  refine At.getZ B.1 (v := vI 1) (sx_cs B.1) rfl (mT 777 (by decide +kernel) rfl) (dcG okJ0_isLatin1_aae02 rfl) ?_
  refine B.run okJ0_isLatin1_aae02 [(7, [0])] 60 ?_
  refine ⟨fun h => absurd h (by decide), fun _ => ?_⟩
  refine At.getOF B.1 hS.2.1 (x := vK (15 + j)) (v := vI 0) rfl rfl (mT 908 (by decide +kernel) rfl) (dcGf okJ0_isLatin1_aae02 rfl) ?_
  refine B.run okJ0_isLatin1_aae02 [] 60 ?_
  refine ⟨fun _ => rT (b := true) rfl, fun h => absurd rfl h⟩
theorem s_strN (j : Nat) (hj : j < 19) : Sp 1 0 0 mJ0_length_8abf5 [vK (15 + j)] [] (PoI (nI (sxB j).length) []) := by
  refine Sp.of' false (fun h => by cases h) (by decide) rfl rfl (Nat.le_of_ble_eq_true rfl) fun γ σ B => ?_
  have hS := sx_str B.1 hj
  obtain ⟨h1, h2, h3, h4⟩ := hS
  refine B.run okJ0_length_8abf5 [(1, [0])] 60 ?_
  refine At.getOF B.1 h3 (x := vK (15 + j)) (v := vK (40 + j)) rfl rfl (mT 907 (by decide +kernel) rfl) (dcGf okJ0_length_8abf5 rfl) ?_
  refine At.tlen B.1 h4 (x := vK (40 + j)) rfl (dc1L okJ0_length_8abf5 rfl (by simp [L1])) ?_
  refine B.run okJ0_length_8abf5 [] 60 ?_
  refine At.qK [] [] [vI (nI (sxB j).length)] B.1 (x := vK (15 + j)) (fun _ => rfl) h1 (s_coder j hj) kJ0_coder_7d493 ln_J0_335 trivial (B.fit (by decide) (by omega) (by omega)) (dcV okJ0_length_8abf5 rfl) ?_
  refine B.run okJ0_length_8abf5 [] 60 ?_
  exact rI (shr0 _)
theorem s_strB (j i : Nat) (hj : j < 19) (hi : i < (sxB j).length) : Sp 2 0 0 mJ1_charAt_3b067 [vK (40 + j), vI (nI i)] [] (PoI (nI (sxC j i)) []) := by
  refine Sp.of' false (fun h => by cases h) (by decide) rfl rfl (Nat.le_of_ble_eq_true rfl) fun γ σ B => ?_
  obtain ⟨h1, h2, h3, h4⟩ := sx_str B.1 hj
  have hl := sx_len j hj
  have hc := sxC_lt j hj i (Nat.lt_trans hi hl)
  have hn : ∀ c, c < 128 → ((nI c &&& 255).toUInt32 % 65536).toInt32 = nI c := by decide
  refine B.run okJ1_charAt_3b067 [] 60 ?_
  refine At.tlen B.1 h4 (x := vK (40 + j)) rfl (dc1L okJ1_charAt_3b067 rfl (by simp [L1])) ?_
  refine At.qS [] [vI (nI i), vI (nI (sxB j).length)] [] B.1 (s_chk i (sxB j).length hi (by omega)) kJ0_checkIndex_df160 ln_J1_9 trivial (B.fit (by decide) (by omega) (by omega)) (dcS okJ1_charAt_3b067 rfl) ?_
  refine B.run okJ1_charAt_3b067 [] 60 ?_
  refine At.tbald B.1 h4 (x := vK (40 + j)) (v := vI (nI (sxC j i))) rfl (vp_in_nI hi (by omega)) (by rw [nI_clamp (by omega)]; rfl) (dc1L okJ1_charAt_3b067 rfl (by simp [L1])) ?_
  refine B.run okJ1_charAt_3b067 [(14, [0])] 60 ?_
  show At γ σ _ _ 14 [(0, vK (40 + j))] [vI ((nI (sxC j i) &&& 255).toUInt32 % 65536).toInt32] []
  rw [hn _ hc]
  refine B.run okJ1_charAt_3b067 [] 60 ?_
  exact ⟨(pk_charN (by omega)).1, rI rfl⟩
theorem s_strC (j i : Nat) (hj : j < 19) (hi : i < (sxB j).length) : Sp 3 0 0 mJ0_charAt_5068e [vK (15 + j), vI (nI i)] [] (PoI (nI (sxC j i)) []) := by
  refine Sp.of' false (fun h => by cases h) (by decide) rfl rfl (Nat.le_of_ble_eq_true rfl) fun γ σ B => ?_
  obtain ⟨h1, h2, h3, h4⟩ := sx_str B.1 hj
  have hl := sx_len j hj
  have hc := sxC_lt j hj i (Nat.lt_trans hi hl)
  refine B.run okJ0_charAt_5068e [] 60 ?_
  refine At.qK [] [] [] B.1 (x := vK (15 + j)) (fun _ => rfl) h1 (s_strL j hj) kJ0_isLatin1_aae02 ln_J0_492 trivial (B.fit (by decide) (by omega) (by omega)) (dcV okJ0_charAt_5068e rfl) ?_
  refine B.run okJ0_charAt_5068e [(8, [0, 1])] 60 ?_
  refine ⟨fun h => absurd h (by decide), fun _ => ?_⟩
  refine At.getOF B.1 h3 (x := vK (15 + j)) (v := vK (40 + j)) rfl rfl (mT 907 (by decide +kernel) rfl) (dcGf okJ0_charAt_5068e rfl) ?_
  refine B.run okJ0_charAt_5068e [] 60 ?_
  refine At.qS [] [vK (40 + j), vI (nI i)] [] B.1 (s_strB j i hj hi) kJ1_charAt_3b067 ln_J0_495 trivial (B.fit (by decide) (by omega) (by omega)) (dcS okJ0_charAt_5068e rfl) ?_
  refine B.run okJ0_charAt_5068e [] 60 ?_
  exact ⟨(pk_charN (by omega)).1, rI rfl⟩
abbrev opB (ml nn : Int32) (m : Nat) (a : Nat → Int32) : AHp := [[aO 1 [vR 1 0, vI 0, vI ml, vI nn]], [.inl (.byte, m, .inl a)]]
theorem s_inf (j m : Nat) (ml nn : Int32) (a : Nat → Int32) (hj : j < 19) : Sp 1 0 0 mJ5_inflateIfNeededFor_a7421 [vR 0 0, vK (15 + j)] (opB ml nn m a) (PoV (opB ml nn m a)) := by
  refine Sp.of' false (fun h => by cases h) (by decide) rfl rfl (Nat.le_of_ble_eq_true rfl) fun γ σ B => ?_
  have hS := sx_str B.1 hj
  refine At.getZ B.1 (v := vI 1) (sx_cs B.1) rfl cs_J5 (dcG okJ5_inflateIfNeededFor_a7421 rfl) ?_
  refine B.run okJ5_inflateIfNeededFor_a7421 [] 60 ?_
  refine ⟨fun h => absurd h (by decide), fun _ => ?_⟩
  refine At.qK [] [] [vI 0] B.1 (x := vK (15 + j)) (fun _ => rfl) hS.1 (s_coder j hj) kJ0_coder_7d493 ln_J5_40 trivial (B.fit (by decide) (by omega) (by omega)) (dcV okJ5_inflateIfNeededFor_a7421 rfl) ?_
  refine B.run okJ5_inflateIfNeededFor_a7421 [] 60 ?_
  refine ⟨fun _ => rV, fun h => absurd rfl h⟩
theorem sxF (j : Nat) (hj : j < 19) : sb_Fit (fun i => nI (sxC j i)) := fun i => by
  have h : sxC j i < 128 := by
    rcases Nat.lt_or_ge i 10 with h | h
    · exact sxC_lt j hj i h
    · have := sx_len j hj
      show (sxB j).getD i 0 < 128
      rw [List.getD_eq_getElem?_getD, List.getElem?_eq_none (by omega)]
      decide
  have : ∀ c, c < 128 → fits .byte (.int (nI c)) = true := by decide
  exact this _ h
theorem sxb (j i : Nat) (hj : j < 19) (hi : i < (sxB j).length) : sxC j i < 256 ∧ nI (sxC j i) = sb_b (sxC j i) := by
  have h := sxC_lt j hj i (Nat.lt_trans hi (sx_len j hj))
  have : ∀ c, c < 128 → nI c = sb_b c := by decide
  exact ⟨by omega, this _ h⟩
/-- String.getBytes(byte[], int, byte): the text's bytes from place p on -/
theorem s_getB (j p m : Nat) (a : Nat → Int32) (hj : j < 19) (hp : p + (sxB j).length ≤ m) (hm : m ≤ 65536) : Sp 1 0 0 mJ0_getBytes_840e7 [vK (15 + j), vR 0 0, vI (nI p), vI 0] [[.inl (.byte, m, .inl a)]] (PoV [[.inl (.byte, m, .inl (va_cpy (fun i => nI (sxC j i)) a 0 p (sxB j).length))]]) := by
  refine Sp.of' false (fun h => by cases h) (by decide) rfl rfl (Nat.le_of_ble_eq_true rfl) fun γ σ B => ?_
  obtain ⟨h1, h2, h3, h4⟩ := sx_str B.1 hj
  have hl := sx_len j hj
  refine B.run okJ0_getBytes_840e7 [] 60 ?_
  refine At.qK [] [] [] B.1 (x := vK (15 + j)) (fun _ => rfl) h1 (s_coder j hj) kJ0_coder_7d493 ln_J0_335 trivial (B.fit (by decide) (by omega) (by omega)) (dcV okJ0_getBytes_840e7 rfl) ?_
  refine B.run okJ0_getBytes_840e7 [(9, [0, 1, 2, 3])] 60 ?_
  refine ⟨fun _ => ?_, fun h => absurd rfl h⟩
  refine At.getOF B.1 h3 (x := vK (15 + j)) (v := vK (40 + j)) rfl rfl (mT 907 (by decide +kernel) rfl) (dcGf okJ0_getBytes_840e7 rfl) ?_
  refine B.run okJ0_getBytes_840e7 [(18, [0, 1, 2, 3])] 60 ?_
  refine At.getOF B.1 h3 (x := vK (15 + j)) (v := vK (40 + j)) rfl rfl (mT 907 (by decide +kernel) rfl) (dcGf okJ0_getBytes_840e7 rfl) ?_
  refine At.tlen B.1 h4 (x := vK (40 + j)) rfl (dc1L okJ0_getBytes_840e7 rfl (by simp [L1])) ?_
  show At γ σ (0 + 0) (0 + 0) 22 [(0, vK (15 + j)), (1, vR 0 0), (2, vI (nI p)), (3, vI 0)] [vI (nI (sxB j).length), vI (nI p <<< ((0 : Int32) &&& 31)), vR 0 0, vI 0, vK (40 + j)] [[.inl (.byte, m, .inl a)]]
  rw [shl0]
  refine At.copyT B.1 (mT 810 (by decide +kernel) rfl) (x := vK (40 + j)) (t0 := cκ γ (40 + j)) (n0 := (sxB j).length) (f := fun i => nI (sxC j i)) (r1 := 0) (o1 := 0) (n1 := m) (g := a) h4 rfl rfl (sxF j hj) (by decide) (nI_pos (by omega)) (nI_pos (by omega)) (by rw [nI_clamp (by omega)]; show 0 + _ ≤ _; omega) (by rw [nI_clamp (by omega), nI_clamp (by omega)]; exact hp) (B.fit (by decide) (by omega) (by omega)) (Nat.le_of_ble_eq_true rfl) (dcS okJ0_getBytes_840e7 rfl) ?_
  rw [nI_clamp (by omega), nI_clamp (by omega)]
  refine B.run okJ0_getBytes_840e7 [] 60 ?_
  exact rV
theorem s_putS (j n m : Nat) (ml nn : Int32) (a : Nat → Int32) (hj : j < 19) (hp : n + (sxB j).length ≤ m) (hm : m ≤ 65536) : Sp 2 0 0 mJ5_putStringAt_47b60 [vR 0 0, vI (nI n), vK (15 + j)] (opB ml nn m a) (PoV (opB ml nn m (va_cpy (fun i => nI (sxC j i)) a 0 n (sxB j).length))) := by
  refine Sp.of' false (fun h => by cases h) (by decide) rfl rfl (Nat.le_of_ble_eq_true rfl) fun γ σ B => ?_
  have hS := sx_str B.1 hj
  refine B.run okJ5_putStringAt_47b60 [] 60 ?_
  refine At.qU [0, 1] [vK (15 + j)] [] B.1 (c := aO 1 [vR 1 0, vI 0, vI ml, vI nn]) (C := RJ4) (s_inf j m ml nn a hj) nJ5_inf im_J5_inflateIfNeededFor_a7421 sm_inf (seP B.1 rfl pv_inf im_J5_inflateIfNeededFor_a7421) ln_J5_397 ⟨rfl, rfl, trivial⟩ (B.fit (by decide) (by omega) (by omega)) (dcV okJ5_putStringAt_47b60 rfl) rcvO ?_
  refine B.run okJ5_putStringAt_47b60 [] 60 ?_
  refine At.qK [1] [vR 0 0, vI (nI n), vI 0] [] B.1 (x := vK (15 + j)) (fun _ => rfl) hS.1 (s_getB j n m a hj hp hm) kJ0_getBytes_840e7 ln_J5_399 ⟨rfl, trivial⟩ (B.fit (by decide) (by omega) (by omega)) (dcV okJ5_putStringAt_47b60 rfl) ?_
  refine B.run okJ5_putStringAt_47b60 [] 60 ?_
  exact rV
theorem s_aS (j n m mc ms : Nat) (t : Nat → Nat) (hj : j < 19) (hr : sb_Room (n + (sxB j).length) m mc ms) : Sp 4 mc ms mJ5_append_cf1ce [vR 0 0, vK (15 + j)] [[aB n m t]] (PoQ (some (vR 0 0)) [[aB (n + (sxB j).length) (sb_cap (n + (sxB j).length) m) (sb_cat t n (sxC j))]]) := by
  refine Sp.of' false (fun h => by cases h) (by decide) rfl rfl (Nat.le_of_ble_eq_true rfl) fun γ σ B => ?_
  have hg := sb_cap_ge (n + (sxB j).length) m
  have hS := sx_str B.1 hj
  have hl := sx_len j hj
  refine B.run okJ5_append_cf1ce [] 60 ?_
  refine At.ifnonnullR B.1 (v := vK (15 + j)) rfl (dcNnl okJ5_append_cf1ce rfl) (t := 9) rfl ?_
  refine B.run okJ5_append_cf1ce [] 60 ?_
  refine At.qK [] [] [] B.1 (x := vK (15 + j)) (fun _ => rfl) hS.1 (s_strN j hj) kJ0_length_8abf5 ln_J5_32 trivial (B.fit (by decide) (by omega) (by omega)) (dcV okJ5_append_cf1ce rfl) ?_
  refine B.run okJ5_append_cf1ce [(14, [0, 1, 2])] 60 ?_
  show At γ σ (0 + 0) (0 + 0) 14 [(0, vR 0 0), (1, vK (15 + j)), (2, vI (nI (sxB j).length))] [] [[aB n m t]]
  refine At.opn (r := 0) (o := 0) rfl rfl rfl rfl fun σ2 ml a hs2 hL hF hnm hm => ?_
  have hq := sb_room_le hm hr
  refine B.runX okJ5_append_cf1ce [(19, [0, 1, 2])] 60 ?_
  refine At.cls (N := 1) (r := 0) (o := 0) (r2 := 1) (nn := n) (m := m) (t := t) rfl rfl hL hF hnm hm (by decide) (Nat.le_refl _) rfl hs2 rfl rfl ?_
  refine B.run okJ5_append_cf1ce [] 60 ?_
  show At γ σ (0 + 0) (0 + 0) 21 [(0, vR 0 0), (1, vK (15 + j)), (2, vI (nI (sxB j).length))] [vI (nI n + nI (sxB j).length), vR 0 0] [[aB n m t]]
  rw [nI_add]
  refine At.qU [0] [vI (nI (n + (sxB j).length))] [] B.1 (c := aB n m t) (C := RJ4) (s_ens n m (n + (sxB j).length) mc ms t hq hr) nJ5_ens im_J5_ensureCapacityInternal_d00df sm_ens (seP B.1 rfl pv_ens im_J5_ensureCapacityInternal_d00df) ln_J5_100 ⟨rfl, trivial⟩ (B.fit (by decide) (by omega) (by omega)) (dcV okJ5_append_cf1ce rfl) rfl ?_
  show At γ σ (0 + 0 + mc) (0 + 0 + ms) 24 [(0, vR 0 0), (1, vK (15 + j)), (2, vI (nI (sxB j).length))] [] [[aB n (sb_cap (n + (sxB j).length) m) t]]
  refine At.opn (r := 0) (o := 0) rfl rfl rfl rfl fun σ3 ml3 a3 hs3 hL3 hF3 hnm3 hm3 => ?_
  refine B.runX okJ5_append_cf1ce [] 60 ?_
  refine At.qU [0, 1] [vI (nI n), vK (15 + j)] [] B.1 (c := aO 1 [vR 1 0, vI 0, vI ml3, vI (nI n)]) (C := RJ4) (s_putS j n (sb_cap (n + (sxB j).length) m) ml3 (nI n) a3 hj hg hm3) nJ5_put im_J5_putStringAt_47b60 sm_put (seP B.1 rfl pv_put im_J5_putStringAt_47b60) ln_J5_208 ⟨rfl, rfl, trivial⟩ (B.fit (by decide) (by omega) (by omega)) (dcV okJ5_append_cf1ce rfl) rcvO ?_
  refine B.runX okJ5_append_cf1ce [(43, [0])] 60 ?_
  refine ⟨trivial, ?_⟩
  refine At.cls (σ := σ) (N := 1) (r := 0) (o := 0) (r2 := 1) (nn := n + (sxB j).length) (m := sb_cap (n + (sxB j).length) m) (t := sb_cat t n (sxC j)) (ml := ml3) (x := va_cpy (fun i => nI (sxC j i)) a3 0 n (sxB j).length) ?_ rfl (sb_latPut hL3 (fun q hq => pk_cpy_out (Or.inl hq)) (fun i hi => ?_)) (sb_fitC (sxF j hj) hF3) (by omega) hm3 (by decide) (Nat.le_refl _) rfl hs3 rfl rfl ?_
  · show some (aO 1 [vR 1 0, vI 0, vI ml3, vI (nI n + nI (sxB j).length)]) = _
    rw [nI_add]
  · refine ⟨(sxb j i hj hi).1, ?_⟩
    rw [pk_cpy_in (by omega) (by omega)]
    show nI (sxC j (0 + (n + i - n))) = _
    rw [show 0 + (n + i - n) = i by omega]
    exact (sxb j i hj hi).2
  · refine B.run okJ5_append_cf1ce [] 60 ?_
    exact ⟨⟨rfl, rfl⟩, by omega, by omega⟩
theorem s_sS (j n m mc ms : Nat) (t : Nat → Nat) (hj : j < 19) (hr : sb_Room (n + (sxB j).length) m mc ms) : Sp 5 mc ms mJ4_append_15ec4 [vR 0 0, vK (15 + j)] [[aB n m t]] (PoQ (some (vR 0 0)) [[aB (n + (sxB j).length) (sb_cap (n + (sxB j).length) m) (sb_cat t n (sxC j))]]) := by
  refine Sp.of' false (fun h => by cases h) (by decide) rfl rfl (Nat.le_of_ble_eq_true rfl) fun γ σ B => ?_
  refine B.run okJ4_append_15ec4 [] 60 ?_
  refine At.qP [0] [vK (15 + j)] [] B.1 (c := aB n m t) (ci := 1) (C := RJ4) rfl (s_aS j n m mc ms t hj hr) nJ5_apS im_J5_append_cf1ce sm_apS su_J4 (by decide) ln_J4_29 ⟨rfl, trivial⟩ (B.fit (by decide) (by omega) (by omega)) (dcI okJ4_append_15ec4 rfl) rfl ?_
  refine B.run okJ4_append_15ec4 [] 60 ?_
  exact ⟨⟨rfl, rfl⟩, by omega, by omega⟩
/-- new StringBuilder() -/
theorem oi_code : Cond.code Lib.objectInit ⟨#[0xb1]⟩ 1 none ∈ GT := mT 41 (by decide +kernel) rfl
theorem oi_inst : Cond.instanceMethod Lib.objectInit ∈ GT := mT 40 (by decide +kernel) rfl
theorem s_aNew : Sp 1 1 16 mJ5_init_d00df [vR 0 0, vI 16] [[aO 1 [vN, vI 0, vI 0, vI 0]]] (fun o h => o = .inl none ∧ h = [[aB 0 16 (fun _ => 0)]]) := by
  refine Sp.of' true (fun _ => rfl) (by decide) rfl rfl (Nat.le_of_ble_eq_true rfl) fun γ σ B => ?_
  refine B.run okJ5_init_d00df [] 60 ?_
  refine At.objI B.1 rfl (mT 234 (by decide +kernel) rfl) oi_inst oi_code (B.fit (by decide) (by omega) (by omega)) (Nat.le_of_ble_eq_true rfl) (dcI okJ5_init_d00df rfl) ?_
  refine At.getZ B.1 (v := vI 1) (sx_cs B.1) rfl cs_J5 (dcG okJ5_init_d00df rfl) ?_
  refine B.run okJ5_init_d00df [] 60 ?_
  refine ⟨fun h => absurd h (by decide), fun _ => ?_⟩
  show At γ σ 0 0 12 [(0, vR 0 0), (1, vI 16)] [vI 16, vR 0 0] [[aO 1 [vN, vI 0, vI 0, vI 0]]]
  refine At.newA (N := 16) (ty := .byte) B.1 rfl (fun _ _ _ => rfl) (mT 258 (by decide +kernel) rfl) (by decide) (by decide) (by decide) (by rw [B.2.2.2.1]; decide) (by rw [B.2.2.2.1]; decide) (dcNew okJ5_init_d00df rfl) rfl rfl rfl fun σ2 hs => ?_
  refine B.runX okJ5_init_d00df [(38, [0])] 60 ?_
  refine ⟨trivial, rfl, ?_⟩
  refine At.cls (σ := σ) (N := 1) (r := 0) (o := 0) (r2 := 1) (nn := 0) (m := 16) (t := fun _ => 0) (ml := 0) (x := fun _ => 0) rfl rfl (fun j hj => absurd hj (Nat.not_lt_zero _)) sb_fit0 (by decide) (by decide) (by decide) (Nat.le_refl _) rfl hs rfl rfl ?_
  refine B.run okJ5_init_d00df [] 60 ?_
  exact ⟨⟨rfl, rfl⟩, by decide, by decide⟩
/-- a constructor that makes no region -/
theorem At.qI {γ : CX} {own : String} {cc : ByteArray} {σ : Nat → Nat → Nat} {k n pc : Nat} {ls : List (Nat × AV)} {st : List AV} {h hC hC2 : AHp} {mc2 ms2 d2 ix na r o : Nat} {M : MR} (P : List Nat) (As rest : List AV) (O : OK γ own cc) (S : Sp d2 mc2 ms2 M (vR r o :: As) hC (PoQ none hC2)) (K : KI M na) (w : Cond.methodLink own ix (mY M) ∈ GT) (F : Fits P P hC h) (hf : Fit γ k n d2 mc2 ms2) (d : decode cc pc = .ok (.invokespecial ix, 3))
    (g : At γ σ (k + mc2) (n + ms2) (pc + 3) ls rest (plug P P hC2 h)) (hn : va_nd P = true := by rfl) (hna : As.length = na := by rfl) (hrw : wsum rest ≤ 8 := by exact Nat.le_of_ble_eq_true rfl) (hst : st = (As.map (ren P)).reverse ++ vR (rn P r) o :: rest := by rfl) (hl : hC2.length = hC.length := by rfl) : At γ σ k n pc ls st h := by
  subst hst
  refine At.run O hn F (fun η H locs lsA hR hS hl => ?_) (kq (v := none) hl g) (fun E h2 hp => by cases hp.1) (a := ((vR r o :: As).map (ren P) |>.map (tr σ (cκ γ))).toArray)
  have hp := PreC_of O hn F (vR r o :: As) hR hS
  have hcb := callB_M O K.1 hf w
  have hz : mZ M = none := K.2.2.2
  rw [hz] at hcb
  refine vx_runI (own := own) (index := ix) (y := mY M) (bytes := mB M) (maxL := mL M) (ws := mW M :: GT) (rm := rmD d2 mc2 ms2) (n := na) (nL := (cC γ).maxLocals) (cc := cc) (Ts := GT) (b := σ (rn P r) o) (As := (As.map (ren P)).map (tr σ (cκ γ)))
    ⟨O.1, O.2.1, rfl, O.2.2.1, O.2.2.2.1⟩ (S γ.2.1 (cD γ) _ _ (cκ γ) H.size O.2.2.2.2.2.2.2.1) ⟨hcb, K.2.2.1, O.2.2.2.1 _ K.2.1⟩ ⟨PreC_blind, hp⟩
    rfl (by rw [List.length_map, List.length_map]; exact hna) hl.1 ?_ ?_ d ⟨hf.2.2.1, hf.2.2.2⟩
  · show ((As.map (ren P)).reverse ++ vR (rn P r) o :: rest).map (tr σ (cκ γ)) = _
    rw [List.map_append, List.map_reverse]
    rfl
  · exact lv_room (Nat.le_trans (wsum_eq rest) hrw)
theorem s_sNew : Sp 2 1 16 mJ4_init_da8c8 [vR 0 0] [[aO 1 [vN, vI 0, vI 0, vI 0]]] (PoV [[aB 0 16 (fun _ => 0)]]) := by
  refine Sp.of' true (fun _ => rfl) (by decide) rfl rfl (Nat.le_of_ble_eq_true rfl) fun γ σ B => ?_
  refine B.run okJ4_init_da8c8 [] 60 ?_
  refine At.qI [0] [vI 16] [] B.1 s_aNew kJ5_init_d00df ln_J4_1 ⟨rfl, trivial⟩ (B.fit (by decide) (by omega) (by omega)) (dcI okJ4_init_da8c8 rfl) ?_
  refine B.run okJ4_init_da8c8 [] 60 ?_
  exact ⟨⟨rfl, rfl⟩, by decide, by decide⟩
