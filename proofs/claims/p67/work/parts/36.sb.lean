/-! ===== StringBuilder: length, room, a letter more, a letter read, emptied ===== -/
theorem nJ5_isL : KN mJ5_isLatin1_aae02 0 := ⟨in_J5, cd_J5_isLatin1_aae02, ⟨by decide +kernel, by decide +kernel, by decide +kernel⟩, by decide⟩
theorem nJ5_len : KN mJ5_length_8abf5 0 := ⟨in_J5, cd_J5_length_8abf5, ⟨by decide +kernel, by decide +kernel, by decide +kernel⟩, by decide⟩
theorem nJ5_ens : KN mJ5_ensureCapacityInternal_d00df 1 := ⟨in_J5, cd_J5_ensureCapacityInternal_d00df, ⟨by decide +kernel, by decide +kernel, by decide +kernel⟩, by decide⟩
theorem nJ5_cap : KN mJ5_newCapacity_0f7a4 1 := ⟨in_J5, cd_J5_newCapacity_0f7a4, ⟨by decide +kernel, by decide +kernel, by decide +kernel⟩, by decide⟩
theorem nJ5_apC : KN mJ5_append_3fe6f 1 := ⟨in_J5, cd_J5_append_3fe6f, ⟨by decide +kernel, by decide +kernel, by decide +kernel⟩, by decide⟩
theorem nJ5_apI : KN mJ5_append_c97b9 1 := ⟨in_J5, cd_J5_append_c97b9, ⟨by decide +kernel, by decide +kernel, by decide +kernel⟩, by decide⟩
theorem nJ5_apS : KN mJ5_append_cf1ce 1 := ⟨in_J5, cd_J5_append_cf1ce, ⟨by decide +kernel, by decide +kernel, by decide +kernel⟩, by decide⟩
theorem nJ5_chr : KN mJ5_charAt_5068e 1 := ⟨in_J5, cd_J5_charAt_5068e, ⟨by decide +kernel, by decide +kernel, by decide +kernel⟩, by decide⟩
theorem nJ5_set : KN mJ5_setLength_d00df 1 := ⟨in_J5, cd_J5_setLength_d00df, ⟨by decide +kernel, by decide +kernel, by decide +kernel⟩, by decide⟩
theorem nJ5_put : KN mJ5_putStringAt_47b60 2 := ⟨in_J5, cd_J5_putStringAt_47b60, ⟨by decide +kernel, by decide +kernel, by decide +kernel⟩, by decide⟩
theorem nJ5_inf : KN mJ5_inflateIfNeededFor_a7421 1 := ⟨in_J5, cd_J5_inflateIfNeededFor_a7421, ⟨by decide +kernel, by decide +kernel, by decide +kernel⟩, by decide⟩
theorem sm_isL : Cond.sameMethod RJ5 RJ5 "isLatin1" "()Z" ∈ GT := mT 740 (by decide +kernel) rfl
theorem sm_len : Cond.sameMethod RJ5 RJ5 "length" "()I" ∈ GT := mT 857 (by decide +kernel) rfl
theorem sm_set : Cond.sameMethod RJ5 RJ5 "setLength" "(I)V" ∈ GT := mT 1442 (by decide +kernel) rfl
theorem sm_apS : Cond.sameMethod RJ5 RJ5 "append" "(Ljava/lang/String;)Ljava/lang/AbstractStringBuilder;" ∈ GT := mT 1443 (by decide +kernel) rfl
theorem sm_ens : Cond.sameMethod RJ5 RJ5 "ensureCapacityInternal" "(I)V" ∈ GT := mT 1445 (by decide +kernel) rfl
theorem sm_cap : Cond.sameMethod RJ5 RJ5 "newCapacity" "(I)I" ∈ GT := mT 1446 (by decide +kernel) rfl
theorem sm_put : Cond.sameMethod RJ5 RJ5 "putStringAt" "(ILjava/lang/String;)V" ∈ GT := mT 1447 (by decide +kernel) rfl
theorem sm_inf : Cond.sameMethod RJ5 RJ5 "inflateIfNeededFor" "(Ljava/lang/String;)V" ∈ GT := mT 1448 (by decide +kernel) rfl
theorem sm_apI : Cond.sameMethod RJ5 RJ5 "append" "(I)Ljava/lang/AbstractStringBuilder;" ∈ GT := mT 1450 (by decide +kernel) rfl
theorem sm_apC : Cond.sameMethod RJ5 RJ5 "append" "(C)Ljava/lang/AbstractStringBuilder;" ∈ GT := mT 1451 (by decide +kernel) rfl
theorem sm_chr : Cond.sameMethod RJ5 RJ5 "charAt" "(I)C" ∈ GT := mT 1453 (by decide +kernel) rfl
theorem se_isL : Cond.selects RJ4 yJ5_isLatin1_aae02 yJ5_isLatin1_aae02 ∈ GT := mT 741 (by decide +kernel) rfl
theorem pv_ens : Cond.privateMethod yJ5_ensureCapacityInternal_d00df ∈ FT := mFT 706 (by decide +kernel) rfl
theorem pv_cap : Cond.privateMethod yJ5_newCapacity_0f7a4 ∈ FT := mFT 710 (by decide +kernel) rfl
theorem pv_put : Cond.privateMethod yJ5_putStringAt_47b60 ∈ FT := mFT 779 (by decide +kernel) rfl
theorem pv_inf : Cond.privateMethod yJ5_inflateIfNeededFor_a7421 ∈ FT := mFT 783 (by decide +kernel) rfl
theorem su_J4 : Cond.superclass RJ4 RJ5 ∈ GT := mT 257 (by decide +kernel) rfl
theorem cs_J5 : Cond.fieldLink RJ5 18 RJ0 "COMPACT_STRINGS" "Z" ∈ GT := mT 235 (by decide +kernel) rfl
theorem sx_cs {γ : CX} {own : String} {cc : ByteArray} (O : OK γ own cc) : va_Z RJ0 "COMPACT_STRINGS" "Z" (.int 1) (cF γ) (cS γ) (cS γ).heap := (sx O).1.2.2.2.2.2.2.2.2.1
theorem seP {γ : CX} {own : String} {cc : ByteArray} (O : OK γ own cc) {y : MethodName} (he : RJ5 = y.cls) (hp : Cond.privateMethod y ∈ FT) (hi : Cond.instanceMethod y ∈ GT) : (Cond.selects RJ4 y y).before (cA γ) (cS γ) = true :=
  sel_priv (O.2.2.2.1 _ se_isL) he (by rw [← he]; exact ⟨by decide, by decide⟩) (FT_hts O hp) (O.2.2.2.1 _ hi)
theorem rcvO {a b c d : AV} : rcv (aO 1 [a, b, c, d]) RJ4 := ⟨TJ4, 4, rfl⟩
theorem s_isL (n m : Nat) (t : Nat → Nat) : Sp 0 0 0 mJ5_isLatin1_aae02 [vR 0 0] [[aB n m t]] (PoI 1 [[aB n m t]]) := by
  refine Sp.of' false (fun h => by cases h) (by decide) rfl rfl (Nat.le_of_ble_eq_true rfl) fun γ σ B => ?_
  refine At.getZ B.1 (v := vI 1) (sx_cs B.1) rfl cs_J5 (dcG okJ5_isLatin1_aae02 rfl) ?_
  refine B.run okJ5_isLatin1_aae02 [(6, [0])] 60 ?_
  refine ⟨fun h => absurd h (by decide), fun _ => ?_⟩
  refine At.opn (r := 0) (o := 0) rfl rfl rfl rfl fun σ2 ml a hs hL hF hnm hm => ?_
  refine B.runX okJ5_isLatin1_aae02 [(18, [0])] 60 ?_
  refine ⟨fun _ => ?_, fun h => absurd rfl h⟩
  refine At.cls (N := 1) (r := 0) (o := 0) (r2 := 1) (nn := n) (m := m) (t := t) rfl rfl hL hF hnm hm (by decide) (Nat.le_refl _) rfl hs rfl rfl ?_
  refine B.run okJ5_isLatin1_aae02 [] 60 ?_
  exact rT (b := true) rfl
theorem s_aLen (n m : Nat) (t : Nat → Nat) : Sp 0 0 0 mJ5_length_8abf5 [vR 0 0] [[aB n m t]] (PoI (nI n) [[aB n m t]]) := by
  refine Sp.of' false (fun h => by cases h) (by decide) rfl rfl (Nat.le_of_ble_eq_true rfl) fun γ σ B => ?_
  refine At.opn (r := 0) (o := 0) rfl rfl rfl rfl fun σ2 ml a hs hL hF hnm hm => ?_
  refine B.runX okJ5_length_8abf5 [(4, [0])] 60 ?_
  refine At.cls (N := 1) (r := 0) (o := 0) (r2 := 1) (nn := n) (m := m) (t := t) rfl rfl hL hF hnm hm (by decide) (Nat.le_refl _) rfl hs rfl rfl ?_
  refine B.run okJ5_length_8abf5 [] 60 ?_
  exact rI rfl
theorem s_sbLen (n m : Nat) (t : Nat → Nat) : Sp 1 0 0 mJ4_length_8abf5 [vR 0 0] [[aB n m t]] (PoI (nI n) [[aB n m t]]) := by
  refine Sp.of' false (fun h => by cases h) (by decide) rfl rfl (Nat.le_of_ble_eq_true rfl) fun γ σ B => ?_
  refine B.run okJ4_length_8abf5 [] 60 ?_
  refine At.qP [0] [] [] B.1 (c := aB n m t) (ci := 1) (C := RJ4) rfl (s_aLen n m t) nJ5_len im_J5_length_8abf5 sm_len su_J4 (by decide) ln_J4_343 ⟨rfl, trivial⟩ (B.fit (by decide) (Nat.zero_le _) (Nat.zero_le _)) (dcI okJ4_length_8abf5 rfl) rfl ?_
  refine B.run okJ4_length_8abf5 [] 60 ?_
  exact rI rfl
theorem s_newLen (x y z : Int32) (h1 : 0 < x + (if y < z then z else y)) (h2 : x + (if y < z then z else y) ≤ 2147483639) : Sp 1 0 0 mJ8_newLength_cabcc [vI x, vI y, vI z] [] (PoI (x + (if y < z then z else y)) []) := by
  refine Sp.of' false (fun h => by cases h) (by decide) rfl rfl (Nat.le_of_ble_eq_true rfl) fun γ σ B => ?_
  refine B.run okJ8_newLength_cabcc [] 60 ?_
  refine At.mmax B.1 kmax ln_J8_194 (B.fit (by decide) (Nat.zero_le _) (Nat.zero_le _)) (Nat.le_of_ble_eq_true rfl) (dcS okJ8_newLength_cabcc rfl) ?_
  refine B.run okJ8_newLength_cabcc [] 60 ?_
  refine ⟨fun h => absurd h1 (Int32.not_lt.mpr h), fun _ => ?_⟩
  refine At.ldcI B.1 (x := 2147483639) (mT 719 (by decide +kernel) rfl) (dcL okJ8_newLength_cabcc rfl) ?_
  refine B.run okJ8_newLength_cabcc [] 60 ?_
  refine ⟨fun h => absurd h2 (Int32.not_le.mpr h), fun _ => ?_⟩
  exact rI rfl
theorem sbcap_eq {m q : Nat} (h : m < q) (hq : q ≤ 65536) : nI m + (if nI q - nI m < nI m + 2 then nI m + 2 else nI q - nI m) = nI (sb_cap q m) := by
  have hc : sb_cap q m = m + (if q - m < m + 2 then m + 2 else q - m) := by
    unfold sb_cap
    rw [if_neg (by omega)]
    split <;> split <;> omega
  rw [hc, show nI q - nI m = nI (q - m) from pk_sub (by omega), show nI m + 2 = nI (m + 2) from nI_add m 2]
  by_cases h2 : q - m < m + 2
  · rw [if_pos h2, if_pos (nI_lt h2 (by omega))]
    exact nI_add _ _
  · rw [if_neg h2, if_neg (nI_nlt (by omega) (by omega))]
    exact nI_add _ _
theorem shr0 (x : Int32) : x >>> ((0 : Int32) &&& 31) = x := sb_shr0 x
theorem shl0 (x : Int32) : x <<< ((0 : Int32) &&& 31) = x := sb_shl0 x
theorem s_newCap (q m : Nat) (nn ml : Int32) (a : Nat → Int32) (h : m < q) (hq : q ≤ 65536) (hc : sb_cap q m ≤ 65536) : Sp 2 0 0 mJ5_newCapacity_0f7a4 [vR 0 0, vI (nI q)] [[aO 1 [vR 1 0, vI 0, vI ml, vI nn]], [.inl (.byte, m, .inl a)]] (PoI (nI (sb_cap q m)) [[aO 1 [vR 1 0, vI 0, vI ml, vI nn]], [.inl (.byte, m, .inl a)]]) := by
  have hg := sb_cap_ge q m
  have e := sbcap_eq h hq
  have l1 : (0 : Int32) < nI (sb_cap q m) := by
    rw [← nI_0]; exact nI_lt (by omega) (by omega)
  have l2 : nI (sb_cap q m) ≤ 2147483639 := by
    rw [show (2147483639 : Int32) = nI 2147483639 from rfl]; exact nI_le (by omega) (by decide)
  refine Sp.of' false (fun h => by cases h) (by decide) rfl rfl (Nat.le_of_ble_eq_true rfl) fun γ σ B => ?_
  refine B.run okJ5_newCapacity_0f7a4 [] 60 ?_
  show At γ σ 0 0 29 _ _ _
  rw [shl0, shl0]
  refine At.qS [] [vI (nI m), vI (nI q - nI m), vI (nI m + 2)] [] B.1 (s_newLen (nI m) (nI q - nI m) (nI m + 2) (by rw [e]; exact l1) (by rw [e]; exact l2)) kJ8_newLength_cabcc ln_J5_114 trivial (B.fit (by decide) (Nat.zero_le _) (Nat.zero_le _)) (dcS okJ5_newCapacity_0f7a4 rfl) ?_
  rw [e]
  refine B.run okJ5_newCapacity_0f7a4 [] 60 ?_
  refine At.ldcI B.1 (x := 2147483647) (mT 723 (by decide +kernel) rfl) (dcL okJ5_newCapacity_0f7a4 rfl) ?_
  refine B.run okJ5_newCapacity_0f7a4 [] 60 ?_
  refine ⟨fun z => ?_, fun _ => ?_⟩
  · exact absurd ((nI_eq (by omega) (by decide)).mp (show nI (sb_cap q m) = nI 2147483647 from z)) (by omega)
  · exact rI (shr0 _)
theorem s_copyOf (m q : Nat) (a : Nat → Int32) (h : m < q) (hq : q ≤ 65536) (ha : sb_Fit a) : Sp 1 1 q mJ7_copyOf_9075b [vR 0 0, vI (nI q)] [[.inl (.byte, m, .inl a)]] (PoQ (some (vR 1 0)) [[.inl (.byte, m, .inl a)], [.inl (.byte, q, .inl (va_cpy a (fun _ => 0) 0 0 m))]]) := by
  refine Sp.of' false (fun h => by cases h) (by decide) rfl rfl (Nat.le_of_ble_eq_true rfl) fun γ σ B => ?_
  have hc : (nI q).toNatClampNeg = q := nI_clamp (by omega)
  have hm : (nI m).toNatClampNeg = m := nI_clamp (by omega)
  refine B.run okJ7_copyOf_9075b [] 60 ?_
  refine ⟨fun z => absurd ((nI_eq (by omega) (by omega)).mp z) (by omega), fun _ => ?_⟩
  show At γ σ 0 0 15 [(0, vR 0 0), (1, vI (nI q))] [vI (nI q)] [[.inl (.byte, m, .inl a)]]
  refine At.newA (N := q) (ty := .byte) B.1 rfl (fun _ _ _ => rfl) (mT 258 (by decide +kernel) rfl) (nI_pos (by omega)) hc (by show q * 1 ≤ _; omega) (by rw [B.2.2.2.1]; exact Nat.le_refl _) (by rw [B.2.2.2.1]; show 0 + q ≤ q; omega) (dcNew okJ7_copyOf_9075b rfl) rfl rfl rfl fun σ2 hs => ?_
  refine B.runX okJ7_copyOf_9075b [] 60 ?_
  refine At.mmin B.1 kmin ln_J7_304 (B.fit (by decide) (by omega) (by omega)) (Nat.le_of_ble_eq_true rfl) (dcS okJ7_copyOf_9075b rfl) ?_
  rw [if_neg (nI_nlt (by omega) (by omega))]
  refine At.copyb B.1 (mT 737 (by decide +kernel) rfl) (r0 := 0) (o0 := 0) (r1 := 1) (o1 := 0) (n0 := m) (n1 := q) (f := a) (g := fun _ => 0) rfl rfl ha (by decide) (by decide) (nI_pos (by omega)) (by rw [hm]; show 0 + m ≤ m; omega) (by rw [hm]; show 0 + m ≤ q; omega) (B.fit (by decide) (by omega) (by omega)) (Nat.le_of_ble_eq_true rfl) (dcS okJ7_copyOf_9075b rfl) ?_
  rw [hm]
  refine B.runN hs okJ7_copyOf_9075b [] 60 ?_
  exact ⟨⟨rfl, rfl⟩, by omega, by omega, by show 1 < 2; omega⟩
theorem s_ens (n m q mc ms : Nat) (t : Nat → Nat) (hq : q ≤ 65536) (hr : sb_Room q m mc ms) : Sp 3 mc ms mJ5_ensureCapacityInternal_d00df [vR 0 0, vI (nI q)] [[aB n m t]] (PoV [[aB n (sb_cap q m) t]]) := by
  refine Sp.of' false (fun h => by cases h) (by decide) rfl rfl (Nat.le_of_ble_eq_true rfl) fun γ σ B => ?_
  refine At.opn (r := 0) (o := 0) rfl rfl rfl rfl fun σ2 ml a hs hL hF hnm hm => ?_
  have e1 : (nI q - nI m).toInt = (q : Int) - m := pk_sub_toInt (by omega) (by omega)
  refine B.runX okJ5_ensureCapacityInternal_d00df [(38, [0])] 60 ?_
  refine ⟨fun z => ?_, fun z => ?_⟩
  · have z : nI q - nI m >>> ((0 : Int32) &&& 31) ≤ 0 := z
    rw [shr0] at z
    have hle : q ≤ m := by rw [Int32.le_iff_toInt_le, e1, Int32.toInt_zero] at z; omega
    refine At.cls (N := 1) (r := 0) (o := 0) (r2 := 1) (nn := n) (m := m) (t := t) rfl rfl hL hF hnm hm (by decide) (Nat.le_refl _) rfl hs rfl rfl ?_
    have ec : sb_cap q m = m := by unfold sb_cap; rw [if_pos hle]
    refine B.run okJ5_ensureCapacityInternal_d00df [] 60 ?_
    exact ⟨⟨rfl, by rw [ec]; rfl⟩, Nat.zero_le _, Nat.zero_le _⟩
  · have z : ¬ nI q - nI m >>> ((0 : Int32) &&& 31) ≤ 0 := z
    rw [shr0] at z
    have hlt : m < q := by rw [Int32.le_iff_toInt_le, e1, Int32.toInt_zero] at z; omega
    obtain ⟨r1, r2, r3⟩ := hr.resolve_left (by omega)
    have hg := sb_cap_ge q m
    show At γ σ2 0 0 24 [(0, vR 0 0), (1, vI (nI q)), (2, vI (nI m >>> ((0 : Int32) &&& 31)))] [vI (nI q), vR 0 0, vR 1 0, vR 0 0] [[aO 1 [vR 1 0, vI 0, vI ml, vI (nI n)]], [.inl (.byte, m, .inl a)]]
    refine At.qU [0, 1] [vI (nI q)] [vR 1 0, vR 0 0] B.1 (c := aO 1 [vR 1 0, vI 0, vI ml, vI (nI n)]) (C := RJ4) (s_newCap q m (nI n) ml a hlt hq r3) nJ5_cap im_J5_newCapacity_0f7a4 sm_cap (seP B.1 rfl pv_cap im_J5_newCapacity_0f7a4) ln_J5_104 ⟨rfl, rfl, trivial⟩ (B.fit (by decide) (Nat.zero_le _) (Nat.zero_le _)) (dcV okJ5_ensureCapacityInternal_d00df rfl) rcvO ?_
    refine B.runX okJ5_ensureCapacityInternal_d00df [] 60 ?_
    show At γ σ2 0 0 32 [(0, vR 0 0), (1, vI (nI q)), (2, vI (nI m >>> ((0 : Int32) &&& 31)))] [vI (nI (sb_cap q m) <<< ((0 : Int32) &&& 31)), vR 1 0, vR 0 0] [[aO 1 [vR 1 0, vI 0, vI ml, vI (nI n)]], [.inl (.byte, m, .inl a)]]
    rw [shl0]
    refine At.qSG [1] 1 [vR 0 0, vI (nI (sb_cap q m))] [vR 0 0] B.1 (s_copyOf m (sb_cap q m) a (by omega) r3 hF) kJ7_copyOf_9075b ln_J5_108 ⟨rfl, trivial⟩ rfl rfl rfl rfl (B.fit (by decide) (by omega) (by omega)) (dcS okJ5_ensureCapacityInternal_d00df rfl) rfl rfl rfl (fun σ3 hs3 => ?_)
    refine B.runX okJ5_ensureCapacityInternal_d00df [(38, [0])] 60 ?_
    refine ⟨trivial, ?_⟩
    refine At.cls (σ := σ) (N := 1) (r := 0) (o := 0) (r2 := 2) (nn := n) (m := sb_cap q m) (t := t) (ml := ml) (x := va_cpy a (fun _ => 0) 0 0 m) rfl rfl (sb_latKeep hL fun j hj => sb_cpy0 (by omega)) (sb_fitC hF sb_fit0) (by omega) r3 (by decide) (by decide) rfl (fun r hr o => ?_) rfl rfl ?_
    · rw [hs3 r (by show r < 2; omega) o]
      exact hs r hr o
    · refine B.run okJ5_ensureCapacityInternal_d00df [] 60 ?_
      exact ⟨⟨rfl, rfl⟩, by omega, by omega⟩
