/-! ===== StringBuilder: a letter more, a letter read, emptied ===== -/
/-- what a builder's cell says of its text -/
theorem At.sbF {γ : CX} {σ : Nat → Nat → Nat} {k n pc : Nat} {ls : List (Nat × AV)} {st : List AV} {h : AHp} {r o nn m : Nat} {t : Nat → Nat} (hg : hget h r o = some (aB nn m t)) (g : (∀ j, j < nn → t j < 256) → nn ≤ m → m ≤ 65536 → At γ σ k n pc ls st h) : At γ σ k n pc ls st h := fun η H locs lsA a b c => by
  obtain ⟨_, ⟨cA, x, _, _, _, h5, _⟩, h7, h8⟩ := a.1 r o _ hg
  exact g (fun j hj => (h5 j hj).1) h7 h8 η H locs lsA a b c
theorem s_canEnc (c : Nat) (hc : c < 256) : Sp 0 0 0 mJ1_canEncode_fc78d [vI (nI c)] [] (PoI 1 []) := by
  refine Sp.of' false (fun h => by cases h) (by decide) rfl rfl (Nat.le_of_ble_eq_true rfl) fun γ σ B => ?_
  refine B.run okJ1_canEncode_fc78d [] 60 ?_
  refine ⟨fun z => ?_, fun _ => ?_⟩
  · exact absurd z (by rw [show (255 : Int32) = nI 255 from rfl]; exact nI_nlt (by omega) (by omega))
  · exact rT (b := true) rfl
theorem i8i8 (z : Int32) : z.toInt8.toInt32.toInt8.toInt32 = z.toInt8.toInt32 := by
  have h := pk_nb z
  have h2 : narrow .byte (.int z.toInt8.toInt32) = .int z.toInt8.toInt32.toInt8.toInt32 := rfl
  rw [h2] at h
  exact Value.int.inj h
theorem sb_room_le {q m mc ms : Nat} (hm : m ≤ 65536) (hr : sb_Room q m mc ms) : q ≤ 65536 := Nat.le_trans (sb_cap_ge q m) (sb_cap_le hm hr)
theorem s_aC (n m c mc ms : Nat) (t : Nat → Nat) (hc : c < 256) (hn : n < 65536) (hr : sb_Room (n + 1) m mc ms) : Sp 4 mc ms mJ5_append_3fe6f [vR 0 0, vI (nI c)] [[aB n m t]] (PoQ (some (vR 0 0)) [[aB (n + 1) (sb_cap (n + 1) m) (sb_cat t n (fun _ => c))]]) := by
  refine Sp.of' false (fun h => by cases h) (by decide) rfl rfl (Nat.le_of_ble_eq_true rfl) fun γ σ B => ?_
  have hg := sb_cap_ge (n + 1) m
  refine At.opn (r := 0) (o := 0) rfl rfl rfl rfl fun σ2 ml a hs hL hF hnm hm => ?_
  refine B.runX okJ5_append_3fe6f [(7, [0, 1])] 60 ?_
  refine At.cls (N := 1) (r := 0) (o := 0) (r2 := 1) (nn := n) (m := m) (t := t) rfl rfl hL hF hnm hm (by decide) (Nat.le_refl _) rfl hs rfl rfl ?_
  show At γ σ 0 0 7 [(0, vR 0 0), (1, vI (nI c))] [vI (nI n + 1), vR 0 0] [[aB n m t]]
  rw [nI_1]
  refine At.qU [0] [vI (nI (n + 1))] [] B.1 (c := aB n m t) (C := RJ4) (s_ens n m (n + 1) mc ms t (sb_room_le hm hr) hr) nJ5_ens im_J5_ensureCapacityInternal_d00df sm_ens (seP B.1 rfl pv_ens im_J5_ensureCapacityInternal_d00df) ln_J5_100 ⟨rfl, trivial⟩ (B.fit (by decide) (by omega) (by omega)) (dcV okJ5_append_3fe6f rfl) rfl ?_
  show At γ σ (0 + mc) (0 + ms) 10 [(0, vR 0 0), (1, vI (nI c))] [] [[aB n (sb_cap (n + 1) m) t]]
  refine B.run okJ5_append_3fe6f [] 60 ?_
  refine At.qU [0] [] [] B.1 (c := aB n (sb_cap (n + 1) m) t) (C := RJ4) (s_isL n (sb_cap (n + 1) m) t) nJ5_isL im_J5_isLatin1_aae02 sm_isL (B.1.2.2.2.1 _ se_isL) ln_J5_83 ⟨rfl, trivial⟩ (B.fit (by decide) (by omega) (by omega)) (dcV okJ5_append_3fe6f rfl) rfl ?_
  refine B.run okJ5_append_3fe6f [] 60 ?_
  refine ⟨fun h => absurd h (by decide), fun _ => ?_⟩
  refine At.qS [] [vI (nI c)] [] B.1 (s_canEnc c hc) kJ1_canEncode_fc78d ln_J5_191 trivial (B.fit (by decide) (by omega) (by omega)) (dcS okJ5_append_3fe6f rfl) ?_
  refine B.run okJ5_append_3fe6f [(24, [0, 1])] 60 ?_
  refine ⟨fun h => absurd h (by decide), fun _ => ?_⟩
  show At γ σ (0 + mc + 0 + 0) (0 + ms + 0 + 0) 24 [(0, vR 0 0), (1, vI (nI c))] [] [[aB n (sb_cap (n + 1) m) t]]
  refine At.opn (r := 0) (o := 0) rfl rfl rfl rfl fun σ3 ml3 a3 hs3 hL3 hF3 hnm3 hm3 => ?_
  refine B.runX okJ5_append_3fe6f [(75, [0, 1])] 60 ?_
  refine ⟨trivial, vp_in_nI (by omega) (by omega), ?_⟩
  rw [nI_clamp (by omega)]
  refine At.cls (σ := σ) (N := 1) (r := 0) (o := 0) (r2 := 1) (nn := n + 1) (m := sb_cap (n + 1) m) (t := sb_cat t n (fun _ => c)) (ml := ml3) (x := upd a3 n (sb_b c)) ?_ ?_ (sb_latPut hL3 (fun j hj => pk_un (by omega)) (fun i hi => ?_)) (sb_fitU hF3 (sb_fitB c)) (by omega) hm3 (by decide) (Nat.le_refl _) rfl hs3 rfl rfl ?_
  · show some (aO 1 [vR 1 0, vI 0, vI ml3, vI (nI n + 1)]) = _
    rw [nI_1]
  · show some (Sum.inl (FieldType.byte, sb_cap (n + 1) m, Sum.inl (upd a3 n (nI c).toInt8.toInt32.toInt8.toInt32))) = _
    rw [i8i8]
    rfl
  · obtain rfl : i = 0 := by omega
    exact ⟨hc, pk_us⟩
  · refine B.run okJ5_append_3fe6f [] 60 ?_
    exact ⟨⟨rfl, rfl⟩, by omega, by omega⟩
theorem s_sC (n m c mc ms : Nat) (t : Nat → Nat) (hc : c < 256) (hn : n < 65536) (hr : sb_Room (n + 1) m mc ms) : Sp 5 mc ms mJ4_append_cf468 [vR 0 0, vI (nI c)] [[aB n m t]] (PoQ (some (vR 0 0)) [[aB (n + 1) (sb_cap (n + 1) m) (sb_cat t n (fun _ => c))]]) := by
  refine Sp.of' false (fun h => by cases h) (by decide) rfl rfl (Nat.le_of_ble_eq_true rfl) fun γ σ B => ?_
  refine B.run okJ4_append_cf468 [] 60 ?_
  refine At.qP [0] [vI (nI c)] [] B.1 (c := aB n m t) (ci := 1) (C := RJ4) rfl (s_aC n m c mc ms t hc hn hr) nJ5_apC im_J5_append_3fe6f sm_apC su_J4 (by decide) ln_J4_50 ⟨rfl, trivial⟩ (B.fit (by decide) (by omega) (by omega)) (dcI okJ4_append_cf468 rfl) rfl ?_
  refine B.run okJ4_append_cf468 [] 60 ?_
  exact ⟨⟨rfl, rfl⟩, by omega, by omega⟩
theorem s_chk3 (i n : Nat) (x : AV) (hx : is2 x = false) (hi : i < n) (hn : n < 2 ^ 31) : Sp 0 0 0 mJ3_checkIndex_8e157 [vI (nI i), vI (nI n), x] [] (PoI (nI i) []) := by
  refine Sp.of' false (fun h => by cases h) (by decide) rfl (by simp [hx]; exact ⟨rfl, rfl⟩) (Nat.le_of_ble_eq_true rfl) fun γ σ B => ?_
  refine B.run okJ3_checkIndex_8e157 [] 60 ?_
  refine ⟨fun h => absurd h (nI_pos (by omega)), fun _ => ⟨fun _ => ?_, fun h => absurd (nI_lt hi hn) h⟩⟩
  exact rI rfl
theorem s_chk (i n : Nat) (hi : i < n) (hn : n < 2 ^ 31) : Sp 1 0 0 mJ0_checkIndex_df160 [vI (nI i), vI (nI n)] [] (PoV []) := by
  refine Sp.of' false (fun h => by cases h) (by decide) rfl rfl (Nat.le_of_ble_eq_true rfl) fun γ σ B => ?_
  refine B.run okJ0_checkIndex_df160 [] 60 ?_
  have hq := (sx B.1).1.2.2.2.2.2.2.2.2.2
  have go : ∀ (x : AV) (w : Value), va_Z RJ3 "SIOOBE_FORMATTER" "Ljava/util/function/BiFunction;" w (cF γ) (cS γ) (cS γ).heap → tr σ (cκ γ) x = w → is2 x = false → (ren [] x = x) → At γ σ 0 0 2 [(0, vI (nI i)), (1, vI (nI n))] [vI (nI n), vI (nI i)] [] := by
    intro x w hZ hv h2 hren
    refine At.getZ B.1 (v := x) hZ hv (mT 755 (by decide +kernel) rfl) (dcG okJ0_checkIndex_df160 rfl) ?_
    refine At.qS [] [vI (nI i), vI (nI n), x] [] B.1 (s_chk3 i n x h2 hi hn) kJ3_checkIndex_8e157 ln_J0_1059 trivial (B.fit (by decide) (by omega) (by omega)) (dcS okJ0_checkIndex_df160 rfl) ?_ (hst := by show [x, vI (nI n), vI (nI i)] = [ren [] x, vI (nI n), vI (nI i)] ++ []; rw [hren]; rfl)
    refine B.run okJ0_checkIndex_df160 [] 60 ?_
    exact rV
  rcases hq with hq | ⟨t, hq⟩
  · exact go vN .null hq rfl rfl rfl
  · exact go (.inl (.ref t)) (.ref t) hq rfl rfl rfl
theorem s_aChr (n m i : Nat) (t : Nat → Nat) (hi : i < n) : Sp 2 0 0 mJ5_charAt_5068e [vR 0 0, vI (nI i)] [[aB n m t]] (PoI (nI (t i)) [[aB n m t]]) := by
  refine Sp.of' false (fun h => by cases h) (by decide) rfl rfl (Nat.le_of_ble_eq_true rfl) fun γ σ B => ?_
  refine At.opn (r := 0) (o := 0) rfl rfl rfl rfl fun σ2 ml a hs hL hF hnm hm => ?_
  obtain ⟨q1, q2⟩ := hL i hi
  obtain ⟨b1, b2, b3⟩ := sb_byte (t i) q1
  refine B.runX okJ5_charAt_5068e [] 60 ?_
  show At γ σ2 0 0 18 [(0, vR 0 0), (1, vI (nI i)), (2, vI 0), (3, vR 1 0)] [vI (nI m >>> ((0 : Int32) &&& 31)), vI (nI n)] [[aO 1 [vR 1 0, vI 0, vI ml, vI (nI n)]], [.inl (.byte, m, .inl a)]]
  rw [shr0]
  refine At.mmin B.1 kmin ln_J5_138 (B.fit (by decide) (by omega) (by omega)) (Nat.le_of_ble_eq_true rfl) (dcS okJ5_charAt_5068e rfl) ?_
  rw [if_neg (nI_nlt hnm (by omega))]
  refine B.runX okJ5_charAt_5068e [] 60 ?_
  refine At.qS [] [vI (nI i), vI (nI n)] [] B.1 (s_chk i n hi (by omega)) kJ0_checkIndex_df160 ln_J5_144 trivial (B.fit (by decide) (by omega) (by omega)) (dcS okJ5_charAt_5068e rfl) ?_
  refine B.runX okJ5_charAt_5068e [(41, [0])] 60 ?_
  refine ⟨fun _ => ?_, fun h => absurd rfl h⟩
  refine ⟨vp_in_nI (by omega) (by omega), ?_⟩
  show At γ σ2 _ _ 41 [(0, vR 0 0)] [vI ((a (nI i).toNatClampNeg &&& 255).toUInt32 % 65536).toInt32] _
  rw [nI_clamp (by omega), q2, b1, b2]
  refine At.cls (σ := σ) (N := 1) (r := 0) (o := 0) (r2 := 1) (nn := n) (m := m) (t := t) rfl rfl hL hF hnm hm (by decide) (Nat.le_refl _) rfl hs rfl rfl ?_
  refine B.run okJ5_charAt_5068e [] 60 ?_
  exact ⟨(pk_charN (by omega)).1, rI rfl⟩
theorem s_sChr (n m i : Nat) (t : Nat → Nat) (hi : i < n) : Sp 3 0 0 mJ4_charAt_5068e [vR 0 0, vI (nI i)] [[aB n m t]] (PoI (nI (t i)) [[aB n m t]]) := by
  refine Sp.of' false (fun h => by cases h) (by decide) rfl rfl (Nat.le_of_ble_eq_true rfl) fun γ σ B => ?_
  refine At.sbF (r := 0) (o := 0) rfl fun ht _ _ => ?_
  refine B.run okJ4_charAt_5068e [] 60 ?_
  refine At.qP [0] [vI (nI i)] [] B.1 (c := aB n m t) (ci := 1) (C := RJ4) rfl (s_aChr n m i t hi) nJ5_chr im_J5_charAt_5068e sm_chr su_J4 (by decide) ln_J4_329 ⟨rfl, trivial⟩ (B.fit (by decide) (by omega) (by omega)) (dcI okJ4_charAt_5068e rfl) rfl ?_
  refine B.run okJ4_charAt_5068e [] 60 ?_
  exact ⟨(pk_charN (Nat.lt_trans (ht i hi) (by decide))).1, rI rfl⟩
theorem s_aSet (n m : Nat) (t : Nat → Nat) : Sp 4 0 0 mJ5_setLength_d00df [vR 0 0, vI (nI 0)] [[aB n m t]] (PoV [[aB 0 m t]]) := by
  refine Sp.of' false (fun h => by cases h) (by decide) rfl rfl (Nat.le_of_ble_eq_true rfl) fun γ σ B => ?_
  refine B.run okJ5_setLength_d00df [] 60 ?_
  refine ⟨fun _ => ?_, fun h => absurd (by decide) h⟩
  refine At.qU [0] [vI (nI 0)] [] B.1 (c := aB n m t) (C := RJ4) (s_ens n m 0 0 0 t (by omega) (Or.inl (Nat.zero_le _))) nJ5_ens im_J5_ensureCapacityInternal_d00df sm_ens (seP B.1 rfl pv_ens im_J5_ensureCapacityInternal_d00df) ln_J5_100 ⟨rfl, trivial⟩ (B.fit (by decide) (by omega) (by omega)) (dcV okJ5_setLength_d00df rfl) rfl ?_
  have ec : sb_cap 0 m = m := by unfold sb_cap; rw [if_pos (Nat.zero_le _)]
  rw [ec]
  show At γ σ 0 0 18 [(0, vR 0 0), (1, vI (nI 0))] [] [[aB n m t]]
  refine At.opn (r := 0) (o := 0) rfl rfl rfl rfl fun σ2 ml a hs hL hF hnm hm => ?_
  have fin : ∀ ml2 : Int32, At γ σ2 0 0 81 [(0, vR 0 0)] [] [[aO 1 [vR 1 0, vI 0, vI ml2, vI (nI 0)]], [.inl (.byte, m, .inl a)]] := by
    intro ml2
    refine At.cls (σ := σ) (N := 1) (r := 0) (o := 0) (r2 := 1) (nn := 0) (m := m) (t := t) (ml := ml2) (x := a) rfl rfl (fun j hj => absurd hj (Nat.not_lt_zero _)) hF (Nat.zero_le _) hm (by decide) (Nat.le_refl _) rfl hs rfl rfl ?_
    refine B.run okJ5_setLength_d00df [] 60 ?_
    exact rV
  refine B.runX okJ5_setLength_d00df [(81, [0])] 60 ?_
  refine ⟨fun _ => ?_, fun h => absurd (nI_le (Nat.zero_le n) (by omega)) h⟩
  refine ⟨fun _ => ?_, fun _ => ?_⟩
  · exact ⟨trivial, fin ml⟩
  · exact ⟨Or.inr rfl, trivial, fin 1⟩
theorem s_sSet (n m : Nat) (t : Nat → Nat) : Sp 5 0 0 mJ4_setLength_d00df [vR 0 0, vI (nI 0)] [[aB n m t]] (PoV [[aB 0 m t]]) := by
  refine Sp.of' false (fun h => by cases h) (by decide) rfl rfl (Nat.le_of_ble_eq_true rfl) fun γ σ B => ?_
  refine B.run okJ4_setLength_d00df [] 60 ?_
  refine At.qP [0] [vI (nI 0)] [] B.1 (c := aB n m t) (ci := 1) (C := RJ4) rfl (s_aSet n m t) nJ5_set im_J5_setLength_d00df sm_set su_J4 (by decide) ln_J4_333 ⟨rfl, trivial⟩ (B.fit (by decide) (by omega) (by omega)) (dcI okJ4_setLength_d00df rfl) rfl ?_
  refine B.run okJ4_setLength_d00df [] 60 ?_
  exact rV
