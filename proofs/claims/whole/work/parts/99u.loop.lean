/-! ===== the law's loop ===== -/
theorem all64 {P : Nat → Prop} (h0 : P 0) (h1 : P 1) (h2 : P 2) (h3 : P 3) (h4 : P 4) (h5 : P 5) (h6 : P 6) (h7 : P 7) (h8 : P 8) (h9 : P 9) (h10 : P 10) (h11 : P 11) (h12 : P 12) (h13 : P 13) (h14 : P 14) (h15 : P 15) (h16 : P 16) (h17 : P 17) (h18 : P 18) (h19 : P 19) (h20 : P 20) (h21 : P 21) (h22 : P 22) (h23 : P 23) (h24 : P 24) (h25 : P 25) (h26 : P 26) (h27 : P 27) (h28 : P 28) (h29 : P 29) (h30 : P 30) (h31 : P 31) (h32 : P 32) (h33 : P 33) (h34 : P 34) (h35 : P 35) (h36 : P 36) (h37 : P 37) (h38 : P 38) (h39 : P 39) (h40 : P 40) (h41 : P 41) (h42 : P 42) (h43 : P 43) (h44 : P 44) (h45 : P 45) (h46 : P 46) (h47 : P 47) (h48 : P 48) (h49 : P 49) (h50 : P 50) (h51 : P 51) (h52 : P 52) (h53 : P 53) (h54 : P 54) (h55 : P 55) (h56 : P 56) (h57 : P 57) (h58 : P 58) (h59 : P 59) (h60 : P 60) (h61 : P 61) (h62 : P 62) (h63 : P 63) : ∀ j, j < 64 → P j := fun j hj => match j, hj with
  | 0, _ => h0
  | 1, _ => h1
  | 2, _ => h2
  | 3, _ => h3
  | 4, _ => h4
  | 5, _ => h5
  | 6, _ => h6
  | 7, _ => h7
  | 8, _ => h8
  | 9, _ => h9
  | 10, _ => h10
  | 11, _ => h11
  | 12, _ => h12
  | 13, _ => h13
  | 14, _ => h14
  | 15, _ => h15
  | 16, _ => h16
  | 17, _ => h17
  | 18, _ => h18
  | 19, _ => h19
  | 20, _ => h20
  | 21, _ => h21
  | 22, _ => h22
  | 23, _ => h23
  | 24, _ => h24
  | 25, _ => h25
  | 26, _ => h26
  | 27, _ => h27
  | 28, _ => h28
  | 29, _ => h29
  | 30, _ => h30
  | 31, _ => h31
  | 32, _ => h32
  | 33, _ => h33
  | 34, _ => h34
  | 35, _ => h35
  | 36, _ => h36
  | 37, _ => h37
  | 38, _ => h38
  | 39, _ => h39
  | 40, _ => h40
  | 41, _ => h41
  | 42, _ => h42
  | 43, _ => h43
  | 44, _ => h44
  | 45, _ => h45
  | 46, _ => h46
  | 47, _ => h47
  | 48, _ => h48
  | 49, _ => h49
  | 50, _ => h50
  | 51, _ => h51
  | 52, _ => h52
  | 53, _ => h53
  | 54, _ => h54
  | 55, _ => h55
  | 56, _ => h56
  | 57, _ => h57
  | 58, _ => h58
  | 59, _ => h59
  | 60, _ => h60
  | 61, _ => h61
  | 62, _ => h62
  | 63, _ => h63
  | k + 64, hj => absurd hj (by omega)
theorem At.tsw {γ : CX} {own : String} {cc : ByteArray} {σ : Nat → Nat → Nat} {k n pc : Nat} {ls : List (Nat × AV)} {st : List AV} {h : AHp} (O : OK γ own cc) {dflt lo hi : Int} {offs : Array Int} {len : Nat} {x : Int32} {off : Int} {tgt : Nat} (d : decode cc pc = .ok (.tableswitch dflt lo hi offs, len)) (h1 : ¬ x.toInt < lo) (h2 : ¬ hi < x.toInt) (ho : offs[(x.toInt - lo).toNat]? = some off) (ht : (pc : Int) + off = (tgt : Int)) (g : At γ σ k n tgt ls st h) : At γ σ k n pc ls (vI x :: st) h := fun η H locs lsA a b c => lv_tableIn O.1 O.2.1 d h1 h2 ho ht (g η H locs lsA a b c)
theorem and63 (x : Int32) : ∃ j, j < 64 ∧ x &&& 63 = nI j := by
  refine ⟨x.toBitVec.toNat % 64, Nat.mod_lt _ (by decide), ?_⟩
  apply Int32.toBitVec_inj.mp
  apply BitVec.eq_of_toNat_eq
  have e1 : (x &&& 63).toBitVec = x.toBitVec &&& 63#32 := rfl
  rw [e1, BitVec.toNat_and]
  show x.toBitVec.toNat &&& (2 ^ 6 - 1) = (nI (x.toBitVec.toNat % 64)).toBitVec.toNat
  rw [Nat.and_two_pow_sub_one_eq_mod]
  have e2 : (nI (x.toBitVec.toNat % 64)).toBitVec.toNat = (x.toBitVec.toNat % 64) % 2 ^ 32 := rfl
  rw [e2]
  omega
def tsO : Array Int := #[272, 340, 408, 464, 532, 600, 668, 748, 804, 860, 916, 984, 1040, 1096, 1109, 1122, 1178, 1234, 1290, 1346, 1402, 1465, 1521, 1577, 1590, 1646, 1702, 1758, 1802, 1815, 1828, 1841, 1854, 1867, 1880, 1893, 1949, 2005, 2061, 2117, 2161, 2205, 2261, 2305, 2361, 2374, 2418, 2474, 2530, 2544, 2609, 2675, 2688, 2744, 2800, 2813, 2869, 2927, 2971, 3015, 3059, 3072, 3116, 3129]
theorem dc_ts : ∃ len, decode code 44 = .ok (.tableswitch 3173 0 63 tsO, len) := by
  obtain ⟨e, h0, e2, h1, -⟩ := okL_dec (pc := 44) (i := .tableswitch 3173 0 63 tsO) okK_0b rfl
  obtain ⟨len, h3, -⟩ := okD_spec h1
  rw [e2, h0] at h3
  exact ⟨len, h3⟩
theorem end_lt {L i : Nat} (hL : L ≤ 2048) (hi : 4 * i ≤ 4096) : (nI L - 4 < nI (4 * i)) ↔ L < 4 * i + 4 := by
  rw [Int32.lt_iff_toInt_lt, Int32.toInt_sub, nI_toInt (by omega), nI_toInt (by omega), show (4 : Int32).toInt = 4 from rfl, Int.bmod_eq_of_le (by omega) (by omega)]
  omega
theorem d_end : decode code 3223 = .ok (.iconst 1, 1) := by
  obtain ⟨e, h0, e2, h1, -⟩ := okL_dec (pc := 3223) (i := .iconst 1) okK_0c rfl
  obtain ⟨len, h3, h4⟩ := okD_spec h1
  rw [e2, h0] at h3
  rw [e2] at h4
  rw [h3, beq_iff_eq.mp h4]; rfl
theorem d_ret : decode code 3224 = .ok (.ireturn, 1) := dc1L (pc := 3224) okK_0c rfl (by simp [L1])
/-- from the loop's head on, the script's rest carried out; end: what is due at 3224 -/
theorem law_loop {γ : CX} {σ : Nat → Nat → Nat} {b L : Nat} {xs : Nat → Int32} (X : LX γ b L xs) (fin : ∀ (k n : Nat) (ls : List (Nat × AV)) (h : AHp), k ≤ 603072 → n ≤ 7198826 → At γ σ k n 3224 ls [vI 1] h) :
    ∀ (r i : Nat), 4 * i + 4 * r ≤ L → L < 4 * i + 4 * r + 4 → ∀ (K : KS') (m : MS) (o : Nat → Int64) (d : Nat → UInt64), EQ (8 * i) K m → At γ σ (1000 + 12 * i) (100000 + 2000 * i) 28 (lsL b i) [] (LH K m o d) := by
  have hL := X.2.2.2.2.2.2
  intro r
  induction r with
  | zero =>
    intro i h1 h2 K m o d h
    refine X.run okK_0b [] 60 ?_
    refine X.slen (dc1L okK_0b rfl (by simp [L1])) ?_
    refine X.run okK_0b [(3223, [0])] 60 ?_
    refine ⟨fun _ => ?_, fun w => absurd ((end_lt hL (by omega)).mpr (by omega)) w⟩
    exact At.iconst X.1 (i := 1) (x := 1) d_end rfl (fin _ _ _ _ (by omega) (by omega))
  | succ r ih =>
    intro i h1 h2 K m o d h
    have hi : 4 * i + 4 ≤ L := by omega
    have nx : NX γ σ b i := by
      intro K2 m2 o2 d2 hE
      have z : At γ σ (1000 + 12 * (i + 1)) (100000 + 2000 * (i + 1)) 28 [(0, .inl (.ref b)), (1, vR 0 0), (2, vR 65 0), (3, vR 70 0), (4, vR 71 0), (5, vI (nI (4 * (i + 1))))] [] (LH K2 m2 o2 d2) := ih (i + 1) (by omega) (by omega) K2 m2 o2 d2 hE
      rw [show nI (4 * (i + 1)) = nI (4 * i) + 4 from by rw [show (4 : Int32) = nI 4 from rfl, nI_add]; rfl] at z
      refine X.run okK_0c [(28, [0, 1, 2, 3, 4, 5])] 60 ?_
      exact z
    refine X.run okK_0b [] 60 ?_
    refine X.slen (dc1L okK_0b rfl (by simp [L1])) ?_
    refine X.run okK_0b [(3223, [0])] 60 ?_
    refine ⟨fun w => absurd ((end_lt hL (by omega)).mp w) (by omega), fun _ => ?_⟩
    refine X.sl0 hi (dcIa okK_0b rfl) ?_
    refine X.run okK_0b [] 60 ?_
    obtain ⟨j, hj, ej⟩ := and63 (xs (4 * i))
    obtain ⟨len, dt⟩ := dc_ts
    show At γ σ (1000 + 12 * i) (100000 + 2000 * i) 44 (lsL b i) [vI (xs (4 * i) &&& 63)] (LH K m o d)
    rw [ej]
    revert j
    refine fun j hj _ => all64 (P := fun j => At γ σ (1000 + 12 * i) (100000 + 2000 * i) 44 (lsL b i) [vI (nI j)] (LH K m o d)) ?_ ?_ ?_ ?_ ?_ ?_ ?_ ?_ ?_ ?_ ?_ ?_ ?_ ?_ ?_ ?_ ?_ ?_ ?_ ?_ ?_ ?_ ?_ ?_ ?_ ?_ ?_ ?_ ?_ ?_ ?_ ?_ ?_ ?_ ?_ ?_ ?_ ?_ ?_ ?_ ?_ ?_ ?_ ?_ ?_ ?_ ?_ ?_ ?_ ?_ ?_ ?_ ?_ ?_ ?_ ?_ ?_ ?_ ?_ ?_ ?_ ?_ ?_ ?_ j hj
    · exact At.tsw X.1 dt (by decide) (by decide) (off := 272) (tgt := 316) rfl rfl (lc_0 X hi h nx)
    · exact At.tsw X.1 dt (by decide) (by decide) (off := 340) (tgt := 384) rfl rfl (lc_1 X hi h nx)
    · exact At.tsw X.1 dt (by decide) (by decide) (off := 408) (tgt := 452) rfl rfl (lc_2 X hi h nx)
    · exact At.tsw X.1 dt (by decide) (by decide) (off := 464) (tgt := 508) rfl rfl (lc_3 X hi h nx)
    · exact At.tsw X.1 dt (by decide) (by decide) (off := 532) (tgt := 576) rfl rfl (lc_4 X hi h nx)
    · exact At.tsw X.1 dt (by decide) (by decide) (off := 600) (tgt := 644) rfl rfl (lc_5 X hi h nx)
    · exact At.tsw X.1 dt (by decide) (by decide) (off := 668) (tgt := 712) rfl rfl (lc_6 X hi h nx)
    · exact At.tsw X.1 dt (by decide) (by decide) (off := 748) (tgt := 792) rfl rfl (lc_7 X hi h nx)
    · exact At.tsw X.1 dt (by decide) (by decide) (off := 804) (tgt := 848) rfl rfl (lc_8 X hi h nx)
    · exact At.tsw X.1 dt (by decide) (by decide) (off := 860) (tgt := 904) rfl rfl (lc_9 X hi h nx)
    · exact At.tsw X.1 dt (by decide) (by decide) (off := 916) (tgt := 960) rfl rfl (lc_10 X hi h nx)
    · exact At.tsw X.1 dt (by decide) (by decide) (off := 984) (tgt := 1028) rfl rfl (lc_11 X hi h nx)
    · exact At.tsw X.1 dt (by decide) (by decide) (off := 1040) (tgt := 1084) rfl rfl (lc_12 X hi h nx)
    · exact At.tsw X.1 dt (by decide) (by decide) (off := 1096) (tgt := 1140) rfl rfl (lc_13 X hi h nx)
    · exact At.tsw X.1 dt (by decide) (by decide) (off := 1109) (tgt := 1153) rfl rfl (lc_14 X hi h nx)
    · exact At.tsw X.1 dt (by decide) (by decide) (off := 1122) (tgt := 1166) rfl rfl (lc_15 X hi h nx)
    · exact At.tsw X.1 dt (by decide) (by decide) (off := 1178) (tgt := 1222) rfl rfl (lc_16 X hi h nx)
    · exact At.tsw X.1 dt (by decide) (by decide) (off := 1234) (tgt := 1278) rfl rfl (lc_17 X hi h nx)
    · exact At.tsw X.1 dt (by decide) (by decide) (off := 1290) (tgt := 1334) rfl rfl (lc_18 X hi h nx)
    · exact At.tsw X.1 dt (by decide) (by decide) (off := 1346) (tgt := 1390) rfl rfl (lc_19 X hi h nx)
    · exact At.tsw X.1 dt (by decide) (by decide) (off := 1402) (tgt := 1446) rfl rfl (lc_20 X hi h nx)
    · exact At.tsw X.1 dt (by decide) (by decide) (off := 1465) (tgt := 1509) rfl rfl (lc_21 X hi h nx)
    · exact At.tsw X.1 dt (by decide) (by decide) (off := 1521) (tgt := 1565) rfl rfl (lc_22 X hi h nx)
    · exact At.tsw X.1 dt (by decide) (by decide) (off := 1577) (tgt := 1621) rfl rfl (lc_23 X hi h nx)
    · exact At.tsw X.1 dt (by decide) (by decide) (off := 1590) (tgt := 1634) rfl rfl (lc_24 X hi h nx)
    · exact At.tsw X.1 dt (by decide) (by decide) (off := 1646) (tgt := 1690) rfl rfl (lc_25 X hi h nx)
    · exact At.tsw X.1 dt (by decide) (by decide) (off := 1702) (tgt := 1746) rfl rfl (lc_26 X hi h nx)
    · exact At.tsw X.1 dt (by decide) (by decide) (off := 1758) (tgt := 1802) rfl rfl (lc_27 X hi h nx)
    · exact At.tsw X.1 dt (by decide) (by decide) (off := 1802) (tgt := 1846) rfl rfl (lc_28 X hi h nx)
    · exact At.tsw X.1 dt (by decide) (by decide) (off := 1815) (tgt := 1859) rfl rfl (lc_29 X hi h nx)
    · exact At.tsw X.1 dt (by decide) (by decide) (off := 1828) (tgt := 1872) rfl rfl (lc_30 X hi h nx)
    · exact At.tsw X.1 dt (by decide) (by decide) (off := 1841) (tgt := 1885) rfl rfl (lc_31 X hi h nx)
    · exact At.tsw X.1 dt (by decide) (by decide) (off := 1854) (tgt := 1898) rfl rfl (lc_32 X hi h nx)
    · exact At.tsw X.1 dt (by decide) (by decide) (off := 1867) (tgt := 1911) rfl rfl (lc_33 X hi h nx)
    · exact At.tsw X.1 dt (by decide) (by decide) (off := 1880) (tgt := 1924) rfl rfl (lc_34 X hi h nx)
    · exact At.tsw X.1 dt (by decide) (by decide) (off := 1893) (tgt := 1937) rfl rfl (lc_35 X hi h nx)
    · exact At.tsw X.1 dt (by decide) (by decide) (off := 1949) (tgt := 1993) rfl rfl (lc_36 X hi h nx)
    · exact At.tsw X.1 dt (by decide) (by decide) (off := 2005) (tgt := 2049) rfl rfl (lc_37 X hi h nx)
    · exact At.tsw X.1 dt (by decide) (by decide) (off := 2061) (tgt := 2105) rfl rfl (lc_38 X hi h nx)
    · exact At.tsw X.1 dt (by decide) (by decide) (off := 2117) (tgt := 2161) rfl rfl (lc_39 X hi h nx)
    · exact At.tsw X.1 dt (by decide) (by decide) (off := 2161) (tgt := 2205) rfl rfl (lc_40 X hi h nx)
    · exact At.tsw X.1 dt (by decide) (by decide) (off := 2205) (tgt := 2249) rfl rfl (lc_41 X hi h nx)
    · exact At.tsw X.1 dt (by decide) (by decide) (off := 2261) (tgt := 2305) rfl rfl (lc_42 X hi h nx)
    · exact At.tsw X.1 dt (by decide) (by decide) (off := 2305) (tgt := 2349) rfl rfl (lc_43 X hi h nx)
    · exact At.tsw X.1 dt (by decide) (by decide) (off := 2361) (tgt := 2405) rfl rfl (lc_44 X hi h nx)
    · exact At.tsw X.1 dt (by decide) (by decide) (off := 2374) (tgt := 2418) rfl rfl (lc_45 X hi h nx)
    · exact At.tsw X.1 dt (by decide) (by decide) (off := 2418) (tgt := 2462) rfl rfl (lc_46 X hi h nx)
    · exact At.tsw X.1 dt (by decide) (by decide) (off := 2474) (tgt := 2518) rfl rfl (lc_47 X hi h nx)
    · exact At.tsw X.1 dt (by decide) (by decide) (off := 2530) (tgt := 2574) rfl rfl (lc_48 X hi h nx)
    · exact At.tsw X.1 dt (by decide) (by decide) (off := 2544) (tgt := 2588) rfl rfl (lc_49 X hi h nx)
    · exact At.tsw X.1 dt (by decide) (by decide) (off := 2609) (tgt := 2653) rfl rfl (lc_50 X hi h nx)
    · exact At.tsw X.1 dt (by decide) (by decide) (off := 2675) (tgt := 2719) rfl rfl (lc_51 X hi h nx)
    · exact At.tsw X.1 dt (by decide) (by decide) (off := 2688) (tgt := 2732) rfl rfl (lc_52 X hi h nx)
    · exact At.tsw X.1 dt (by decide) (by decide) (off := 2744) (tgt := 2788) rfl rfl (lc_53 X hi h nx)
    · exact At.tsw X.1 dt (by decide) (by decide) (off := 2800) (tgt := 2844) rfl rfl (lc_54 X hi h nx)
    · exact At.tsw X.1 dt (by decide) (by decide) (off := 2813) (tgt := 2857) rfl rfl (lc_55 X hi h nx)
    · exact At.tsw X.1 dt (by decide) (by decide) (off := 2869) (tgt := 2913) rfl rfl (lc_56 X hi h nx)
    · exact At.tsw X.1 dt (by decide) (by decide) (off := 2927) (tgt := 2971) rfl rfl (lc_57 X hi h nx)
    · exact At.tsw X.1 dt (by decide) (by decide) (off := 2971) (tgt := 3015) rfl rfl (lc_58 X hi h nx)
    · exact At.tsw X.1 dt (by decide) (by decide) (off := 3015) (tgt := 3059) rfl rfl (lc_59 X hi h nx)
    · exact At.tsw X.1 dt (by decide) (by decide) (off := 3059) (tgt := 3103) rfl rfl (lc_60 X hi h nx)
    · exact At.tsw X.1 dt (by decide) (by decide) (off := 3072) (tgt := 3116) rfl rfl (lc_61 X hi h nx)
    · exact At.tsw X.1 dt (by decide) (by decide) (off := 3116) (tgt := 3160) rfl rfl (lc_62 X hi h nx)
    · exact At.tsw X.1 dt (by decide) (by decide) (off := 3129) (tgt := 3173) rfl rfl (lc_63 X hi h nx)
