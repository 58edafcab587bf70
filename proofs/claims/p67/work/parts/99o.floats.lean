/-! ===== the means: no NaN ===== -/
theorem fe_fin64 (s : Bool) (c : Nat) (q : Int) (hc : c < 9007199254740992) (hq : q ≤ 971) : ∃ m, FP.Core.encode FP.Core.b64 (.fin s c q) = s.toNat * 9223372036854775808 + m ∧ m ≤ 9218868437227405312 := by
  have e : FP.Core.encode FP.Core.b64 (.fin s c q) = if c < 4503599627370496 then (s.toNat * 2048 + 0) * 4503599627370496 + c else (s.toNat * 2048 + ((q - (-1074)).toNat + 1)) * 4503599627370496 + (c - 4503599627370496) := rfl
  rw [e]
  split
  · exact ⟨c, by omega, by omega⟩
  · exact ⟨((q - (-1074)).toNat + 1) * 4503599627370496 + (c - 4503599627370496), by omega, by omega⟩
theorem fe_fin32 (s : Bool) (c : Nat) (q : Int) (hc : c < 16777216) (hq : q ≤ 104) : ∃ m, FP.Core.encode FP.Core.b32 (.fin s c q) = s.toNat * 2147483648 + m ∧ m ≤ 2139095040 := by
  have e : FP.Core.encode FP.Core.b32 (.fin s c q) = if c < 8388608 then (s.toNat * 256 + 0) * 8388608 + c else (s.toNat * 256 + ((q - (-149)).toNat + 1)) * 8388608 + (c - 8388608) := rfl
  rw [e]
  split
  · exact ⟨c, by omega, by omega⟩
  · exact ⟨((q - (-149)).toNat + 1) * 8388608 + (c - 8388608), by omega, by omega⟩
theorem fe_inf64 (s : Bool) : ∃ m, FP.Core.encode FP.Core.b64 (.inf s) = s.toNat * 9223372036854775808 + m ∧ m ≤ 9218868437227405312 := by
  have e : FP.Core.encode FP.Core.b64 (.inf s) = (s.toNat * 2048 + 2047) * 4503599627370496 + 0 := rfl
  exact ⟨9218868437227405312, by rw [e]; omega, Nat.le_refl _⟩
theorem fe_inf32 (s : Bool) : ∃ m, FP.Core.encode FP.Core.b32 (.inf s) = s.toNat * 2147483648 + m ∧ m ≤ 2139095040 := by
  have e : FP.Core.encode FP.Core.b32 (.inf s) = (s.toNat * 256 + 255) * 8388608 + 0 := rfl
  exact ⟨2139095040, by rw [e]; omega, Nat.le_refl _⟩
theorem fe_set64 (s : Bool) (c : Nat) (q : Int) : ∃ m, FP.Core.encode FP.Core.b64 (FP.Core.settle FP.Core.b64 s c q) = s.toNat * 9223372036854775808 + m ∧ m ≤ 9218868437227405312 := by
  have e : FP.Core.settle FP.Core.b64 s c q = if c < 9007199254740992 then (if q ≤ 971 then .fin s c q else .inf s) else (if q + 1 ≤ 971 then .fin s 4503599627370496 (q + 1) else .inf s) := rfl
  rw [e]
  split
  · split
    · exact fe_fin64 s c q (by assumption) (by assumption)
    · exact fe_inf64 s
  · split
    · exact fe_fin64 s _ _ (by decide) (by assumption)
    · exact fe_inf64 s
theorem fe_set32 (s : Bool) (c : Nat) (q : Int) : ∃ m, FP.Core.encode FP.Core.b32 (FP.Core.settle FP.Core.b32 s c q) = s.toNat * 2147483648 + m ∧ m ≤ 2139095040 := by
  have e : FP.Core.settle FP.Core.b32 s c q = if c < 16777216 then (if q ≤ 104 then .fin s c q else .inf s) else (if q + 1 ≤ 104 then .fin s 8388608 (q + 1) else .inf s) := rfl
  rw [e]
  split
  · split
    · exact fe_fin32 s c q (by assumption) (by assumption)
    · exact fe_inf32 s
  · split
    · exact fe_fin32 s _ _ (by decide) (by assumption)
    · exact fe_inf32 s
theorem fe_rr64 (s : Bool) (a b : Nat) (e : Int) : ∃ m, FP.Core.encode FP.Core.b64 (FP.Core.roundRatio FP.Core.b64 s a b e) = s.toNat * 9223372036854775808 + m ∧ m ≤ 9218868437227405312 := by
  unfold FP.Core.roundRatio
  split
  · exact fe_fin64 s 0 _ (by decide) (by decide)
  · exact fe_set64 s _ _
theorem fe_rr32 (s : Bool) (a b : Nat) (e : Int) : ∃ m, FP.Core.encode FP.Core.b32 (FP.Core.roundRatio FP.Core.b32 s a b e) = s.toNat * 2147483648 + m ∧ m ≤ 2139095040 := by
  unfold FP.Core.roundRatio
  split
  · exact fe_fin32 s 0 _ (by decide) (by decide)
  · exact fe_set32 s _ _
/-- the bits say that it is no NaN -/
def nb64 (x : UInt64) : Prop := ∃ (s : Bool) (m : Nat), x.toNat = s.toNat * 9223372036854775808 + m ∧ m ≤ 9218868437227405312
def nb32 (x : UInt32) : Prop := ∃ (s : Bool) (m : Nat), x.toNat = s.toNat * 2147483648 + m ∧ m ≤ 2139095040
theorem nb64_of {n : Nat} {s : Bool} (h : ∃ m, n = s.toNat * 9223372036854775808 + m ∧ m ≤ 9218868437227405312) : nb64 (UInt64.ofNat n) := by
  obtain ⟨m, h1, h2⟩ := h
  refine ⟨s, m, ?_, h2⟩
  have hs : s.toNat ≤ 1 := by cases s <;> decide
  rw [UInt64.toNat_ofNat', Nat.mod_eq_of_lt (by omega)]
  exact h1
theorem nb32_of {n : Nat} {s : Bool} (h : ∃ m, n = s.toNat * 2147483648 + m ∧ m ≤ 2139095040) : nb32 (UInt32.ofNat n) := by
  obtain ⟨m, h1, h2⟩ := h
  refine ⟨s, m, ?_, h2⟩
  have hs : s.toNat ≤ 1 := by cases s <;> decide
  rw [UInt32.toNat_ofNat', Nat.mod_eq_of_lt (by omega)]
  exact h1
theorem nb64.n {x : UInt64} (h : nb64 x) : vf_n64 x := by
  obtain ⟨s, m, h1, h2⟩ := h
  have hs : s.toNat ≤ 1 := by cases s <;> decide
  unfold vf_n64
  rw [UInt64.le_iff_toNat_le, UInt64.toNat_and]
  show x.toNat &&& (2 ^ 63 - 1) ≤ 9218868437227405312
  rw [Nat.and_two_pow_sub_one_eq_mod, h1]
  omega
theorem nb32.n {x : UInt32} (h : nb32 x) : vf_n32 x := by
  obtain ⟨s, m, h1, h2⟩ := h
  have hs : s.toNat ≤ 1 := by cases s <;> decide
  unfold vf_n32
  rw [UInt32.le_iff_toNat_le, UInt32.toNat_and]
  show x.toNat &&& (2 ^ 31 - 1) ≤ 2139095040
  rw [Nat.and_two_pow_sub_one_eq_mod, h1]
  omega
theorem nb64.d {x : UInt64} (h : nb64 x) : FP.Core.decode FP.Core.b64 x.toNat ≠ .nan := by
  obtain ⟨s, m, h1, h2⟩ := h
  have hs : s.toNat ≤ 1 := by cases s <;> decide
  have e : FP.Core.decode FP.Core.b64 x.toNat = if x.toNat / 4503599627370496 % 2048 = 2047 then (if x.toNat % 4503599627370496 = 0 then .inf (FP.Core.fieldS FP.Core.b64 x.toNat) else .nan) else if x.toNat / 4503599627370496 % 2048 = 0 then .fin (FP.Core.fieldS FP.Core.b64 x.toNat) (x.toNat % 4503599627370496) (-1074) else .fin (FP.Core.fieldS FP.Core.b64 x.toNat) (4503599627370496 + x.toNat % 4503599627370496) (-1074 + (((x.toNat / 4503599627370496 % 2048 : Nat) : Int) - 1)) := rfl
  rw [e]
  split
  · rw [if_pos (by omega)]
    intro z; cases z
  · split <;> (intro z; cases z)
theorem nb32.d {x : UInt32} (h : nb32 x) : FP.Core.decode FP.Core.b32 x.toNat ≠ .nan := by
  obtain ⟨s, m, h1, h2⟩ := h
  have hs : s.toNat ≤ 1 := by cases s <;> decide
  have e : FP.Core.decode FP.Core.b32 x.toNat = if x.toNat / 8388608 % 256 = 255 then (if x.toNat % 8388608 = 0 then .inf (FP.Core.fieldS FP.Core.b32 x.toNat) else .nan) else if x.toNat / 8388608 % 256 = 0 then .fin (FP.Core.fieldS FP.Core.b32 x.toNat) (x.toNat % 8388608) (-149) else .fin (FP.Core.fieldS FP.Core.b32 x.toNat) (8388608 + x.toNat % 8388608) (-149 + (((x.toNat / 8388608 % 256 : Nat) : Int) - 1)) := rfl
  rw [e]
  split
  · rw [if_pos (by omega)]
    intro z; cases z
  · split <;> (intro z; cases z)
def finB : FP.Core.Datum → Bool
  | .fin _ _ _ => true
  | _ => false
def posB : FP.Core.Datum → Bool
  | .fin _ c _ => !(Nat.beq c 0)
  | _ => false
theorem dd_nb {x y : UInt64} (hx : finB (FP.Core.decode FP.Core.b64 x.toNat) = true) (hy : posB (FP.Core.decode FP.Core.b64 y.toNat) = true) : nb64 (FP.ddiv x y) := by
  show nb64 (UInt64.ofNat (FP.Core.encode FP.Core.b64 (FP.Core.quotient FP.Core.b64 (FP.Core.decode FP.Core.b64 x.toNat) (FP.Core.decode FP.Core.b64 y.toNat))))
  generalize FP.Core.decode FP.Core.b64 x.toNat = a at hx
  generalize FP.Core.decode FP.Core.b64 y.toNat = b at hy
  cases a with
  | nan => cases hx
  | inf s => cases hx
  | fin s c q =>
    cases b with
    | nan => cases hy
    | inf s => cases hy
    | fin t d r =>
      have hd : ¬ d = 0 := fun z => by
        subst z
        cases hy
      have e : FP.Core.quotient FP.Core.b64 (.fin s c q) (.fin t d r) = FP.Core.roundRatio FP.Core.b64 (s != t) c d (q - r) := if_neg hd
      rw [e]
      exact nb64_of (fe_rr64 _ _ _ _)
theorem fd_nb {x y : UInt32} (hx : finB (FP.Core.decode FP.Core.b32 x.toNat) = true) (hy : posB (FP.Core.decode FP.Core.b32 y.toNat) = true) : nb32 (FP.fdiv x y) := by
  show nb32 (UInt32.ofNat (FP.Core.encode FP.Core.b32 (FP.Core.quotient FP.Core.b32 (FP.Core.decode FP.Core.b32 x.toNat) (FP.Core.decode FP.Core.b32 y.toNat))))
  generalize FP.Core.decode FP.Core.b32 x.toNat = a at hx
  generalize FP.Core.decode FP.Core.b32 y.toNat = b at hy
  cases a with
  | nan => cases hx
  | inf s => cases hx
  | fin s c q =>
    cases b with
    | nan => cases hy
    | inf s => cases hy
    | fin t d r =>
      have hd : ¬ d = 0 := fun z => by
        subst z
        cases hy
      have e : FP.Core.quotient FP.Core.b32 (.fin s c q) (.fin t d r) = FP.Core.roundRatio FP.Core.b32 (s != t) c d (q - r) := if_neg hd
      rw [e]
      exact nb32_of (fe_rr32 _ _ _ _)
theorem f2d_nb {x : UInt32} (h : nb32 x) : nb64 (FP.f2d x) := by
  have hd := h.d
  have e1 : FP.Core.fIsNaN x = false := decide_eq_false hd
  have e2 : FP.f2d x = FP.Core.f2d x := by
    unfold FP.f2d
    rw [e1]; rfl
  rw [e2]
  show nb64 (UInt64.ofNat (FP.Core.encode FP.Core.b64 (FP.Core.round FP.Core.b64 (FP.Core.decode FP.Core.b32 x.toNat))))
  generalize FP.Core.decode FP.Core.b32 x.toNat = a at hd
  cases a with
  | nan => exact absurd rfl hd
  | inf s => exact nb64_of (fe_inf64 s)
  | fin s c q => exact nb64_of (fe_rr64 _ _ _ _)
theorem cmp_self (a : Int) : compare a a = .eq := by simp [compare, compareOfLessAndEq]
theorem ord_self {d : FP.Core.Datum} (h : d ≠ .nan) : FP.Core.order d d = some .eq := by
  cases d with
  | nan => exact absurd rfl h
  | inf s => exact congrArg some (cmp_self _)
  | fin s c q => exact congrArg some (cmp_self _)
theorem dcmp_self {x : UInt64} (h : nb64 x) (op : CmpOp) : Op.cmpValue (FP.dcmp x x) op = 0 := by
  have e : FP.dcmp x x = some .eq := ord_self h.d
  rw [e]; rfl
theorem i2d_all : (List.range 1601).all (fun a => finB (FP.Core.decode FP.Core.b64 (FP.i2d (nI a)).toNat)) = true := by decide +kernel
theorem i2d_pos : (List.range 9).all (fun b => Nat.beq b 0 || posB (FP.Core.decode FP.Core.b64 (FP.i2d (nI b)).toNat)) = true := by decide +kernel
theorem i2f_all : (List.range 1601).all (fun a => finB (FP.Core.decode FP.Core.b32 (FP.i2f (nI a)).toNat)) = true := by decide +kernel
theorem i2f_pos : (List.range 1601).all (fun b => Nat.beq b 0 || posB (FP.Core.decode FP.Core.b32 (FP.i2f (nI b)).toNat)) = true := by decide +kernel
theorem nz_pos {b : Nat} {c : Bool} (h : (Nat.beq b 0 || c) = true) (h0 : ¬ b = 0) : c = true := by
  cases b with
  | zero => exact absurd rfl h0
  | succ b => exact h
theorem sum_w {S : SH} (hV : VB S) (hS : WF S) : ∃ N, N < 1601 ∧ sumI (gw S) (gc S) = nI N := by
  have hc := hS.1
  have z := bI_sum_c (f := gw S) (gc S) (by omega) fun i hi => (hV.1 i hi).2.2.1
  obtain ⟨N, hN, e⟩ := bI.nat (b := 1600) (z.mono (by omega) (by omega))
  exact ⟨N, by omega, e⟩
theorem sum_c {S : SH} (hV : VB S) (hS : WF S) (h0 : ¬ gc S = 0) : ∃ N, N < 1601 ∧ ¬ N = 0 ∧ sumI (gcp S) (gc S) = nI N := by
  have hc := hS.1
  have z := bI_sum_c (f := gcp S) (gc S) (by omega) fun i hi => (hV.1 i hi).2.1.mono (by omega) (by omega)
  obtain ⟨N, hN, e⟩ := bI.nat (b := 1600) (z.mono (by omega) (by omega))
  refine ⟨N, by omega, fun hz => ?_, e⟩
  obtain ⟨c', ec⟩ : ∃ c', gc S = c' + 1 := ⟨gc S - 1, by omega⟩
  have z1 := bI_sum_c (f := gcp S) c' (by omega) fun i hi => (hV.1 i (by omega)).2.1.mono (by omega) (by omega)
  have z2 := (hV.1 c' (by omega)).2.1
  have z3 := bI.add z1 z2 (by omega) (by omega)
  rw [hz, ec] at e
  have e : sumI (gcp S) c' + gcp S c' = nI 0 := e
  rw [e] at z3
  have := z3.1
  rw [nI_toInt (by decide)] at this
  omega
theorem mean_nb {S : SH} (hV : VB S) (hS : WF S) (h0 : ¬ gc S = 0) : nb64 (FP.ddiv (FP.i2d (sumI (gw S) (gc S))) (FP.i2d (nI (gc S)))) := by
  have hc := hS.1
  obtain ⟨N, hN, e⟩ := sum_w hV hS
  rw [e]
  exact dd_nb (List.all_eq_true.mp i2d_all N (List.mem_range.mpr hN)) (nz_pos (List.all_eq_true.mp i2d_pos (gc S) (List.mem_range.mpr (by omega))) h0)
theorem share_nb {S : SH} (hV : VB S) (hS : WF S) (h0 : ¬ gc S = 0) : nb32 (FP.fdiv (FP.i2f (sumI (gw S) (gc S))) (FP.i2f (sumI (gcp S) (gc S)))) := by
  obtain ⟨N, hN, e⟩ := sum_w hV hS
  obtain ⟨M, hM, hM0, e2⟩ := sum_c hV hS h0
  rw [e, e2]
  exact fd_nb (List.all_eq_true.mp i2f_all N (List.mem_range.mpr hN)) (nz_pos (List.all_eq_true.mp i2f_pos M (List.mem_range.mpr hM)) hM0)
theorem fMean_0 {S : SH} (h : fMean S = 0) : ¬ gc S = 0 := fun z => by
  unfold fMean at h
  rw [if_pos z] at h
  cases h
/-! the class's means -/
theorem m_meanWater2 (K : KS') (hK : WK K) (hne : fMean (kS K) = 0 → vf_n64 (FP.ddiv (FP.i2d (sumI (gw (kS K)) (gc (kS K)))) (FP.i2d (nI (gc (kS K)))))) : Sp 12 12 700 mX10_meanWater [vR 0 0] (world K) (PoC (fMean (kS K)) (some (vD (FP.ddiv (FP.i2d (sumI (gw (kS K)) (gc (kS K)))) (FP.i2d (nI (gc (kS K))))))) (K) (K)) := by
  refine Sp.of' false (fun h => by cases h) (by decide) rfl rfl (Nat.le_of_ble_eq_true rfl) fun γ σ B => ?_
  refine B.run okX10_meanWater [] 60 ?_
  refine At.fI [] [] B.1 B.2.1 (s_checkForMean K hK) kX10_checkForMean ln_X10_315 (B.fit (by decide) (by decide) (by decide)) (by decide) (by decide) (dcV okX10_meanWater rfl) (fun hf => ?_) (fun hf => PoC_x hf (kT K) (kC K) hK.2.1 rfl)
  refine B.run okX10_meanWater [] 60 ?_
  refine At.wV (fe_hS K (kS K).1) [] [] B.1 (s_totalWater (gc (kS K)) hK.1.1 _ _ _ _ _ _) kX5_totalWater ln_X10_318 (B.fit (by decide) (by decide) (by decide)) (dcV okX10_meanWater rfl) ?_
  refine At.i2d B.1 (dc1L okX10_meanWater rfl (by simp [L1])) ?_
  refine B.run okX10_meanWater [] 60 ?_
  refine At.i2d B.1 (dc1L okX10_meanWater rfl (by simp [L1])) ?_
  refine At.ddiv B.1 (hne hf) (dc1L okX10_meanWater rfl (by simp [L1])) ?_
  exact At.dret B.1 B.2.1 (dc1L okX10_meanWater rfl (by simp [L1])) rfl (by decide) (by decide) (Or.inl rfl) (PoC_v hf (kT K) (kC K) hK.2.1 rfl)
theorem m_fillShare2 (K : KS') (hK : WK K) (hne : fMean (kS K) = 0 → vf_n32 (FP.fdiv (FP.i2f (sumI (gw (kS K)) (gc (kS K)))) (FP.i2f (sumI (gcp (kS K)) (gc (kS K)))))) : Sp 12 12 700 mX10_fillShare [vR 0 0] (world K) (PoC (fMean (kS K)) (some (vF (FP.fdiv (FP.i2f (sumI (gw (kS K)) (gc (kS K)))) (FP.i2f (sumI (gcp (kS K)) (gc (kS K))))))) (K) (K)) := by
  refine Sp.of' false (fun h => by cases h) (by decide) rfl rfl (Nat.le_of_ble_eq_true rfl) fun γ σ B => ?_
  refine B.run okX10_fillShare [] 60 ?_
  refine At.fI [] [] B.1 B.2.1 (s_checkForMean K hK) kX10_checkForMean ln_X10_315 (B.fit (by decide) (by decide) (by decide)) (by decide) (by decide) (dcV okX10_fillShare rfl) (fun hf => ?_) (fun hf => PoC_x hf (kT K) (kC K) hK.2.1 rfl)
  refine B.run okX10_fillShare [] 60 ?_
  refine At.wV (fe_hS K (kS K).1) [] [] B.1 (s_totalWater (gc (kS K)) hK.1.1 _ _ _ _ _ _) kX5_totalWater ln_X10_318 (B.fit (by decide) (by decide) (by decide)) (dcV okX10_fillShare rfl) ?_
  refine At.i2f B.1 (dc1L okX10_fillShare rfl (by simp [L1])) ?_
  refine B.run okX10_fillShare [] 60 ?_
  refine At.wV (fe_hS K (kS K).1) [] [vF (FP.i2f (sumI (gw (kS K)) (gc (kS K))))] B.1 (s_totalCapacity (gc (kS K)) hK.1.1 _ _ _ _ _ _) kX5_totalCapacity ln_X10_321 (B.fit (by decide) (by decide) (by decide)) (dcV okX10_fillShare rfl) ?_
  refine At.i2f B.1 (dc1L okX10_fillShare rfl (by simp [L1])) ?_
  refine At.fdiv B.1 (hne hf) (dc1L okX10_fillShare rfl (by simp [L1])) ?_
  exact At.fret B.1 B.2.1 (dc1L okX10_fillShare rfl (by simp [L1])) rfl (by decide) (by decide) (Or.inl rfl) (PoC_v hf (kT K) (kC K) hK.2.1 rfl)
/-! rows of doubles -/
section ADD
variable {γ : CX} {own : String} {cc : ByteArray} {σ : Nat → Nat → Nat} {k n pc : Nat} {ls : List (Nat × AV)} {st : List AV} {h : AHp}
theorem At.f2d (O : OK γ own cc) {x : UInt32} (hne : vf_n64 (FP.f2d x)) (d : decode cc pc = .ok (.f2d, 1)) (g : At γ σ k n (pc + 1) ls (vD (FP.f2d x) :: st) h) : At γ σ k n pc ls (vF x :: st) h := fun η H locs lsA a b c => lv_f2d O.1 O.2.1 d hne (g η H locs lsA a b c)
theorem At.dcmp (O : OK γ own cc) {x y : UInt64} {op : CmpOp} (d : decode cc pc = .ok (.dcmp op, 1)) (g : At γ σ k n (pc + 1) ls (vI (Op.cmpValue (FP.dcmp x y) op) :: st) h) : At γ σ k n pc ls (vD y :: vD x :: st) h := fun η H locs lsA a b c => lv_dcmp O.1 O.2.1 d (g η H locs lsA a b c)
theorem At.dload (O : OK γ own cc) {i : Nat} {x : UInt64} (d : decode cc pc = .ok (.dload i, 2)) (hv : lvget ls i = some (vD x)) (g : At γ σ k n (pc + 2) ls (vD x :: st) h) : At γ σ k n pc ls st h := fun η H locs lsA a b c => lv_dload O.1 O.2.1 d (At.lv c hv) (g η H locs lsA a b c)
theorem At.fload (O : OK γ own cc) {i : Nat} {x : UInt32} (d : decode cc pc = .ok (.fload i, 2)) (hv : lvget ls i = some (vF x)) (g : At γ σ k n (pc + 2) ls (vF x :: st) h) : At γ σ k n pc ls st h := fun η H locs lsA a b c => lv_fload O.1 O.2.1 d (At.lv c hv) (g η H locs lsA a b c)
/-- a place that is no local's yet, behind the others -/
theorem lv_app {lsA : Array Slot} {nL i : Nat} {κ : Nat → Nat} {ls : List (Nat × AV)} {v : AV} {f : Nat × Value → Bool} (h : lv_has lsA nL ((i, tr σ κ v) :: (trL σ κ ls).filter f)) (hf : (trL σ κ ls).filter f = trL σ κ ls) : lv_has lsA nL (trL σ κ (ls ++ [(i, v)])) := by
  rw [hf] at h
  refine lv_mono h fun q hq => ?_
  have e : trL σ κ (ls ++ [(i, v)]) = trL σ κ ls ++ [(i, tr σ κ v)] := List.map_append
  rw [e] at hq
  rcases List.mem_append.mp hq with hq | hq
  · exact List.mem_cons_of_mem _ hq
  · rw [List.mem_singleton.mp hq]; exact List.mem_cons_self
theorem At.dstore (O : OK γ own cc) {i : Nat} {x : UInt64} (d : decode cc pc = .ok (.dstore i, 2)) (hn : i + 1 < (cC γ).maxLocals) (hf : (trL σ (cκ γ) ls).filter (fun q => !(q.1 == i) && (!(q.1 == i + 1) && !(q.1 + 1 == i && q.2.category == 2))) = trL σ (cκ γ) ls) (g : At γ σ k n (pc + 2) (ls ++ [(i, vD x)]) st h) : At γ σ k n pc ls (vD x :: st) h := fun η H locs lsA a b c => lv_dstore O.1 O.2.1 d c hn rfl (fun lsB cB => g η H locs lsB a b (lv_app (v := vD x) cB hf))
theorem At.fstore (O : OK γ own cc) {i : Nat} {x : UInt32} (d : decode cc pc = .ok (.fstore i, 2)) (hn : i < (cC γ).maxLocals) (hf : (trL σ (cκ γ) ls).filter (fun q => !(q.1 == i) && !(q.1 + 1 == i && q.2.category == 2)) = trL σ (cκ γ) ls) (g : At γ σ k n (pc + 2) (ls ++ [(i, vF x)]) st h) : At γ σ k n pc ls (vF x :: st) h := fun η H locs lsA a b c => lv_fstore O.1 O.2.1 d c hn rfl (fun lsB cB => g η H locs lsB a b (lv_app (v := vF x) cB hf))
end ADD
