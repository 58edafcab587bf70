/-! ===== the law's heap: the class's, the model's, the two arrays ===== -/
theorem w_meanWater (K : KS') (hK : WK K) (hne : fMean (kS K) = 0 → vf_n64 (FP.ddiv (FP.i2d (sumI (gw (kS K)) (gc (kS K)))) (FP.i2d (nI (gc (kS K)))))) (o : Nat → UInt64) : SpH hL_meanWater 13 12 700 mL_meanWater [vR 0 0, vR 65 0] (wZ K (aDb o)) (PoW (fMean (kS K)) (if (fMean (kS K)) = 0 then 0 else 1) (aDb (oSd o (FP.ddiv (FP.i2d (sumI (gw (kS K)) (gc (kS K)))) (FP.i2d (nI (gc (kS K))))))) (K) (K) (aDb o)) := by
  refine SpH.of (by decide) rfl rfl (Nat.le_of_ble_eq_true rfl) fun γ σ B => ?_
  refine B.run okL_meanWater [] 60 ?_
  refine B.callX [] [vI 0, vR 65 0] (m_meanWater2 K hK hne) kX10_meanWater ln_L_133 (dcV okL_meanWater rfl) (fun hf T C hT => ?_) (fun hf T C hT => ?_)
  · refine B.run okL_meanWater [] 60 ?_
    exact ⟨vk, rW0 hf (by rw [hf]; rfl) T C hT⟩
  · rcases fs_fMean (kS K) with h | h
    · exact absurd h hf
    · refine AtX.catch (E := exF (fMean (kS K))) (name := xM) B.1 [] ⟨0, 7, 10, 137⟩ [] B.2.2.1 (by rw [h]; exact fun _ z => absurd z List.not_mem_nil) (by decide) (by decide) cl_M (by rw [h]; exact ct_M) fun q => ?_
      refine B.run okL_meanWater [] 60 ?_
      exact rWx hf (by rw [h]; rfl) T C hT
theorem w_fillShare (K : KS') (hK : WK K) (hne : fMean (kS K) = 0 → vf_n32 (FP.fdiv (FP.i2f (sumI (gw (kS K)) (gc (kS K)))) (FP.i2f (sumI (gcp (kS K)) (gc (kS K)))))) (hn2 : fMean (kS K) = 0 → vf_n64 (FP.f2d (FP.fdiv (FP.i2f (sumI (gw (kS K)) (gc (kS K)))) (FP.i2f (sumI (gcp (kS K)) (gc (kS K))))))) (o : Nat → UInt64) : SpH hL_fillShare 13 12 700 mL_fillShare [vR 0 0, vR 65 0] (wZ K (aDb o)) (PoW (fMean (kS K)) (if (fMean (kS K)) = 0 then 0 else 1) (aDb (oSd o (FP.f2d (FP.fdiv (FP.i2f (sumI (gw (kS K)) (gc (kS K)))) (FP.i2f (sumI (gcp (kS K)) (gc (kS K)))))))) (K) (K) (aDb o)) := by
  refine SpH.of (by decide) rfl rfl (Nat.le_of_ble_eq_true rfl) fun γ σ B => ?_
  refine B.run okL_fillShare [] 60 ?_
  refine B.callX [] [vI 0, vR 65 0] (m_fillShare2 K hK hne) kX10_fillShare ln_L_139 (dcV okL_fillShare rfl) (fun hf T C hT => ?_) (fun hf T C hT => ?_)
  · refine At.f2d B.1 (hn2 hf) (dc1L okL_fillShare rfl (by simp [L1])) ?_
    refine B.run okL_fillShare [] 60 ?_
    exact ⟨vk, rW0 hf (by rw [hf]; rfl) T C hT⟩
  · rcases fs_fMean (kS K) with h | h
    · exact absurd h hf
    · refine AtX.catch (E := exF (fMean (kS K))) (name := xM) B.1 [] ⟨0, 8, 11, 137⟩ [] B.2.2.1 (by rw [h]; exact fun _ z => absurd z List.not_mem_nil) (by decide) (by decide) cl_M (by rw [h]; exact ct_M) fun q => ?_
      refine B.run okL_fillShare [] 60 ?_
      exact rWx hf (by rw [h]; rfl) T C hT
abbrev P5 : List Nat := List.range' 65 5
abbrev PW : List Nat := R65 ++ [70]
abbrev PD : List Nat := R65 ++ [71]
def mdS (m : MS) : AHp := (mdl m).map (fun g => g.map (renC P5))
def LH (K : KS') (m : MS) (o : Nat → Int64) (d : Nat → UInt64) : AHp := world K ++ (mdS m ++ [[aL o], [aDb d]])
theorem ndW : va_nd PW = true := by decide
theorem ndD : va_nd PD = true := by decide
theorem nd5 : va_nd P5 = true := by decide
theorem idW : idU PW 65 := by
  intro r hr
  unfold rn
  rw [hnth_eq, show PW[r]? = some r from by rw [List.getElem?_append_left (by simp; exact hr), List.getElem?_range' hr]; simp]; rfl
theorem idD : idU PD 65 := by
  intro r hr
  unfold rn
  rw [hnth_eq, show PD[r]? = some r from by rw [List.getElem?_append_left (by simp; exact hr), List.getElem?_range' hr]; simp]; rfl
theorem fit_W (K : KS') (m : MS) (o : Nat → Int64) (d : Nat → UInt64) : Fits PW PW (wZ K (aL o)) (LH K m o d) := Fits_app2 PW R65 [70] (world K) [[aL o]] _ (Fits_pre idW (world_bd K) (world_len K) _) ⟨rfl, trivial⟩
theorem fit_D (K : KS') (m : MS) (o : Nat → Int64) (d : Nat → UInt64) : Fits PD PD (wZ K (aDb d)) (LH K m o d) := Fits_app2 PD R65 [71] (world K) [[aDb d]] _ (Fits_pre idD (world_bd K) (world_len K) _) ⟨rfl, trivial⟩
theorem plug_W (K K2 : KS') (m : MS) (o o2 : Nat → Int64) (d : Nat → UInt64) : plug PW PW (wZ K2 (aL o2)) (LH K m o d) = LH K2 m o2 d := by
  have e := plug_app PW R65 [70] (world K2) [[aL o2]] (LH K m o d) rfl
  have e2 := plug_pre idW (world_bd K2) (world_len K) (world_len K2) (mdS m ++ [[aL o], [aDb d]])
  rw [show plug PW R65 (world K2) (LH K m o d) = LH K2 m o d from e2] at e
  exact e
theorem plug_D (K K2 : KS') (m : MS) (o : Nat → Int64) (d d2 : Nat → UInt64) : plug PD PD (wZ K2 (aDb d2)) (LH K m o d) = LH K2 m o d2 := by
  have e := plug_app PD R65 [71] (world K2) [[aDb d2]] (LH K m o d) rfl
  have e2 := plug_pre idD (world_bd K2) (world_len K) (world_len K2) (mdS m ++ [[aL o], [aDb d]])
  rw [show plug PD R65 (world K2) (LH K m o d) = LH K2 m o d from e2] at e
  exact e
theorem fit_X (K : KS') (m : MS) (o : Nat → Int64) (d : Nat → UInt64) : Fits R65 R65 (world K) (LH K m o d) := Fits_pre id65 (world_bd K) (world_len K) _
theorem plug_X (K K2 : KS') (m : MS) (o : Nat → Int64) (d : Nat → UInt64) : plug R65 R65 (world K2) (LH K m o d) = LH K2 m o d := plug_pre id65 (world_bd K2) (world_len K) (world_len K2) _
theorem fit_M (K : KS') (m : MS) (o : Nat → Int64) (d : Nat → UInt64) : Fits P5 P5 (mdl m) (LH K m o d) := Fits_blk P5 (mdl m) (world K) [[aL o], [aDb d]]
theorem plug_M (K : KS') (m m2 : MS) (o : Nat → Int64) (d : Nat → UInt64) : plug P5 P5 (mdl m2) (LH K m o d) = LH K m2 o d := plug_blk P5 (mdl m2) (mdS m) (world K) [[aL o], [aDb d]] rfl
/-! ===== the law's calls ===== -/
section LCA
variable {γ : CX} {σ : Nat → Nat → Nat} {k n pc ix na d2 ms2 f c : Nat} {ls : List (Nat × AV)} {st : List AV} {hh : HH} {M : MR} {K K1 K0 : KS'} {m : MS} {o o1 : Nat → Int64} {d d1 : Nat → UInt64}
theorem At.lW (As : List AV) (O : OK γ RL code) (S : SpH hh 13 12 ms2 M As (wZ K (aL o)) (PoW f c (aL o1) K1 K0 (aL o))) (Kx : KSH M hh na) (w : Cond.methodLink RL ix (mY M) ∈ GT) (hf : Fit γ k n 13 12 ms2) (dd : decode code pc = .ok (.invokestatic ix, 3))
    (g : ∀ T C, WF T → At γ σ (k + 12) (n + ms2) (pc + 3) ls [vI (nI c)] (LH (scr (if f = 0 then K1 else K0) T C) m (if f = 0 then o1 else o) d)) (hna : As.length = na := by rfl) (hst : st = (As.map (ren PW)).reverse := by rfl) : At γ σ k n pc ls st (LH K m o d) := by
  refine At.callSH (P := PW) (rest := []) O S Kx w ndW (fit_W K m o d) hna hf (by decide) dd (by rw [List.append_nil]; exact hst) (fun v h2 hp => ?_) (fun E h2 hp => ?_)
  · obtain ⟨T, C, hT, e1, rfl⟩ := hp
    cases e1
    refine ⟨rfl, ?_⟩
    rw [show (if f = 0 then aL o1 else aL o) = aL (if f = 0 then o1 else o) from by split <;> rfl, plug_W]
    exact g T C hT
  · obtain ⟨T, C, hT, e1, -⟩ := hp
    cases e1
theorem At.lD (As : List AV) (O : OK γ RL code) (S : SpH hh 13 12 ms2 M As (wZ K (aDb d)) (PoW f c (aDb d1) K1 K0 (aDb d))) (Kx : KSH M hh na) (w : Cond.methodLink RL ix (mY M) ∈ GT) (hf : Fit γ k n 13 12 ms2) (dd : decode code pc = .ok (.invokestatic ix, 3))
    (g : ∀ T C, WF T → At γ σ (k + 12) (n + ms2) (pc + 3) ls [vI (nI c)] (LH (scr (if f = 0 then K1 else K0) T C) m o (if f = 0 then d1 else d))) (hna : As.length = na := by rfl) (hst : st = (As.map (ren PD)).reverse := by rfl) : At γ σ k n pc ls st (LH K m o d) := by
  refine At.callSH (P := PD) (rest := []) O S Kx w ndD (fit_D K m o d) hna hf (by decide) dd (by rw [List.append_nil]; exact hst) (fun v h2 hp => ?_) (fun E h2 hp => ?_)
  · obtain ⟨T, C, hT, e1, rfl⟩ := hp
    cases e1
    refine ⟨rfl, ?_⟩
    rw [show (if f = 0 then aDb d1 else aDb d) = aDb (if f = 0 then d1 else d) from by split <;> rfl, plug_D]
    exact g T C hT
  · obtain ⟨T, C, hT, e1, -⟩ := hp
    cases e1
/-- the class's own method, called by the law itself -/
theorem At.lX {v : AV} (O : OK γ RL code) (S : Sp 12 12 ms2 M [vR 0 0] (world K) (PoC 0 (some v) K1 K0)) (Kx : KV M 0) (w : Cond.methodLink RL ix (mY M) ∈ GT) (hf : Fit γ k n 12 12 ms2) (dd : decode code pc = .ok (.invokevirtual ix, 3))
    (g : ∀ T C, WF T → At γ σ (k + 12) (n + ms2) (pc + 3) ls [v] (LH (scr K1 T C) m o d)) (hcls : (mY M).cls = RX10 := by rfl) (hv : ren R65 v = v := by rfl) : At γ σ k n pc ls [vR 0 0] (LH K m o d) := by
  refine At.callV (P := R65) (rest := []) O S Kx w nd65 (fit_X K m o d) (ci := 11) (T := TX10) (N := 13) rfl (by rw [hcls]; rfl) rfl hf (by decide) dd rfl (fun v2 h2 hp => ?_) (fun E h2 hp => ?_)
  · obtain ⟨T, C, hT, h0, h1⟩ := hp
    obtain ⟨e1, rfl⟩ := h0 rfl
    cases e1
    refine ⟨rfl, ?_⟩
    rw [plug_X, show List.map (ren R65) (Option.toList (some v)) = [v] from by show [ren R65 v] = [v]; rw [hv]]
    exact g T C hT
  · obtain ⟨T, C, hT, h0, h1⟩ := hp
    cases (h0 rfl).1
/-- the model's methods -/
theorem At.lE (As rest : List AV) {v : AV} {P : MS → Prop} (O : OK γ RL code) (S : Sp d2 0 0 M (vR 0 0 :: As) (mdl m) (PoE (some v) P)) (Kx : KV M na) (w : Cond.methodLink RL ix (mY M) ∈ GT) (hf : Fit γ k n d2 0 0) (dd : decode code pc = .ok (.invokevirtual ix, 3))
    (g : ∀ m', P m' → At γ σ k n (pc + 3) ls (v :: rest) (LH K m' o d)) (hcls : (mY M).cls = RX11 := by rfl) (hv : ren P5 v = v := by rfl) (hna : As.length = na := by rfl) (hrw : wsum rest ≤ 8 := by exact Nat.le_of_ble_eq_true rfl) (hst : st = As.reverse ++ vR 65 0 :: rest := by rfl) (ha : As.map (ren P5) = As := by rfl) : At γ σ k n pc ls st (LH K m o d) := by
  refine At.callV (P := P5) (rest := rest) O S Kx w nd5 (fit_M K m o d) (ci := 12) (T := TX11) (N := 15) rfl (by rw [hcls]; rfl) hna hf hrw dd (by rw [ha]; exact hst) (fun v2 h2 hp => ?_) (fun E h2 hp => ?_)
  · obtain ⟨m', e1, rfl, hp⟩ := hp
    cases e1
    refine ⟨rfl, ?_⟩
    rw [plug_M, show List.map (ren P5) (Option.toList (some v)) = [v] from by show [ren P5 v] = [v]; rw [hv]]
    exact g m' hp
  · obtain ⟨m', e1, -⟩ := hp
    cases e1
theorem At.lA (As rest : List AV) {v : AV} {m2 : MS} (O : OK γ RL code) (S : Sp d2 0 0 M (vR 0 0 :: As) (mdl m) (PoA v (mdl m2))) (Kx : KV M na) (w : Cond.methodLink RL ix (mY M) ∈ GT) (hf : Fit γ k n d2 0 0) (dd : decode code pc = .ok (.invokevirtual ix, 3))
    (g : At γ σ k n (pc + 3) ls (v :: rest) (LH K m2 o d)) (hcls : (mY M).cls = RX11 := by rfl) (hv : ren P5 v = v := by rfl) (hna : As.length = na := by rfl) (hrw : wsum rest ≤ 8 := by exact Nat.le_of_ble_eq_true rfl) (hst : st = As.reverse ++ vR 65 0 :: rest := by rfl) (ha : As.map (ren P5) = As := by rfl) : At γ σ k n pc ls st (LH K m o d) :=
  At.lE As rest (P := fun m' => m' = m2) O (S.mono fun o h2 hp => ⟨m2, hp.1, hp.2, rfl⟩) Kx w hf dd (fun m' e => by rw [e]; exact g) hcls hv hna hrw hst ha
theorem At.lI (As rest : List AV) {x : Int32} {m2 : MS} (O : OK γ RL code) (S : Sp d2 0 0 M (vR 0 0 :: As) (mdl m) (PoI x (mdl m2))) (Kx : KV M na) (w : Cond.methodLink RL ix (mY M) ∈ GT) (hf : Fit γ k n d2 0 0) (dd : decode code pc = .ok (.invokevirtual ix, 3))
    (g : At γ σ k n (pc + 3) ls (vI x :: rest) (LH K m2 o d)) (hcls : (mY M).cls = RX11 := by rfl) (hna : As.length = na := by rfl) (hrw : wsum rest ≤ 8 := by exact Nat.le_of_ble_eq_true rfl) (hst : st = As.reverse ++ vR 65 0 :: rest := by rfl) (ha : As.map (ren P5) = As := by rfl) : At γ σ k n pc ls st (LH K m o d) :=
  At.lA As rest O (S : Sp d2 0 0 M (vR 0 0 :: As) (mdl m) (PoA (vI x) (mdl m2))) Kx w hf dd g hcls rfl hna hrw hst ha
end LCA
/-! ===== the law's body ===== -/
def LX (γ : CX) (b L : Nat) (xs : Nat → Int32) : Prop := OK γ RL code ∧ (cC γ).maxLocals = 9 ∧ cR γ = room_1 ∧ va_X b L xs (cS γ) (cS γ).heap ∧ b < (cS γ).heap.size ∧ ¬ cF γ b ∧ L ≤ 2048
abbrev kk (i : Nat) : Nat := 1000 + 12 * i
abbrev nn' (i : Nat) : Nat := 100000 + 2000 * i
abbrev lsL (b i : Nat) : List (Nat × AV) := [(0, .inl (.ref b)), (1, vR 0 0), (2, vR 65 0), (3, vR 70 0), (4, vR 71 0), (5, vI (nI (4 * i)))]
section LXR
variable {γ : CX} {σ : Nat → Nat → Nat} {b L i k n pc : Nat} {xs : Nat → Int32} {ls : List (Nat × AV)} {st : List AV} {h : AHp}
theorem LX.run (X : LX γ b L xs) {cs : List IE} (hc : okL false 34 code cs = true) (ct : List (Nat × List Nat)) (f : Nat) (hw : wp γ σ k n (fun _ _ => False) (some .boolean) 9 ct cs f (seek cs pc) ls st h) : At γ σ k n pc ls st h := by
  obtain ⟨q1, q2⟩ := seek_ok (t := pc) hc
  have hRK : RK γ σ k n code (some .boolean) (fun _ _ => False) := ⟨fun _ _ _ _ _ _ _ _ hp => hp.elim, fun _ _ _ _ _ _ hp => hp.elim, fun _ _ _ _ _ _ _ _ _ hp => hp.elim, fun _ _ _ _ _ hp => hp.elim⟩
  cases hs : seek cs pc with
  | nil =>
    rw [hs] at hw
    cases f <;> exact False.elim hw
  | cons e l =>
    rw [hs] at hw q1
    have := wp_ok (o := 34) X.1 (fun h => by cases h) hRK X.2.1 hc f e l ls st h q1 hw
    rw [q2 e l hs] at this
    exact this
theorem LX.fit (X : LX γ b L xs) {d2 mc2 ms2 : Nat} (hd : d2 ≤ 50 := by decide) (hk : k + mc2 ≤ 603072 := by omega) (hn : n + ms2 ≤ 7198826 := by omega) : Fit γ k n d2 mc2 ms2 := by
  unfold Fit
  rw [X.2.2.1]
  refine ⟨?_, ?_, hk, hn⟩
  · show d2 + 1 ≤ 2048
    omega
  · show 48 * d2 + 48 ≤ 94400
    omega
theorem sl_in {j : Nat} (hi : 4 * i + 4 ≤ L) (hL : L ≤ 2048) (hj : j < 4) : vp_in (nI (4 * i) + nI j) L := by
  rw [nI_add]
  exact nI_in (by omega) (by omega)
theorem LX.sld (X : LX γ b L xs) {y : Int32} (j : Nat) (hi : 4 * i + 4 ≤ L) (dd : decode code pc = .ok (.iaload, 1)) (g : At γ σ k n (pc + 1) ls (vI (xs (4 * i + j)) :: st) h) (hy : y = nI j := by rfl) (hj : j < 4 := by decide) : At γ σ k n pc ls (vI (nI (4 * i) + y) :: .inl (.ref b) :: st) h := fun η H locs lsA a b' c => by
  have hL := X.2.2.2.2.2.2
  refine va_sld X.1.1 X.1.2.1 X.2.2.2.1 X.2.2.2.2.1 X.2.2.2.2.2.1 b' (i := nI (4 * i) + y) (by rw [hy]; exact sl_in hi hL hj) dd ?_
  rw [hy, nI_add, nI_clamp (by omega)]
  exact g η H locs lsA a b' c
theorem LX.sl0 (X : LX γ b L xs) (hi : 4 * i + 4 ≤ L) (dd : decode code pc = .ok (.iaload, 1)) (g : At γ σ k n (pc + 1) ls (vI (xs (4 * i)) :: st) h) : At γ σ k n pc ls (vI (nI (4 * i)) :: .inl (.ref b) :: st) h := fun η H locs lsA a b' c => by
  have hL := X.2.2.2.2.2.2
  refine va_sld X.1.1 X.1.2.1 X.2.2.2.1 X.2.2.2.2.1 X.2.2.2.2.2.1 b' (i := nI (4 * i)) (nI_in (by omega) (by omega)) dd ?_
  rw [nI_clamp (by omega)]
  exact g η H locs lsA a b' c
theorem LX.slen (X : LX γ b L xs) (dd : decode code pc = .ok (.arraylength, 1)) (g : At γ σ k n (pc + 1) ls (vI (nI L) :: st) h) : At γ σ k n pc ls (.inl (.ref b) :: st) h := fun η H locs lsA a b' c => va_slen X.1.1 X.1.2.1 X.2.2.2.1 X.2.2.2.2.1 X.2.2.2.2.2.1 b' dd (g η H locs lsA a b' c)
end LXR
/-- behind a call: the next turn of the law's loop -/
def NX (γ : CX) (σ : Nat → Nat → Nat) (b i : Nat) : Prop := ∀ K m o d, EQ (8 * (i + 1)) K m → At γ σ (kk (i + 1)) (nn' (i + 1)) 3217 (lsL b i) [] (LH K m o d)
theorem dcIa {ini : Bool} {o : Nat} {cc : ByteArray} {l : List IE} (h : okL ini o cc l = true) {pc : Nat} (hd : dec_of l pc = some .iaload) : decode cc pc = .ok (.iaload, 1) := dc1L h hd (by simp [L1])
/-! the ends of the cases -/
theorem up_0 (o : Nat → Int64) (v : Int64) : oS o v (Int32.toNatClampNeg 0) = v := if_pos rfl
theorem up_0d (o : Nat → UInt64) (v : UInt64) : oSd o v (Int32.toNatClampNeg 0) = v := if_pos rfl
theorem lg_self (x : Int64) : lg_cmp x x = 0 := by
  unfold lg_cmp
  simp
theorem thr_n {q a b c d : Nat} (h : a < 1000 ∧ b < 1000 ∧ c < 1000 ∧ d < 1000) (e : nI (thr q a b c d) = 0) : thr q a b c d = 0 := by
  have hl : thr q a b c d < 1000 := by
    unfold thr
    (repeat' split) <;> omega
  rcases Nat.eq_zero_or_pos (thr q a b c d) with z | z
  · exact z
  · exact absurd e (nI_ne0 z (by omega))
/-- the comparison of an int answer -/
theorem tail_i {A : Prop} {x c : Int32} {y z : Int64} (hA : A) (e1 : x = c) (e2 : c = 0 → y = z) : (x = c → (c = 0 → vp_in 0 1 ∧ (lg_cmp y z = 0 → A) ∧ (¬ lg_cmp y z = 0 → ((0 : Int32) = 0 ∨ (0 : Int32) = 1) ∧ False)) ∧ (¬ c = 0 → A)) ∧ (¬ x = c → ((0 : Int32) = 0 ∨ (0 : Int32) = 1) ∧ False) :=
  ⟨fun _ => ⟨fun w => ⟨vk, fun _ => hA, fun q => absurd (by rw [e2 w]; exact lg_self z) q⟩, fun _ => hA⟩, fun w => absurd e1 w⟩
theorem e2_of {f c : Nat} {v b : Int32} {o : Nat → Int64} (hc : nI c = 0 → f = 0) (hb : f = 0 → b = v) : nI c = 0 → (if f = 0 then oS o v.toInt64 else o) (Int32.toNatClampNeg 0) = b.toInt64 := fun q => by
  rw [if_pos (hc q), up_0, hb (hc q)]
theorem rd_fin {i f : Nat} {K : KS'} {m : MS} {th : Int32} {U : SH} (h : EQ (8 * i) K m) (hU : WF U) (C : CS) : EQ (8 * (i + 1)) (scr (if f = 0 then K else K) U C) (wT m th) := by
  have h2 : EQ (8 * i) K (wT m th) := h
  rw [ite_self]
  exact (h2.le (by omega)).scr hU C
theorem rd2_fin {i f : Nat} {K : KS'} {m m' : MS} {th : Int32} {U : SH} (h : EQ (8 * i) K m) (r : RD th m m') (hU : WF U) (C : CS) : EQ (8 * (i + 1)) (scr (if f = 0 then K else K) U C) m' ∧ zT m' = th := by
  rw [ite_self]
  exact ⟨((h.rd r).1.le (by omega)).scr hU C, (h.rd r).2⟩
theorem ch_fin {i f th : Nat} {K : KS'} {m m' : MS} {S' T' U : SH} (h : EQ (8 * i) K m) (hg : f = 0 → GS (8 * i + 1) S' ∧ SP S' T') (h0 : f = 0 → th = 0) (h1 : th = 0 → f = 0) (c : PCh th (kH K).2.1 m m' T') (hU : WF U) (C : CS) : EQ (8 * (i + 1)) (scr (if f = 0 then chg K S' else K) U C) m' ∧ zT m' = nI th := by
  by_cases hf : f = 0
  · rw [if_pos hf]
    have ht := h0 hf
    subst ht
    obtain ⟨z1, z2⟩ := h.chg (hg hf).1 (hg hf).2 c
    exact ⟨(z1.le (by omega)).scr hU C, z2.trans nI_0.symm⟩
  · rw [if_neg hf]
    obtain ⟨z1, z2⟩ := h.no c (fun z => hf (h1 z))
    exact ⟨(z1.le (by omega)).scr hU C, z2⟩
