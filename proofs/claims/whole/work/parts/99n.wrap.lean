/-! ===== the law's static methods: the class's heap with an array behind it ===== -/
abbrev aL (o : Nat → Int64) : ACell := .inl (.long, 1, .inr (.inl o))
abbrev aDb (o : Nat → UInt64) : ACell := .inl (.double, 1, .inr (.inr (.inl o)))
abbrev oS (o : Nat → Int64) (v : Int64) : Nat → Int64 := vp_updL o (Int32.toNatClampNeg 0) v
abbrev oSd (o : Nat → UInt64) (v : UInt64) : Nat → UInt64 := vf_upd o (Int32.toNatClampNeg 0) v
def wZ (K : KS') (c : ACell) : AHp := world K ++ [[c]]
/-- how they end: the number of the handler, or 0 with the answer in the array -/
def PoW (f c : Nat) (c1 : ACell) (K1 K0 : KS') (c0 : ACell) : Out → AHp → Prop := fun out h => ∃ T C, WF T ∧ out = .inl (some (vI (nI c))) ∧ h = wZ (scr (if f = 0 then K1 else K0) T C) (if f = 0 then c1 else c0)
section RWE
variable {k n mc ms f c : Nat} {c1 c0 : ACell} {K1 K0 : KS'} {h : AHp} {x : Int32}
theorem rW0 (hf : f = 0) (hc : c = 0) (T : SH) (C : CS) (hT : WF T) (eh : h = wZ (scr K1 T C) c1 := by rfl) (hk : k ≤ mc := by decide) (hs : n ≤ ms := by decide) : RF k n mc ms (PoW f c c1 K1 K0 c0) (some (vI 0)) h :=
  ⟨⟨T, C, hT, by rw [hc]; rfl, by rw [if_pos hf, if_pos hf]; exact eh⟩, hk, hs⟩
theorem rWx (hf : ¬ f = 0) (hc : x = nI c) (T : SH) (C : CS) (hT : WF T) (eh : h = wZ (scr K0 T C) c0 := by rfl) (hk : k ≤ mc := by decide) (hs : n ≤ ms := by decide) : RF k n mc ms (PoW f c c1 K1 K0 c0) (some (vI x)) h :=
  ⟨⟨T, C, hT, by rw [hc], by rw [if_neg hf, if_neg hf]; exact eh⟩, hk, hs⟩
end RWE
abbrev R65 : List Nat := List.range' 0 65
theorem nd65 : va_nd R65 = true := by decide
theorem id65 : idU R65 65 := by
  intro r hr
  unfold rn
  rw [hnth_eq, show R65[r]? = some r from by rw [List.getElem?_range' hr]; simp]; rfl
section BCX
variable {hh : HH} {γ : CX} {σ : Nat → Nat → Nat} {pc N0 ms na ix f : Nat} {ls : List (Nat × AV)} {st : List AV} {M Mx : MR} {Po : Out → AHp → Prop} {K K1 K0 : KS'} {c0 : ACell} {v : Option AV}
/-- the call of the class's method -/
theorem BdH.callX (B : BdH hh γ σ M 13 12 ms N0 Po) (As rest : List AV) (S : Sp 12 12 ms Mx (vR 0 0 :: As) (world K) (PoC f v K1 K0)) (Kx : KV Mx na) (w : Cond.methodLink (cn (mO M)) ix (mY Mx) ∈ GT) (d : decode (mB M) pc = .ok (.invokevirtual ix, 3))
    (g : f = 0 → ∀ T C, WF T → At γ σ 12 ms (pc + 3) ls (v.toList ++ rest) (wZ (scr K1 T C) c0)) (gx : ¬ f = 0 → ∀ T C, WF T → AtX γ σ 12 ms (exF f) pc ls rest (wZ (scr K0 T C) c0))
    (hcls : (mY Mx).cls = RX10 := by rfl) (hv : v.toList.map (ren R65) = v.toList := by rfl) (hna : As.length = na := by rfl) (hrw : wsum rest ≤ 8 := by exact Nat.le_of_ble_eq_true rfl) (hst : st = As.reverse ++ vR 0 0 :: rest := by rfl) (ha : As.map (ren R65) = As := by rfl) : At γ σ 0 0 pc ls st (wZ K c0) := by
  have hf : Fit γ 0 0 12 12 ms := Fit.of B.2.2.2.2 (by decide) (by omega) (by omega)
  refine At.callV (P := R65) (rest := rest) B.1 S Kx w nd65 (Fits_pre id65 (world_bd K) (world_len K) [[c0]]) (ci := 11) (T := TX10) (N := 13) rfl (by rw [hcls]; rfl) hna hf hrw d (by rw [ha]; exact hst) (fun v2 h2 hp => ?_) (fun E h2 hp => ?_)
  · obtain ⟨T, C, hT, h0, h1⟩ := hp
    by_cases hz : f = 0
    · obtain ⟨e1, rfl⟩ := h0 hz
      cases e1
      refine ⟨rfl, ?_⟩
      have e := plug_pre id65 (world_bd (scr K1 T C)) (world_len K) (world_len (scr K1 T C)) [[c0]]
      rw [show plug R65 R65 (world (scr K1 T C)) (wZ K c0) = wZ (scr K1 T C) c0 from e, hv, Nat.zero_add, Nat.zero_add]
      exact g hz T C hT
    · cases (h1 hz).1
  · obtain ⟨T, C, hT, h0, h1⟩ := hp
    by_cases hz : f = 0
    · cases (h0 hz).1
    · obtain ⟨e1, rfl⟩ := h1 hz
      cases e1
      refine ⟨rfl, ?_⟩
      have e := plug_pre id65 (world_bd (scr K0 T C)) (world_len K) (world_len (scr K0 T C)) [[c0]]
      rw [show plug R65 R65 (world (scr K0 T C)) (wZ K c0) = wZ (scr K0 T C) c0 from e, Nat.zero_add, Nat.zero_add]
      exact gx hz T C hT
end BCX
/-! the law's exceptions -/
theorem FT_one {w : Cond} (h1 : w ∈ lw_tbl) (h2 : (w.onTables && w.keepsFace) = true) : w ∈ FT := List.mem_filter.mpr ⟨h1, h2⟩
theorem cl_A : Cond.classLink RL 13 xA ∈ FT := FT_one (List.mem_append_right _ (List.mem_of_getElem? (i := 878) (by decide +kernel))) rfl
theorem cl_S : Cond.classLink RL 15 xS ∈ FT := FT_one (List.mem_append_right _ (List.mem_of_getElem? (i := 879) (by decide +kernel))) rfl
theorem cl_I : Cond.classLink RL 20 xI ∈ FT := FT_one (List.mem_append_right _ (List.mem_of_getElem? (i := 967) (by decide +kernel))) rfl
theorem cl_N : Cond.classLink RL 26 xN ∈ FT := FT_one (List.mem_append_right _ (List.mem_of_getElem? (i := 988) (by decide +kernel))) rfl
theorem cl_M : Cond.classLink RL 137 xM ∈ FT := FT_one (List.mem_append_right _ (List.mem_of_getElem? (i := 1398) (by decide +kernel))) rfl
theorem ct_A : Cond.castable xA xA ∈ FT := FT_one (List.mem_append_right _ (List.mem_of_getElem? (i := 691) (by decide +kernel))) rfl
theorem ct_I : Cond.castable xI xI ∈ FT := FT_one (List.mem_append_right _ (List.mem_of_getElem? (i := 904) (by decide +kernel))) rfl
theorem ct_S : Cond.castable xS xS ∈ FT := FT_one (List.mem_append_right _ (List.mem_of_getElem? (i := 922) (by decide +kernel))) rfl
theorem ct_N : Cond.castable xN xN ∈ FT := FT_one (List.mem_append_right _ (List.mem_of_getElem? (i := 940) (by decide +kernel))) rfl
theorem ct_M : Cond.castable xM xM ∈ FT := FT_one (List.mem_append_right _ (List.mem_of_getElem? (i := 1410) (by decide +kernel))) rfl
theorem nc_SA : (xS, xA) ∈ ncL := List.mem_of_getElem? (i := 0) rfl
theorem nc_AI : (xA, xI) ∈ ncL := List.mem_of_getElem? (i := 1) rfl
theorem nc_SI : (xS, xI) ∈ ncL := List.mem_of_getElem? (i := 2) rfl
theorem nc_IN : (xI, xN) ∈ ncL := List.mem_of_getElem? (i := 3) rfl
theorem nc_SN : (xS, xN) ∈ ncL := List.mem_of_getElem? (i := 4) rfl
theorem nc_NI : (xN, xI) ∈ ncL := List.mem_of_getElem? (i := 5) rfl
theorem nc_NA : (xN, xA) ∈ ncL := List.mem_of_getElem? (i := 6) rfl
/-! what the faults may be -/
theorem fs_fAdd (S : SH) (x : Int32) (y : Int32) : fAdd S x y = 0 ∨ fAdd S x y = 2 ∨ fAdd S x y = 3 := by
  unfold fAdd
  (repeat' split) <;> simp_all
theorem fs_fLoad (S : SH) (x : Int32) (y : Int32) : fLoad S x y = 0 ∨ fLoad S x y = 1 ∨ fLoad S x y = 2 ∨ fLoad S x y = 3 := by
  unfold fLoad
  (repeat' split) <;> simp_all
theorem fs_fUnl (S : SH) (x : Int32) : fUnl S x = 0 ∨ fUnl S x = 4 := by
  unfold fUnl
  (repeat' split) <;> simp_all
theorem fs_fShf (S : SH) (x : Int32) (y : Int32) : fShf S x y = 0 ∨ fShf S x y = 1 ∨ fShf S x y = 3 ∨ fShf S x y = 4 := by
  unfold fShf
  (repeat' split) <;> simp_all
theorem fs_fRat (S : SH) (x : Int32) (y : Int32) : fRat S x y = 0 ∨ fRat S x y = 1 ∨ fRat S x y = 2 := by
  unfold fRat
  (repeat' split) <;> simp_all
theorem fs_fMov (S : SH) (x : Int32) (y : Int32) (a : Int32) : fMov S x y a = 0 ∨ fMov S x y a = 1 ∨ fMov S x y a = 2 ∨ fMov S x y a = 3 := by
  unfold fMov
  (repeat' split) <;> simp_all
theorem fs_fBal (S : SH) (a : Int32) (C : CS) : fBal S a C = 0 ∨ fBal S a C = 2 ∨ fBal S a C = 3 := by
  unfold fBal fAmt
  (repeat' split) <;> simp_all
theorem fs_fPow (x : Int32) : fPow x = 0 ∨ fPow x = 2 := by
  unfold fPow
  (repeat' split) <;> simp_all
theorem fs_fLim (x : Int32) : fLim x = 0 ∨ fLim x = 2 := by
  unfold fLim
  (repeat' split) <;> simp_all
theorem fs_fSch (S : SH) (x : Int32) (y : Int32) : fSch S x y = 0 ∨ fSch S x y = 2 ∨ fSch S x y = 3 := by
  unfold fSch
  (repeat' split) <;> simp_all
theorem fs_fStm (S : SH) (x : Int32) : fStm S x = 0 ∨ fStm S x = 4 := by
  unfold fStm
  (repeat' split) <;> simp_all
theorem fs_fPas (S : SH) (x : Int32) : fPas S x = 0 ∨ fPas S x = 2 ∨ fPas S x = 3 := by
  unfold fPas
  (repeat' split) <;> simp_all
theorem fs_fChk (S : SH) (x : Int32) : fChk S x = 0 ∨ fChk S x = 1 := by
  unfold fChk
  (repeat' split) <;> simp_all
theorem fs_fFst (p : Nat → Bool) (n : Nat) : fFst p n = 0 ∨ fFst p n = 4 := by
  unfold fFst
  (repeat' split) <;> simp_all
theorem fs_fFul (S : SH) (x : Int32) : fFul S x = 0 ∨ fFul S x = 1 ∨ fFul S x = 4 := by
  unfold fFul
  (repeat' split) <;> simp_all
theorem fs_fIdA (S : SH) (x : Int32) : fIdA S x = 0 ∨ fIdA S x = 1 := by
  unfold fIdA
  (repeat' split) <;> simp_all
theorem fs_fHvy (S : SH) : fHvy S = 0 ∨ fHvy S = 4 := by
  unfold fHvy
  (repeat' split) <;> simp_all
theorem fs_fBT (S : SH) (a : Int32) (C : CS) : fBT S a C = 0 ∨ fBT S a C = 2 ∨ fBT S a C = 4 := by
  unfold fBT fAmt
  (repeat' split) <;> simp_all
theorem fs_fTB (K : KS') (a : Int32) : fTB K a = 0 ∨ fTB K a = 2 ∨ fTB K a = 4 := by
  unfold fTB fAmt
  (repeat' split) <;> simp_all
theorem fs_fBS (S : SH) (C : CS) : fBS S C = 0 ∨ fBS S C = 4 := by
  unfold fBS
  (repeat' split) <;> simp_all
theorem fs_fMA (x : Int32) : fMA x = 0 ∨ fMA x = 2 := by
  unfold fMA
  (repeat' split) <;> simp_all
theorem fs_fMS (S : SH) : fMS S = 0 ∨ fMS S = 4 := by
  unfold fMS
  (repeat' split) <;> simp_all
theorem fs_fNxt (S : SH) : fNxt S = 0 ∨ fNxt S = 4 := by
  unfold fNxt
  (repeat' split) <;> simp_all
theorem fs_fLogA (S : SH) (x : Int32) : fLogA S x = 0 ∨ fLogA S x = 4 := by
  unfold fLogA
  (repeat' split) <;> simp_all
theorem fs_fMean (S : SH) : fMean S = 0 ∨ fMean S = 5 := by
  unfold fMean
  (repeat' split) <;> simp_all
theorem fs_fLch (L : SBB) (x : Int32) : fLch L x = 0 ∨ fLch L x = 1 := by
  unfold fLch
  (repeat' split) <;> simp_all
theorem fs_fApp (L : SBB) (x : Int32) : fApp L x = 0 ∨ fApp L x = 2 ∨ fApp L x = 3 := by
  unfold fApp
  (repeat' split) <;> simp_all
theorem fs_fRun (R : Bool × PS) (Q : Option Nat × SH) : fRun R Q = 0 ∨ fRun R Q = 2 ∨ fRun R Q = 3 := by
  unfold fRun
  (repeat' split) <;> simp_all
theorem fs_fUnd (H : Nat × Nat × (Nat → SH)) : fUnd H = 0 ∨ fUnd H = 3 := by
  unfold fUnd
  (repeat' split) <;> simp_all
theorem fs_fFlag (m : Nat) (x : Int32) : fFlag m x = 0 ∨ fFlag m x = m := by
  unfold fFlag
  split <;> simp
def bL (b : Bool) : Int64 := match b with
  | true => Int64.ofNat 1
  | false => Int64.ofNat 0
theorem w_addCompartment (K : KS') (hK : WK K) (x y : Int32) (o : Nat → Int64) : SpH hL_addCompartment 13 12 700 mL_addCompartment [vR 0 0, vI x, vI y, vR 65 0] (wZ K (aL o)) (PoW (fAdd (kS K) x y) (thr (fAdd (kS K) x y) 0 1 2 0) (aL (oS o (nI (gc (kS K))).toInt64)) (chg K (eAdd (kS K) x y)) K (aL o)) := by
  refine SpH.of (by decide) rfl rfl (Nat.le_of_ble_eq_true rfl) fun γ σ B => ?_
  refine B.run okL_addCompartment [] 60 ?_
  refine B.callX [vI x, vI y] [vI 0, vR 65 0] (m_addCompartment K hK x y) kX10_addCompartment ln_L_7 (dcV okL_addCompartment rfl) (fun hf T C hT => ?_) (fun hf T C hT => ?_)
  · refine B.run okL_addCompartment [] 60 ?_
    exact ⟨vk, rW0 hf (by rw [hf]; rfl) T C hT⟩
  · rcases fs_fAdd (kS K) x y with h | h | h
    · exact absurd h hf
    · refine AtX.catch (E := exF (fAdd (kS K) x y)) (name := xA) B.1 [] ⟨0, 10, 13, 13⟩ [⟨0, 10, 17, 15⟩] B.2.2.1 (by rw [h]; exact fun _ z => absurd z List.not_mem_nil) (by decide) (by decide) cl_A (by rw [h]; exact ct_A) fun q => ?_
      refine B.run okL_addCompartment [] 60 ?_
      exact rWx hf (by rw [h]; rfl) T C hT
    · refine AtX.catch (E := exF (fAdd (kS K) x y)) (name := xS) B.1 [⟨0, 10, 13, 13⟩] ⟨0, 10, 17, 15⟩ [] B.2.2.1 (by rw [h]; exact List.forall_mem_cons.mpr ⟨⟨by decide, xA, cl_A, nc_SA⟩, fun _ z => absurd z List.not_mem_nil⟩) (by decide) (by decide) cl_S (by rw [h]; exact ct_S) fun q => ?_
      refine B.run okL_addCompartment [] 60 ?_
      exact rWx hf (by rw [h]; rfl) T C hT
theorem w_load (K : KS') (hK : WK K) (x y : Int32) (o : Nat → Int64) : SpH hL_load 13 12 700 mL_load [vR 0 0, vI x, vI y, vR 65 0] (wZ K (aL o)) (PoW (fLoad (kS K) x y) (thr (fLoad (kS K) x y) 1 2 3 0) (aL (oS o (gnx (kS K)).toInt64)) (chg K (ePut (kS K) x y)) K (aL o)) := by
  refine SpH.of (by decide) rfl rfl (Nat.le_of_ble_eq_true rfl) fun γ σ B => ?_
  refine B.run okL_load [] 60 ?_
  refine B.callX [vI x, vI y] [vI 0, vR 65 0] (m_load K hK x y) kX10_load ln_L_17 (dcV okL_load rfl) (fun hf T C hT => ?_) (fun hf T C hT => ?_)
  · refine B.run okL_load [] 60 ?_
    exact ⟨vk, rW0 hf (by rw [hf]; rfl) T C hT⟩
  · rcases fs_fLoad (kS K) x y with h | h | h | h
    · exact absurd h hf
    · refine AtX.catch (E := exF (fLoad (kS K) x y)) (name := xI) B.1 [] ⟨0, 10, 13, 20⟩ [⟨0, 10, 17, 13⟩, ⟨0, 10, 21, 15⟩] B.2.2.1 (by rw [h]; exact fun _ z => absurd z List.not_mem_nil) (by decide) (by decide) cl_I (by rw [h]; exact ct_I) fun q => ?_
      refine B.run okL_load [] 60 ?_
      exact rWx hf (by rw [h]; rfl) T C hT
    · refine AtX.catch (E := exF (fLoad (kS K) x y)) (name := xA) B.1 [⟨0, 10, 13, 20⟩] ⟨0, 10, 17, 13⟩ [⟨0, 10, 21, 15⟩] B.2.2.1 (by rw [h]; exact List.forall_mem_cons.mpr ⟨⟨by decide, xI, cl_I, nc_AI⟩, fun _ z => absurd z List.not_mem_nil⟩) (by decide) (by decide) cl_A (by rw [h]; exact ct_A) fun q => ?_
      refine B.run okL_load [] 60 ?_
      exact rWx hf (by rw [h]; rfl) T C hT
    · refine AtX.catch (E := exF (fLoad (kS K) x y)) (name := xS) B.1 [⟨0, 10, 13, 20⟩, ⟨0, 10, 17, 13⟩] ⟨0, 10, 21, 15⟩ [] B.2.2.1 (by rw [h]; exact List.forall_mem_cons.mpr ⟨⟨by decide, xI, cl_I, nc_SI⟩, List.forall_mem_cons.mpr ⟨⟨by decide, xA, cl_A, nc_SA⟩, fun _ z => absurd z List.not_mem_nil⟩⟩) (by decide) (by decide) cl_S (by rw [h]; exact ct_S) fun q => ?_
      refine B.run okL_load [] 60 ?_
      exact rWx hf (by rw [h]; rfl) T C hT
theorem w_unload (K : KS') (hK : WK K) (x : Int32) (o : Nat → Int64) : SpH hL_unload 13 12 700 mL_unload [vR 0 0, vI x, vR 65 0] (wZ K (aL o)) (PoW (fUnl (kS K) x) (thr (fUnl (kS K) x) 0 0 0 1) (aL (oS o (gwt (kS K) (pq (kS K) x)).toInt64)) (chg K (eRem (kS K) x)) K (aL o)) := by
  refine SpH.of (by decide) rfl rfl (Nat.le_of_ble_eq_true rfl) fun γ σ B => ?_
  refine B.run okL_unload [] 60 ?_
  refine B.callX [vI x] [vI 0, vR 65 0] (m_unload K hK x) kX10_unload ln_L_22 (dcV okL_unload rfl) (fun hf T C hT => ?_) (fun hf T C hT => ?_)
  · refine B.run okL_unload [] 60 ?_
    exact ⟨vk, rW0 hf (by rw [hf]; rfl) T C hT⟩
  · rcases fs_fUnl (kS K) x with h | h
    · exact absurd h hf
    · refine AtX.catch (E := exF (fUnl (kS K) x)) (name := xN) B.1 [] ⟨0, 9, 12, 26⟩ [] B.2.2.1 (by rw [h]; exact fun _ z => absurd z List.not_mem_nil) (by decide) (by decide) cl_N (by rw [h]; exact ct_N) fun q => ?_
      refine B.run okL_unload [] 60 ?_
      exact rWx hf (by rw [h]; rfl) T C hT
theorem w_shift (K : KS') (hK : WK K) (x y : Int32) (o : Nat → Int64) : SpH hL_shift 13 12 700 mL_shift [vR 0 0, vI x, vI y, vR 65 0] (wZ K (aL o)) (PoW (fShf (kS K) x y) (thr (fShf (kS K) x y) 2 0 3 1) (aL (oS o (gpl (kS K) (pq (kS K) x)).toInt64)) (chg K (eCar (kS K) x y)) K (aL o)) := by
  refine SpH.of (by decide) rfl rfl (Nat.le_of_ble_eq_true rfl) fun γ σ B => ?_
  refine B.run okL_shift [] 60 ?_
  refine B.callX [vI x, vI y] [vI 0, vR 65 0] (m_shift K hK x y) kX10_shift ln_L_28 (dcV okL_shift rfl) (fun hf T C hT => ?_) (fun hf T C hT => ?_)
  · refine B.run okL_shift [] 60 ?_
    exact ⟨vk, rW0 hf (by rw [hf]; rfl) T C hT⟩
  · rcases fs_fShf (kS K) x y with h | h | h | h
    · exact absurd h hf
    · refine AtX.catch (E := exF (fShf (kS K) x y)) (name := xI) B.1 [⟨0, 10, 13, 26⟩] ⟨0, 10, 17, 20⟩ [⟨0, 10, 21, 15⟩] B.2.2.1 (by rw [h]; exact List.forall_mem_cons.mpr ⟨⟨by decide, xN, cl_N, nc_IN⟩, fun _ z => absurd z List.not_mem_nil⟩) (by decide) (by decide) cl_I (by rw [h]; exact ct_I) fun q => ?_
      refine B.run okL_shift [] 60 ?_
      exact rWx hf (by rw [h]; rfl) T C hT
    · refine AtX.catch (E := exF (fShf (kS K) x y)) (name := xS) B.1 [⟨0, 10, 13, 26⟩, ⟨0, 10, 17, 20⟩] ⟨0, 10, 21, 15⟩ [] B.2.2.1 (by rw [h]; exact List.forall_mem_cons.mpr ⟨⟨by decide, xN, cl_N, nc_SN⟩, List.forall_mem_cons.mpr ⟨⟨by decide, xI, cl_I, nc_SI⟩, fun _ z => absurd z List.not_mem_nil⟩⟩) (by decide) (by decide) cl_S (by rw [h]; exact ct_S) fun q => ?_
      refine B.run okL_shift [] 60 ?_
      exact rWx hf (by rw [h]; rfl) T C hT
    · refine AtX.catch (E := exF (fShf (kS K) x y)) (name := xN) B.1 [] ⟨0, 10, 13, 26⟩ [⟨0, 10, 17, 20⟩, ⟨0, 10, 21, 15⟩] B.2.2.1 (by rw [h]; exact fun _ z => absurd z List.not_mem_nil) (by decide) (by decide) cl_N (by rw [h]; exact ct_N) fun q => ?_
      refine B.run okL_shift [] 60 ?_
      exact rWx hf (by rw [h]; rfl) T C hT
theorem w_setLeak (K : KS') (hK : WK K) (x y : Int32) (o : Nat → Int64) : SpH hL_setLeak 13 12 700 mL_setLeak [vR 0 0, vI x, vI y, vR 65 0] (wZ K (aL o)) (PoW (fRat (kS K) x y) (thr (fRat (kS K) x y) 1 2 0 0) (aL (oS o (gl (kS K) x.toNatClampNeg).toInt64)) (chg K (eLk (kS K) x y)) K (aL o)) := by
  refine SpH.of (by decide) rfl rfl (Nat.le_of_ble_eq_true rfl) fun γ σ B => ?_
  refine B.run okL_setLeak [] 60 ?_
  refine B.callX [vI x, vI y] [vI 0, vR 65 0] (m_setLeak K hK x y) kX10_setLeak ln_L_31 (dcV okL_setLeak rfl) (fun hf T C hT => ?_) (fun hf T C hT => ?_)
  · refine B.run okL_setLeak [] 60 ?_
    exact ⟨vk, rW0 hf (by rw [hf]; rfl) T C hT⟩
  · rcases fs_fRat (kS K) x y with h | h | h
    · exact absurd h hf
    · refine AtX.catch (E := exF (fRat (kS K) x y)) (name := xI) B.1 [] ⟨0, 10, 13, 20⟩ [⟨0, 10, 17, 13⟩] B.2.2.1 (by rw [h]; exact fun _ z => absurd z List.not_mem_nil) (by decide) (by decide) cl_I (by rw [h]; exact ct_I) fun q => ?_
      refine B.run okL_setLeak [] 60 ?_
      exact rWx hf (by rw [h]; rfl) T C hT
    · refine AtX.catch (E := exF (fRat (kS K) x y)) (name := xA) B.1 [⟨0, 10, 13, 20⟩] ⟨0, 10, 17, 13⟩ [] B.2.2.1 (by rw [h]; exact List.forall_mem_cons.mpr ⟨⟨by decide, xI, cl_I, nc_AI⟩, fun _ z => absurd z List.not_mem_nil⟩) (by decide) (by decide) cl_A (by rw [h]; exact ct_A) fun q => ?_
      refine B.run okL_setLeak [] 60 ?_
      exact rWx hf (by rw [h]; rfl) T C hT
theorem w_setPump (K : KS') (hK : WK K) (x y : Int32) (o : Nat → Int64) : SpH hL_setPump 13 12 700 mL_setPump [vR 0 0, vI x, vI y, vR 65 0] (wZ K (aL o)) (PoW (fRat (kS K) x y) (thr (fRat (kS K) x y) 1 2 0 0) (aL (oS o (gu (kS K) x.toNatClampNeg).toInt64)) (chg K (eGu (kS K) x y)) K (aL o)) := by
  refine SpH.of (by decide) rfl rfl (Nat.le_of_ble_eq_true rfl) fun γ σ B => ?_
  refine B.run okL_setPump [] 60 ?_
  refine B.callX [vI x, vI y] [vI 0, vR 65 0] (m_setPump K hK x y) kX10_setPump ln_L_34 (dcV okL_setPump rfl) (fun hf T C hT => ?_) (fun hf T C hT => ?_)
  · refine B.run okL_setPump [] 60 ?_
    exact ⟨vk, rW0 hf (by rw [hf]; rfl) T C hT⟩
  · rcases fs_fRat (kS K) x y with h | h | h
    · exact absurd h hf
    · refine AtX.catch (E := exF (fRat (kS K) x y)) (name := xI) B.1 [] ⟨0, 10, 13, 20⟩ [⟨0, 10, 17, 13⟩] B.2.2.1 (by rw [h]; exact fun _ z => absurd z List.not_mem_nil) (by decide) (by decide) cl_I (by rw [h]; exact ct_I) fun q => ?_
      refine B.run okL_setPump [] 60 ?_
      exact rWx hf (by rw [h]; rfl) T C hT
    · refine AtX.catch (E := exF (fRat (kS K) x y)) (name := xA) B.1 [⟨0, 10, 13, 20⟩] ⟨0, 10, 17, 13⟩ [] B.2.2.1 (by rw [h]; exact List.forall_mem_cons.mpr ⟨⟨by decide, xI, cl_I, nc_AI⟩, fun _ z => absurd z List.not_mem_nil⟩) (by decide) (by decide) cl_A (by rw [h]; exact ct_A) fun q => ?_
      refine B.run okL_setPump [] 60 ?_
      exact rWx hf (by rw [h]; rfl) T C hT
theorem w_transfer (K : KS') (hK : WK K) (x y a : Int32) (o : Nat → Int64) : SpH hL_transfer 13 12 700 mL_transfer [vR 0 0, vI x, vI y, vI a, vR 65 0] (wZ K (aL o)) (PoW (fMov (kS K) x y a) (thr (fMov (kS K) x y a) 1 2 3 0) (aL (oS o (tmI (eMov (kS K) x y a)).toInt64)) (chg K (eMov (kS K) x y a)) K (aL o)) := by
  refine SpH.of (by decide) rfl rfl (Nat.le_of_ble_eq_true rfl) fun γ σ B => ?_
  refine B.run okL_transfer [] 60 ?_
  refine B.callX [vI x, vI y, vI a] [vI 0, vR 65 0] (m_transfer K hK x y a) kX10_transfer ln_L_37 (dcV okL_transfer rfl) (fun hf T C hT => ?_) (fun hf T C hT => ?_)
  · refine B.run okL_transfer [] 60 ?_
    exact ⟨vk, rW0 hf (by rw [hf]; rfl) T C hT⟩
  · rcases fs_fMov (kS K) x y a with h | h | h | h
    · exact absurd h hf
    · refine AtX.catch (E := exF (fMov (kS K) x y a)) (name := xI) B.1 [] ⟨0, 12, 15, 20⟩ [⟨0, 12, 19, 13⟩, ⟨0, 12, 23, 15⟩] B.2.2.1 (by rw [h]; exact fun _ z => absurd z List.not_mem_nil) (by decide) (by decide) cl_I (by rw [h]; exact ct_I) fun q => ?_
      refine B.run okL_transfer [] 60 ?_
      exact rWx hf (by rw [h]; rfl) T C hT
    · refine AtX.catch (E := exF (fMov (kS K) x y a)) (name := xA) B.1 [⟨0, 12, 15, 20⟩] ⟨0, 12, 19, 13⟩ [⟨0, 12, 23, 15⟩] B.2.2.1 (by rw [h]; exact List.forall_mem_cons.mpr ⟨⟨by decide, xI, cl_I, nc_AI⟩, fun _ z => absurd z List.not_mem_nil⟩) (by decide) (by decide) cl_A (by rw [h]; exact ct_A) fun q => ?_
      refine B.run okL_transfer [] 60 ?_
      exact rWx hf (by rw [h]; rfl) T C hT
    · refine AtX.catch (E := exF (fMov (kS K) x y a)) (name := xS) B.1 [⟨0, 12, 15, 20⟩, ⟨0, 12, 19, 13⟩] ⟨0, 12, 23, 15⟩ [] B.2.2.1 (by rw [h]; exact List.forall_mem_cons.mpr ⟨⟨by decide, xI, cl_I, nc_SI⟩, List.forall_mem_cons.mpr ⟨⟨by decide, xA, cl_A, nc_SA⟩, fun _ z => absurd z List.not_mem_nil⟩⟩) (by decide) (by decide) cl_S (by rw [h]; exact ct_S) fun q => ?_
      refine B.run okL_transfer [] 60 ?_
      exact rWx hf (by rw [h]; rfl) T C hT
theorem w_balance (K : KS') (hK : WK K) (a : Int32) (o : Nat → Int64) : SpH hL_balance 13 12 700 mL_balance [vR 0 0, vI a, vR 65 0] (wZ K (aL o)) (PoW (fBal (kS K) a (kC K)) (thr (fBal (kS K) a (kC K)) 0 1 2 0) (aL (oS o (tmI (eBal (kS K) a (kC K))).toInt64)) (chg K (eBal (kS K) a (kC K))) (K) (aL o)) := by
  refine SpH.of (by decide) rfl rfl (Nat.le_of_ble_eq_true rfl) fun γ σ B => ?_
  refine B.run okL_balance [] 60 ?_
  refine B.callX [vI a] [vI 0, vR 65 0] (m_balance K hK a) kX10_balance ln_L_41 (dcV okL_balance rfl) (fun hf T C hT => ?_) (fun hf T C hT => ?_)
  · refine B.run okL_balance [] 60 ?_
    exact ⟨vk, rW0 hf (by rw [hf]; rfl) T C hT⟩
  · rcases fs_fBal (kS K) a (kC K) with h | h | h
    · exact absurd h hf
    · refine AtX.catch (E := exF (fBal (kS K) a (kC K))) (name := xA) B.1 [] ⟨0, 9, 12, 13⟩ [⟨0, 9, 15, 15⟩] B.2.2.1 (by rw [h]; exact fun _ z => absurd z List.not_mem_nil) (by decide) (by decide) cl_A (by rw [h]; exact ct_A) fun q => ?_
      refine B.run okL_balance [] 60 ?_
      exact rWx hf (by rw [h]; rfl) T C hT
    · refine AtX.catch (E := exF (fBal (kS K) a (kC K))) (name := xS) B.1 [⟨0, 9, 12, 13⟩] ⟨0, 9, 15, 15⟩ [] B.2.2.1 (by rw [h]; exact List.forall_mem_cons.mpr ⟨⟨by decide, xA, cl_A, nc_SA⟩, fun _ z => absurd z List.not_mem_nil⟩) (by decide) (by decide) cl_S (by rw [h]; exact ct_S) fun q => ?_
      refine B.run okL_balance [] 60 ?_
      exact rWx hf (by rw [h]; rfl) T C hT
theorem w_setPower (K : KS') (hK : WK K) (x : Int32) (o : Nat → Int64) : SpH hL_setPower 13 12 700 mL_setPower [vR 0 0, vI x, vR 65 0] (wZ K (aL o)) (PoW (fPow x) (thr (fPow x) 0 1 0 0) (aL (oS o (gpw (kS K)).toInt64)) (chg K (ePow (kS K) x)) K (aL o)) := by
  refine SpH.of (by decide) rfl rfl (Nat.le_of_ble_eq_true rfl) fun γ σ B => ?_
  refine B.run okL_setPower [] 60 ?_
  refine B.callX [vI x] [vI 0, vR 65 0] (m_setPower K hK x) kX10_setPower ln_L_44 (dcV okL_setPower rfl) (fun hf T C hT => ?_) (fun hf T C hT => ?_)
  · refine B.run okL_setPower [] 60 ?_
    exact ⟨vk, rW0 hf (by rw [hf]; rfl) T C hT⟩
  · rcases fs_fPow x with h | h
    · exact absurd h hf
    · refine AtX.catch (E := exF (fPow x)) (name := xA) B.1 [] ⟨0, 9, 12, 13⟩ [] B.2.2.1 (by rw [h]; exact fun _ z => absurd z List.not_mem_nil) (by decide) (by decide) cl_A (by rw [h]; exact ct_A) fun q => ?_
      refine B.run okL_setPower [] 60 ?_
      exact rWx hf (by rw [h]; rfl) T C hT
theorem w_setLimit (K : KS') (hK : WK K) (x : Int32) (o : Nat → Int64) : SpH hL_setLimit 13 12 700 mL_setLimit [vR 0 0, vI x, vR 65 0] (wZ K (aL o)) (PoW (fLim x) (thr (fLim x) 0 1 0 0) (aL (oS o (glm (kS K)).toInt64)) (chg K (eLim (kS K) x)) K (aL o)) := by
  refine SpH.of (by decide) rfl rfl (Nat.le_of_ble_eq_true rfl) fun γ σ B => ?_
  refine B.run okL_setLimit [] 60 ?_
  refine B.callX [vI x] [vI 0, vR 65 0] (m_setLimit K hK x) kX10_setLimit ln_L_47 (dcV okL_setLimit rfl) (fun hf T C hT => ?_) (fun hf T C hT => ?_)
  · refine B.run okL_setLimit [] 60 ?_
    exact ⟨vk, rW0 hf (by rw [hf]; rfl) T C hT⟩
  · rcases fs_fLim x with h | h
    · exact absurd h hf
    · refine AtX.catch (E := exF (fLim x)) (name := xA) B.1 [] ⟨0, 9, 12, 13⟩ [] B.2.2.1 (by rw [h]; exact fun _ z => absurd z List.not_mem_nil) (by decide) (by decide) cl_A (by rw [h]; exact ct_A) fun q => ?_
      refine B.run okL_setLimit [] 60 ?_
      exact rWx hf (by rw [h]; rfl) T C hT
theorem w_schedule (K : KS') (hK : WK K) (x y : Int32) (o : Nat → Int64) : SpH hL_schedule 13 12 700 mL_schedule [vR 0 0, vI x, vI y, vR 65 0] (wZ K (aL o)) (PoW (fSch (kS K) x y) (thr (fSch (kS K) x y) 0 1 2 0) (aL (oS o (nI (gsc (kS K) + 1)).toInt64)) (chg K (eSch (kS K) x y)) K (aL o)) := by
  refine SpH.of (by decide) rfl rfl (Nat.le_of_ble_eq_true rfl) fun γ σ B => ?_
  refine B.run okL_schedule [] 60 ?_
  refine B.callX [vI x, vI y] [vI 0, vR 65 0] (m_schedule K hK x y) kX10_schedule ln_L_50 (dcV okL_schedule rfl) (fun hf T C hT => ?_) (fun hf T C hT => ?_)
  · refine B.run okL_schedule [] 60 ?_
    exact ⟨vk, rW0 hf (by rw [hf]; rfl) T C hT⟩
  · rcases fs_fSch (kS K) x y with h | h | h
    · exact absurd h hf
    · refine AtX.catch (E := exF (fSch (kS K) x y)) (name := xA) B.1 [] ⟨0, 10, 13, 13⟩ [⟨0, 10, 17, 15⟩] B.2.2.1 (by rw [h]; exact fun _ z => absurd z List.not_mem_nil) (by decide) (by decide) cl_A (by rw [h]; exact ct_A) fun q => ?_
      refine B.run okL_schedule [] 60 ?_
      exact rWx hf (by rw [h]; rfl) T C hT
    · refine AtX.catch (E := exF (fSch (kS K) x y)) (name := xS) B.1 [⟨0, 10, 13, 13⟩] ⟨0, 10, 17, 15⟩ [] B.2.2.1 (by rw [h]; exact List.forall_mem_cons.mpr ⟨⟨by decide, xA, cl_A, nc_SA⟩, fun _ z => absurd z List.not_mem_nil⟩) (by decide) (by decide) cl_S (by rw [h]; exact ct_S) fun q => ?_
      refine B.run okL_schedule [] 60 ?_
      exact rWx hf (by rw [h]; rfl) T C hT
theorem w_cancelStorm (K : KS') (hK : WK K) (x : Int32) (o : Nat → Int64) : SpH hL_cancelStorm 13 12 700 mL_cancelStorm [vR 0 0, vI x, vR 65 0] (wZ K (aL o)) (PoW (fStm (kS K) x) (thr (fStm (kS K) x) 0 0 0 1) (aL (oS o (gsg (kS K) (tq (kS K) x)).toInt64)) (chg K (eCan (kS K) x)) (K) (aL o)) := by
  refine SpH.of (by decide) rfl rfl (Nat.le_of_ble_eq_true rfl) fun γ σ B => ?_
  refine B.run okL_cancelStorm [] 60 ?_
  refine B.callX [vI x] [vI 0, vR 65 0] (m_cancelStorm K hK x) kX10_cancelStorm ln_L_53 (dcV okL_cancelStorm rfl) (fun hf T C hT => ?_) (fun hf T C hT => ?_)
  · refine B.run okL_cancelStorm [] 60 ?_
    exact ⟨vk, rW0 hf (by rw [hf]; rfl) T C hT⟩
  · rcases fs_fStm (kS K) x with h | h
    · exact absurd h hf
    · refine AtX.catch (E := exF (fStm (kS K) x)) (name := xN) B.1 [] ⟨0, 9, 12, 26⟩ [] B.2.2.1 (by rw [h]; exact fun _ z => absurd z List.not_mem_nil) (by decide) (by decide) cl_N (by rw [h]; exact ct_N) fun q => ?_
      refine B.run okL_cancelStorm [] 60 ?_
      exact rWx hf (by rw [h]; rfl) T C hT
theorem w_pass (K : KS') (hK : WK K) (x : Int32) (o : Nat → Int64) : SpH hL_pass 13 12 700 mL_pass [vR 0 0, vI x, vR 65 0] (wZ K (aL o)) (PoW (fPas (kS K) x) (thr (fPas (kS K) x) 0 1 2 0) (aL (oS o (nI (tkc x.toNatClampNeg (kS K))).toInt64)) (chg K (ePas (kS K) x)) K (aL o)) := by
  refine SpH.of (by decide) rfl rfl (Nat.le_of_ble_eq_true rfl) fun γ σ B => ?_
  refine B.run okL_pass [] 60 ?_
  refine B.callX [vI x] [vI 0, vR 65 0] (m_pass K hK x) kX10_pass ln_L_56 (dcV okL_pass rfl) (fun hf T C hT => ?_) (fun hf T C hT => ?_)
  · refine B.run okL_pass [] 60 ?_
    exact ⟨vk, rW0 hf (by rw [hf]; rfl) T C hT⟩
  · rcases fs_fPas (kS K) x with h | h | h
    · exact absurd h hf
    · refine AtX.catch (E := exF (fPas (kS K) x)) (name := xA) B.1 [] ⟨0, 9, 12, 13⟩ [⟨0, 9, 15, 15⟩] B.2.2.1 (by rw [h]; exact fun _ z => absurd z List.not_mem_nil) (by decide) (by decide) cl_A (by rw [h]; exact ct_A) fun q => ?_
      refine B.run okL_pass [] 60 ?_
      exact rWx hf (by rw [h]; rfl) T C hT
    · refine AtX.catch (E := exF (fPas (kS K) x)) (name := xS) B.1 [⟨0, 9, 12, 13⟩] ⟨0, 9, 15, 15⟩ [] B.2.2.1 (by rw [h]; exact List.forall_mem_cons.mpr ⟨⟨by decide, xA, cl_A, nc_SA⟩, fun _ z => absurd z List.not_mem_nil⟩) (by decide) (by decide) cl_S (by rw [h]; exact ct_S) fun q => ?_
      refine B.run okL_pass [] 60 ?_
      exact rWx hf (by rw [h]; rfl) T C hT
theorem w_arm (K : KS') (hK : WK K) (x : Int32) (o : Nat → Int64) : SpH hL_arm 13 12 700 mL_arm [vR 0 0, vI x, vR 65 0] (wZ K (aL o)) (PoW (fChk (kS K) x) (thr (fChk (kS K) x) 1 0 0 0) (aL (oS o (gar (kS K) x.toNatClampNeg).toInt64)) (K) (K) (aL o)) := by
  refine SpH.of (by decide) rfl rfl (Nat.le_of_ble_eq_true rfl) fun γ σ B => ?_
  refine B.run okL_arm [] 60 ?_
  refine B.callX [vI x] [vI 0, vR 65 0] (m_arm K hK x) kX10_arm ln_L_59 (dcV okL_arm rfl) (fun hf T C hT => ?_) (fun hf T C hT => ?_)
  · refine B.run okL_arm [] 60 ?_
    exact ⟨vk, rW0 hf (by rw [hf]; rfl) T C hT⟩
  · rcases fs_fChk (kS K) x with h | h
    · exact absurd h hf
    · refine AtX.catch (E := exF (fChk (kS K) x)) (name := xI) B.1 [] ⟨0, 9, 12, 20⟩ [] B.2.2.1 (by rw [h]; exact fun _ z => absurd z List.not_mem_nil) (by decide) (by decide) cl_I (by rw [h]; exact ct_I) fun q => ?_
      refine B.run okL_arm [] 60 ?_
      exact rWx hf (by rw [h]; rfl) T C hT
theorem w_capacity (K : KS') (hK : WK K) (x : Int32) (o : Nat → Int64) : SpH hL_capacity 13 12 700 mL_capacity [vR 0 0, vI x, vR 65 0] (wZ K (aL o)) (PoW (fChk (kS K) x) (thr (fChk (kS K) x) 1 0 0 0) (aL (oS o (gcp (kS K) x.toNatClampNeg).toInt64)) (K) (K) (aL o)) := by
  refine SpH.of (by decide) rfl rfl (Nat.le_of_ble_eq_true rfl) fun γ σ B => ?_
  refine B.run okL_capacity [] 60 ?_
  refine B.callX [vI x] [vI 0, vR 65 0] (m_capacity K hK x) kX10_capacity ln_L_62 (dcV okL_capacity rfl) (fun hf T C hT => ?_) (fun hf T C hT => ?_)
  · refine B.run okL_capacity [] 60 ?_
    exact ⟨vk, rW0 hf (by rw [hf]; rfl) T C hT⟩
  · rcases fs_fChk (kS K) x with h | h
    · exact absurd h hf
    · refine AtX.catch (E := exF (fChk (kS K) x)) (name := xI) B.1 [] ⟨0, 9, 12, 20⟩ [] B.2.2.1 (by rw [h]; exact fun _ z => absurd z List.not_mem_nil) (by decide) (by decide) cl_I (by rw [h]; exact ct_I) fun q => ?_
      refine B.run okL_capacity [] 60 ?_
      exact rWx hf (by rw [h]; rfl) T C hT
theorem w_water (K : KS') (hK : WK K) (x : Int32) (o : Nat → Int64) : SpH hL_water 13 12 700 mL_water [vR 0 0, vI x, vR 65 0] (wZ K (aL o)) (PoW (fChk (kS K) x) (thr (fChk (kS K) x) 1 0 0 0) (aL (oS o (gw (kS K) x.toNatClampNeg).toInt64)) (K) (K) (aL o)) := by
  refine SpH.of (by decide) rfl rfl (Nat.le_of_ble_eq_true rfl) fun γ σ B => ?_
  refine B.run okL_water [] 60 ?_
  refine B.callX [vI x] [vI 0, vR 65 0] (m_water K hK x) kX10_water ln_L_65 (dcV okL_water rfl) (fun hf T C hT => ?_) (fun hf T C hT => ?_)
  · refine B.run okL_water [] 60 ?_
    exact ⟨vk, rW0 hf (by rw [hf]; rfl) T C hT⟩
  · rcases fs_fChk (kS K) x with h | h
    · exact absurd h hf
    · refine AtX.catch (E := exF (fChk (kS K) x)) (name := xI) B.1 [] ⟨0, 9, 12, 20⟩ [] B.2.2.1 (by rw [h]; exact fun _ z => absurd z List.not_mem_nil) (by decide) (by decide) cl_I (by rw [h]; exact ct_I) fun q => ?_
      refine B.run okL_water [] 60 ?_
      exact rWx hf (by rw [h]; rfl) T C hT
theorem w_leak (K : KS') (hK : WK K) (x : Int32) (o : Nat → Int64) : SpH hL_leak 13 12 700 mL_leak [vR 0 0, vI x, vR 65 0] (wZ K (aL o)) (PoW (fChk (kS K) x) (thr (fChk (kS K) x) 1 0 0 0) (aL (oS o (gl (kS K) x.toNatClampNeg).toInt64)) (K) (K) (aL o)) := by
  refine SpH.of (by decide) rfl rfl (Nat.le_of_ble_eq_true rfl) fun γ σ B => ?_
  refine B.run okL_leak [] 60 ?_
  refine B.callX [vI x] [vI 0, vR 65 0] (m_leak K hK x) kX10_leak ln_L_68 (dcV okL_leak rfl) (fun hf T C hT => ?_) (fun hf T C hT => ?_)
  · refine B.run okL_leak [] 60 ?_
    exact ⟨vk, rW0 hf (by rw [hf]; rfl) T C hT⟩
  · rcases fs_fChk (kS K) x with h | h
    · exact absurd h hf
    · refine AtX.catch (E := exF (fChk (kS K) x)) (name := xI) B.1 [] ⟨0, 9, 12, 20⟩ [] B.2.2.1 (by rw [h]; exact fun _ z => absurd z List.not_mem_nil) (by decide) (by decide) cl_I (by rw [h]; exact ct_I) fun q => ?_
      refine B.run okL_leak [] 60 ?_
      exact rWx hf (by rw [h]; rfl) T C hT
theorem w_loadOf (K : KS') (hK : WK K) (x : Int32) (o : Nat → Int64) : SpH hL_loadOf 13 12 700 mL_loadOf [vR 0 0, vI x, vR 65 0] (wZ K (aL o)) (PoW (fChk (kS K) x) (thr (fChk (kS K) x) 1 0 0 0) (aL (oS o (ldI (kS K) x.toNatClampNeg).toInt64)) (K) (K) (aL o)) := by
  refine SpH.of (by decide) rfl rfl (Nat.le_of_ble_eq_true rfl) fun γ σ B => ?_
  refine B.run okL_loadOf [] 60 ?_
  refine B.callX [vI x] [vI 0, vR 65 0] (m_loadOf K hK x) kX10_loadOf ln_L_71 (dcV okL_loadOf rfl) (fun hf T C hT => ?_) (fun hf T C hT => ?_)
  · refine B.run okL_loadOf [] 60 ?_
    exact ⟨vk, rW0 hf (by rw [hf]; rfl) T C hT⟩
  · rcases fs_fChk (kS K) x with h | h
    · exact absurd h hf
    · refine AtX.catch (E := exF (fChk (kS K) x)) (name := xI) B.1 [] ⟨0, 9, 12, 20⟩ [] B.2.2.1 (by rw [h]; exact fun _ z => absurd z List.not_mem_nil) (by decide) (by decide) cl_I (by rw [h]; exact ct_I) fun q => ?_
      refine B.run okL_loadOf [] 60 ?_
      exact rWx hf (by rw [h]; rfl) T C hT
theorem w_wouldPump (K : KS') (hK : WK K) (x : Int32) (o : Nat → Int64) : SpH hL_wouldPump 13 12 700 mL_wouldPump [vR 0 0, vI x, vR 65 0] (wZ K (aL o)) (PoW (fChk (kS K) x) (thr (fChk (kS K) x) 1 0 0 0) (aL (oS o (bL (rnB (gu (kS K)) (gw (kS K)) (gc (kS K)) (gpw (kS K)) x.toNatClampNeg)))) (K) (K) (aL o)) := by
  refine SpH.of (by decide) rfl rfl (Nat.le_of_ble_eq_true rfl) fun γ σ B => ?_
  refine B.run okL_wouldPump [] 60 ?_
  refine B.callX [vI x] [vI 0, vR 65 0] (m_wouldPump K hK x) kX10_wouldPump ln_L_74 (dcV okL_wouldPump rfl) (fun hf T C hT => ?_) (fun hf T C hT => ?_)
  · refine B.run okL_wouldPump [] 60 ?_
    constructor
    · intro w
      exact ⟨vk, rW0 hf (by rw [hf]; rfl) T C hT (by rw [b2_eq0.mp w]; rfl)⟩
    · intro w
      exact ⟨vk, rW0 hf (by rw [hf]; rfl) T C hT (by rw [b2_ne0.mp w]; rfl)⟩
  · rcases fs_fChk (kS K) x with h | h
    · exact absurd h hf
    · refine AtX.catch (E := exF (fChk (kS K) x)) (name := xI) B.1 [] ⟨0, 16, 19, 20⟩ [] B.2.2.1 (by rw [h]; exact fun _ z => absurd z List.not_mem_nil) (by decide) (by decide) cl_I (by rw [h]; exact ct_I) fun q => ?_
      refine B.run okL_wouldPump [] 60 ?_
      exact rWx hf (by rw [h]; rfl) T C hT
theorem w_pumpAt (K : KS') (hK : WK K) (x : Int32) (o : Nat → Int64) : SpH hL_pumpAt 13 12 700 mL_pumpAt [vR 0 0, vI x, vR 65 0] (wZ K (aL o)) (PoW (fFst (pAt (kS K) x) (gc (kS K))) (thr (fFst (pAt (kS K) x) (gc (kS K))) 0 0 0 1) (aL (oS o (nI (fst (pAt (kS K) x) (gc (kS K)))).toInt64)) (K) (K) (aL o)) := by
  refine SpH.of (by decide) rfl rfl (Nat.le_of_ble_eq_true rfl) fun γ σ B => ?_
  refine B.run okL_pumpAt [] 60 ?_
  refine B.callX [vI x] [vI 0, vR 65 0] (m_pumpAt K hK x) kX10_pumpAt ln_L_78 (dcV okL_pumpAt rfl) (fun hf T C hT => ?_) (fun hf T C hT => ?_)
  · refine B.run okL_pumpAt [] 60 ?_
    exact ⟨vk, rW0 hf (by rw [hf]; rfl) T C hT⟩
  · rcases fs_fFst (pAt (kS K) x) (gc (kS K)) with h | h
    · exact absurd h hf
    · refine AtX.catch (E := exF (fFst (pAt (kS K) x) (gc (kS K)))) (name := xN) B.1 [] ⟨0, 9, 12, 26⟩ [] B.2.2.1 (by rw [h]; exact fun _ z => absurd z List.not_mem_nil) (by decide) (by decide) cl_N (by rw [h]; exact ct_N) fun q => ?_
      refine B.run okL_pumpAt [] 60 ?_
      exact rWx hf (by rw [h]; rfl) T C hT
theorem w_minutesUntilFull (K : KS') (hK : WK K) (x : Int32) (o : Nat → Int64) : SpH hL_minutesUntilFull 13 12 700 mL_minutesUntilFull [vR 0 0, vI x, vR 65 0] (wZ K (aL o)) (PoW (fFul (kS K) x) (thr (fFul (kS K) x) 1 0 0 2) (aL (oS o (vFul (kS K) x).toInt64)) (K) (K) (aL o)) := by
  refine SpH.of (by decide) rfl rfl (Nat.le_of_ble_eq_true rfl) fun γ σ B => ?_
  refine B.run okL_minutesUntilFull [] 60 ?_
  refine B.callX [vI x] [vI 0, vR 65 0] (m_minutesUntilFull K hK x) kX10_minutesUntilFull ln_L_81 (dcV okL_minutesUntilFull rfl) (fun hf T C hT => ?_) (fun hf T C hT => ?_)
  · refine B.run okL_minutesUntilFull [] 60 ?_
    exact ⟨vk, rW0 hf (by rw [hf]; rfl) T C hT⟩
  · rcases fs_fFul (kS K) x with h | h | h
    · exact absurd h hf
    · refine AtX.catch (E := exF (fFul (kS K) x)) (name := xI) B.1 [] ⟨0, 9, 12, 20⟩ [⟨0, 9, 15, 26⟩] B.2.2.1 (by rw [h]; exact fun _ z => absurd z List.not_mem_nil) (by decide) (by decide) cl_I (by rw [h]; exact ct_I) fun q => ?_
      refine B.run okL_minutesUntilFull [] 60 ?_
      exact rWx hf (by rw [h]; rfl) T C hT
    · refine AtX.catch (E := exF (fFul (kS K) x)) (name := xN) B.1 [⟨0, 9, 12, 20⟩] ⟨0, 9, 15, 26⟩ [] B.2.2.1 (by rw [h]; exact List.forall_mem_cons.mpr ⟨⟨by decide, xI, cl_I, nc_NI⟩, fun _ z => absurd z List.not_mem_nil⟩) (by decide) (by decide) cl_N (by rw [h]; exact ct_N) fun q => ?_
      refine B.run okL_minutesUntilFull [] 60 ?_
      exact rWx hf (by rw [h]; rfl) T C hT
theorem w_idAt (K : KS') (hK : WK K) (x : Int32) (o : Nat → Int64) : SpH hL_idAt 13 12 700 mL_idAt [vR 0 0, vI x, vR 65 0] (wZ K (aL o)) (PoW (fIdA (kS K) x) (thr (fIdA (kS K) x) 1 0 0 0) (aL (oS o (gid (kS K) x.toNatClampNeg).toInt64)) (K) (K) (aL o)) := by
  refine SpH.of (by decide) rfl rfl (Nat.le_of_ble_eq_true rfl) fun γ σ B => ?_
  refine B.run okL_idAt [] 60 ?_
  refine B.callX [vI x] [vI 0, vR 65 0] (m_idAt K hK x) kX10_idAt ln_L_84 (dcV okL_idAt rfl) (fun hf T C hT => ?_) (fun hf T C hT => ?_)
  · refine B.run okL_idAt [] 60 ?_
    exact ⟨vk, rW0 hf (by rw [hf]; rfl) T C hT⟩
  · rcases fs_fIdA (kS K) x with h | h
    · exact absurd h hf
    · refine AtX.catch (E := exF (fIdA (kS K) x)) (name := xI) B.1 [] ⟨0, 9, 12, 20⟩ [] B.2.2.1 (by rw [h]; exact fun _ z => absurd z List.not_mem_nil) (by decide) (by decide) cl_I (by rw [h]; exact ct_I) fun q => ?_
      refine B.run okL_idAt [] 60 ?_
      exact rWx hf (by rw [h]; rfl) T C hT
theorem w_weightOf (K : KS') (hK : WK K) (x : Int32) (o : Nat → Int64) : SpH hL_weightOf 13 12 700 mL_weightOf [vR 0 0, vI x, vR 65 0] (wZ K (aL o)) (PoW (fUnl (kS K) x) (thr (fUnl (kS K) x) 0 0 0 1) (aL (oS o (gwt (kS K) (pq (kS K) x)).toInt64)) (K) (K) (aL o)) := by
  refine SpH.of (by decide) rfl rfl (Nat.le_of_ble_eq_true rfl) fun γ σ B => ?_
  refine B.run okL_weightOf [] 60 ?_
  refine B.callX [vI x] [vI 0, vR 65 0] (m_weightOf K hK x) kX10_weightOf ln_L_87 (dcV okL_weightOf rfl) (fun hf T C hT => ?_) (fun hf T C hT => ?_)
  · refine B.run okL_weightOf [] 60 ?_
    exact ⟨vk, rW0 hf (by rw [hf]; rfl) T C hT⟩
  · rcases fs_fUnl (kS K) x with h | h
    · exact absurd h hf
    · refine AtX.catch (E := exF (fUnl (kS K) x)) (name := xN) B.1 [] ⟨0, 9, 12, 26⟩ [] B.2.2.1 (by rw [h]; exact fun _ z => absurd z List.not_mem_nil) (by decide) (by decide) cl_N (by rw [h]; exact ct_N) fun q => ?_
      refine B.run okL_weightOf [] 60 ?_
      exact rWx hf (by rw [h]; rfl) T C hT
theorem w_compartmentOf (K : KS') (hK : WK K) (x : Int32) (o : Nat → Int64) : SpH hL_compartmentOf 13 12 700 mL_compartmentOf [vR 0 0, vI x, vR 65 0] (wZ K (aL o)) (PoW (fUnl (kS K) x) (thr (fUnl (kS K) x) 0 0 0 1) (aL (oS o (gpl (kS K) (pq (kS K) x)).toInt64)) (K) (K) (aL o)) := by
  refine SpH.of (by decide) rfl rfl (Nat.le_of_ble_eq_true rfl) fun γ σ B => ?_
  refine B.run okL_compartmentOf [] 60 ?_
  refine B.callX [vI x] [vI 0, vR 65 0] (m_compartmentOf K hK x) kX10_compartmentOf ln_L_90 (dcV okL_compartmentOf rfl) (fun hf T C hT => ?_) (fun hf T C hT => ?_)
  · refine B.run okL_compartmentOf [] 60 ?_
    exact ⟨vk, rW0 hf (by rw [hf]; rfl) T C hT⟩
  · rcases fs_fUnl (kS K) x with h | h
    · exact absurd h hf
    · refine AtX.catch (E := exF (fUnl (kS K) x)) (name := xN) B.1 [] ⟨0, 9, 12, 26⟩ [] B.2.2.1 (by rw [h]; exact fun _ z => absurd z List.not_mem_nil) (by decide) (by decide) cl_N (by rw [h]; exact ct_N) fun q => ?_
      refine B.run okL_compartmentOf [] 60 ?_
      exact rWx hf (by rw [h]; rfl) T C hT
theorem w_heaviestPiece (K : KS') (hK : WK K) (o : Nat → Int64) : SpH hL_heaviestPiece 13 12 700 mL_heaviestPiece [vR 0 0, vR 65 0] (wZ K (aL o)) (PoW (fHvy (kS K)) (thr (fHvy (kS K)) 0 0 0 1) (aL (oS o (gid (kS K) (fuN (gwt (kS K)) (gp (kS K)))).toInt64)) (K) (K) (aL o)) := by
  refine SpH.of (by decide) rfl rfl (Nat.le_of_ble_eq_true rfl) fun γ σ B => ?_
  refine B.run okL_heaviestPiece [] 60 ?_
  refine B.callX [] [vI 0, vR 65 0] (m_heaviestPiece K hK) kX10_heaviestPiece ln_L_93 (dcV okL_heaviestPiece rfl) (fun hf T C hT => ?_) (fun hf T C hT => ?_)
  · refine B.run okL_heaviestPiece [] 60 ?_
    exact ⟨vk, rW0 hf (by rw [hf]; rfl) T C hT⟩
  · rcases fs_fHvy (kS K) with h | h
    · exact absurd h hf
    · refine AtX.catch (E := exF (fHvy (kS K))) (name := xN) B.1 [] ⟨0, 8, 11, 26⟩ [] B.2.2.1 (by rw [h]; exact fun _ z => absurd z List.not_mem_nil) (by decide) (by decide) cl_N (by rw [h]; exact ct_N) fun q => ?_
      refine B.run okL_heaviestPiece [] 60 ?_
      exact rWx hf (by rw [h]; rfl) T C hT
theorem w_bestSource (K : KS') (hK : WK K) (a : Int32) (o : Nat → Int64) : SpH hL_bestSource 13 12 700 mL_bestSource [vR 0 0, vI a, vR 65 0] (wZ K (aL o)) (PoW (fBT (kS K) a (kC K)) (thr (fBT (kS K) a (kC K)) 0 1 0 2) (aL (oS o (bS (kS K) a (tmI (kS K)) (kC K)).2.1.toInt64)) (K) (K) (aL o)) := by
  refine SpH.of (by decide) rfl rfl (Nat.le_of_ble_eq_true rfl) fun γ σ B => ?_
  refine B.run okL_bestSource [] 60 ?_
  refine B.callX [vI a] [vI 0, vR 65 0] (m_bestSource K hK a) kX10_bestSource ln_L_97 (dcV okL_bestSource rfl) (fun hf T C hT => ?_) (fun hf T C hT => ?_)
  · refine B.run okL_bestSource [] 60 ?_
    exact ⟨vk, rW0 hf (by rw [hf]; rfl) T C hT⟩
  · rcases fs_fBT (kS K) a (kC K) with h | h | h
    · exact absurd h hf
    · refine AtX.catch (E := exF (fBT (kS K) a (kC K))) (name := xA) B.1 [] ⟨0, 9, 12, 13⟩ [⟨0, 9, 15, 26⟩] B.2.2.1 (by rw [h]; exact fun _ z => absurd z List.not_mem_nil) (by decide) (by decide) cl_A (by rw [h]; exact ct_A) fun q => ?_
      refine B.run okL_bestSource [] 60 ?_
      exact rWx hf (by rw [h]; rfl) T C hT
    · refine AtX.catch (E := exF (fBT (kS K) a (kC K))) (name := xN) B.1 [⟨0, 9, 12, 13⟩] ⟨0, 9, 15, 26⟩ [] B.2.2.1 (by rw [h]; exact List.forall_mem_cons.mpr ⟨⟨by decide, xA, cl_A, nc_NA⟩, fun _ z => absurd z List.not_mem_nil⟩) (by decide) (by decide) cl_N (by rw [h]; exact ct_N) fun q => ?_
      refine B.run okL_bestSource [] 60 ?_
      exact rWx hf (by rw [h]; rfl) T C hT
theorem w_bestTarget (K : KS') (hK : WK K) (a : Int32) (o : Nat → Int64) : SpH hL_bestTarget 13 12 700 mL_bestTarget [vR 0 0, vI a, vR 65 0] (wZ K (aL o)) (PoW (fBT (kS K) a (kC K)) (thr (fBT (kS K) a (kC K)) 0 1 0 2) (aL (oS o (bS (kS K) a (tmI (kS K)) (kC K)).2.2.1.toInt64)) (K) (K) (aL o)) := by
  refine SpH.of (by decide) rfl rfl (Nat.le_of_ble_eq_true rfl) fun γ σ B => ?_
  refine B.run okL_bestTarget [] 60 ?_
  refine B.callX [vI a] [vI 0, vR 65 0] (m_bestTarget K hK a) kX10_bestTarget ln_L_100 (dcV okL_bestTarget rfl) (fun hf T C hT => ?_) (fun hf T C hT => ?_)
  · refine B.run okL_bestTarget [] 60 ?_
    exact ⟨vk, rW0 hf (by rw [hf]; rfl) T C hT⟩
  · rcases fs_fBT (kS K) a (kC K) with h | h | h
    · exact absurd h hf
    · refine AtX.catch (E := exF (fBT (kS K) a (kC K))) (name := xA) B.1 [] ⟨0, 9, 12, 13⟩ [⟨0, 9, 15, 26⟩] B.2.2.1 (by rw [h]; exact fun _ z => absurd z List.not_mem_nil) (by decide) (by decide) cl_A (by rw [h]; exact ct_A) fun q => ?_
      refine B.run okL_bestTarget [] 60 ?_
      exact rWx hf (by rw [h]; rfl) T C hT
    · refine AtX.catch (E := exF (fBT (kS K) a (kC K))) (name := xN) B.1 [⟨0, 9, 12, 13⟩] ⟨0, 9, 15, 26⟩ [] B.2.2.1 (by rw [h]; exact List.forall_mem_cons.mpr ⟨⟨by decide, xA, cl_A, nc_NA⟩, fun _ z => absurd z List.not_mem_nil⟩) (by decide) (by decide) cl_N (by rw [h]; exact ct_N) fun q => ?_
      refine B.run okL_bestTarget [] 60 ?_
      exact rWx hf (by rw [h]; rfl) T C hT
theorem w_bestMoment (K : KS') (hK : WK K) (a : Int32) (o : Nat → Int64) : SpH hL_bestMoment 13 12 700 mL_bestMoment [vR 0 0, vI a, vR 65 0] (wZ K (aL o)) (PoW (fBT (kS K) a (kC K)) (thr (fBT (kS K) a (kC K)) 0 1 0 2) (aL (oS o (bS (kS K) a (tmI (kS K)) (kC K)).2.2.2.toInt64)) (K) (K) (aL o)) := by
  refine SpH.of (by decide) rfl rfl (Nat.le_of_ble_eq_true rfl) fun γ σ B => ?_
  refine B.run okL_bestMoment [] 60 ?_
  refine B.callX [vI a] [vI 0, vR 65 0] (m_bestMoment K hK a) kX10_bestMoment ln_L_103 (dcV okL_bestMoment rfl) (fun hf T C hT => ?_) (fun hf T C hT => ?_)
  · refine B.run okL_bestMoment [] 60 ?_
    exact ⟨vk, rW0 hf (by rw [hf]; rfl) T C hT⟩
  · rcases fs_fBT (kS K) a (kC K) with h | h | h
    · exact absurd h hf
    · refine AtX.catch (E := exF (fBT (kS K) a (kC K))) (name := xA) B.1 [] ⟨0, 9, 12, 13⟩ [⟨0, 9, 15, 26⟩] B.2.2.1 (by rw [h]; exact fun _ z => absurd z List.not_mem_nil) (by decide) (by decide) cl_A (by rw [h]; exact ct_A) fun q => ?_
      refine B.run okL_bestMoment [] 60 ?_
      exact rWx hf (by rw [h]; rfl) T C hT
    · refine AtX.catch (E := exF (fBT (kS K) a (kC K))) (name := xN) B.1 [⟨0, 9, 12, 13⟩] ⟨0, 9, 15, 26⟩ [] B.2.2.1 (by rw [h]; exact List.forall_mem_cons.mpr ⟨⟨by decide, xA, cl_A, nc_NA⟩, fun _ z => absurd z List.not_mem_nil⟩) (by decide) (by decide) cl_N (by rw [h]; exact ct_N) fun q => ?_
      refine B.run okL_bestMoment [] 60 ?_
      exact rWx hf (by rw [h]; rfl) T C hT
theorem w_transfersToBalance (K : KS') (hK : WK K) (a : Int32) (hM : ∃ M, M < 2 ^ 30 ∧ absI (tmI (kS K)) = nI M) (o : Nat → Int64) : SpH hL_transfersToBalance 13 12 700 mL_transfersToBalance [vR 0 0, vI a, vR 65 0] (wZ K (aL o)) (PoW (fTB K a) (thr (fTB K a) 0 1 0 2) (aL (oS o (nI ((tbK K a).getD 0)).toInt64)) (K) (K) (aL o)) := by
  refine SpH.of (by decide) rfl rfl (Nat.le_of_ble_eq_true rfl) fun γ σ B => ?_
  refine B.run okL_transfersToBalance [] 60 ?_
  refine B.callX [vI a] [vI 0, vR 65 0] (m_transfersToBalance K hK a hM) kX10_transfersToBalance ln_L_106 (dcV okL_transfersToBalance rfl) (fun hf T C hT => ?_) (fun hf T C hT => ?_)
  · refine B.run okL_transfersToBalance [] 60 ?_
    exact ⟨vk, rW0 hf (by rw [hf]; rfl) T C hT⟩
  · rcases fs_fTB K a with h | h | h
    · exact absurd h hf
    · refine AtX.catch (E := exF (fTB K a)) (name := xA) B.1 [] ⟨0, 9, 12, 13⟩ [⟨0, 9, 15, 26⟩] B.2.2.1 (by rw [h]; exact fun _ z => absurd z List.not_mem_nil) (by decide) (by decide) cl_A (by rw [h]; exact ct_A) fun q => ?_
      refine B.run okL_transfersToBalance [] 60 ?_
      exact rWx hf (by rw [h]; rfl) T C hT
    · refine AtX.catch (E := exF (fTB K a)) (name := xN) B.1 [⟨0, 9, 12, 13⟩] ⟨0, 9, 15, 26⟩ [] B.2.2.1 (by rw [h]; exact List.forall_mem_cons.mpr ⟨⟨by decide, xA, cl_A, nc_NA⟩, fun _ z => absurd z List.not_mem_nil⟩) (by decide) (by decide) cl_N (by rw [h]; exact ct_N) fun q => ?_
      refine B.run okL_transfersToBalance [] 60 ?_
      exact rWx hf (by rw [h]; rfl) T C hT
theorem w_bestShiftPiece (K : KS') (hK : WK K) (o : Nat → Int64) : SpH hL_bestShiftPiece 13 12 700 mL_bestShiftPiece [vR 0 0, vR 65 0] (wZ K (aL o)) (PoW (fBS (kS K) (kC K)) (thr (fBS (kS K) (kC K)) 0 0 0 1) (aL (oS o (bstH (kS K) (kC K)).2.1.toInt64)) (K) (K) (aL o)) := by
  refine SpH.of (by decide) rfl rfl (Nat.le_of_ble_eq_true rfl) fun γ σ B => ?_
  refine B.run okL_bestShiftPiece [] 60 ?_
  refine B.callX [] [vI 0, vR 65 0] (m_bestShiftPiece K hK) kX10_bestShiftPiece ln_L_109 (dcV okL_bestShiftPiece rfl) (fun hf T C hT => ?_) (fun hf T C hT => ?_)
  · refine B.run okL_bestShiftPiece [] 60 ?_
    exact ⟨vk, rW0 hf (by rw [hf]; rfl) T C hT⟩
  · rcases fs_fBS (kS K) (kC K) with h | h
    · exact absurd h hf
    · refine AtX.catch (E := exF (fBS (kS K) (kC K))) (name := xN) B.1 [] ⟨0, 8, 11, 26⟩ [] B.2.2.1 (by rw [h]; exact fun _ z => absurd z List.not_mem_nil) (by decide) (by decide) cl_N (by rw [h]; exact ct_N) fun q => ?_
      refine B.run okL_bestShiftPiece [] 60 ?_
      exact rWx hf (by rw [h]; rfl) T C hT
theorem w_bestShiftCompartment (K : KS') (hK : WK K) (o : Nat → Int64) : SpH hL_bestShiftCompartment 13 12 700 mL_bestShiftCompartment [vR 0 0, vR 65 0] (wZ K (aL o)) (PoW (fBS (kS K) (kC K)) (thr (fBS (kS K) (kC K)) 0 0 0 1) (aL (oS o (bstH (kS K) (kC K)).2.2.1.toInt64)) (K) (K) (aL o)) := by
  refine SpH.of (by decide) rfl rfl (Nat.le_of_ble_eq_true rfl) fun γ σ B => ?_
  refine B.run okL_bestShiftCompartment [] 60 ?_
  refine B.callX [] [vI 0, vR 65 0] (m_bestShiftCompartment K hK) kX10_bestShiftCompartment ln_L_112 (dcV okL_bestShiftCompartment rfl) (fun hf T C hT => ?_) (fun hf T C hT => ?_)
  · refine B.run okL_bestShiftCompartment [] 60 ?_
    exact ⟨vk, rW0 hf (by rw [hf]; rfl) T C hT⟩
  · rcases fs_fBS (kS K) (kC K) with h | h
    · exact absurd h hf
    · refine AtX.catch (E := exF (fBS (kS K) (kC K))) (name := xN) B.1 [] ⟨0, 8, 11, 26⟩ [] B.2.2.1 (by rw [h]; exact fun _ z => absurd z List.not_mem_nil) (by decide) (by decide) cl_N (by rw [h]; exact ct_N) fun q => ?_
      refine B.run okL_bestShiftCompartment [] 60 ?_
      exact rWx hf (by rw [h]; rfl) T C hT
theorem w_momentAfter (K : KS') (hK : WK K) (x : Int32) (o : Nat → Int64) : SpH hL_momentAfter 13 12 700 mL_momentAfter [vR 0 0, vI x, vR 65 0] (wZ K (aL o)) (PoW (fMA x) (thr (fMA x) 0 1 0 0) (aL (oS o (tmI (tks x.toNatClampNeg (cpT K))).toInt64)) (K) (K) (aL o)) := by
  refine SpH.of (by decide) rfl rfl (Nat.le_of_ble_eq_true rfl) fun γ σ B => ?_
  refine B.run okL_momentAfter [] 60 ?_
  refine B.callX [vI x] [vI 0, vR 65 0] (m_momentAfter K hK x) kX10_momentAfter ln_L_115 (dcV okL_momentAfter rfl) (fun hf T C hT => ?_) (fun hf T C hT => ?_)
  · refine B.run okL_momentAfter [] 60 ?_
    exact ⟨vk, rW0 hf (by rw [hf]; rfl) T C hT⟩
  · rcases fs_fMA x with h | h
    · exact absurd h hf
    · refine AtX.catch (E := exF (fMA x)) (name := xA) B.1 [] ⟨0, 9, 12, 13⟩ [] B.2.2.1 (by rw [h]; exact fun _ z => absurd z List.not_mem_nil) (by decide) (by decide) cl_A (by rw [h]; exact ct_A) fun q => ?_
      refine B.run okL_momentAfter [] 60 ?_
      exact rWx hf (by rw [h]; rfl) T C hT
theorem w_minutesUntilSunk (K : KS') (hK : WK K) (o : Nat → Int64) : SpH hL_minutesUntilSunk 13 12 700 mL_minutesUntilSunk [vR 0 0, vR 65 0] (wZ K (aL o)) (PoW (fMS (cpT K)) (thr (fMS (cpT K)) 0 0 0 1) (aL (oS o (nI (tkc 120 (cpT K))).toInt64)) (K) (K) (aL o)) := by
  refine SpH.of (by decide) rfl rfl (Nat.le_of_ble_eq_true rfl) fun γ σ B => ?_
  refine B.run okL_minutesUntilSunk [] 60 ?_
  refine B.callX [] [vI 0, vR 65 0] (m_minutesUntilSunk K hK) kX10_minutesUntilSunk ln_L_118 (dcV okL_minutesUntilSunk rfl) (fun hf T C hT => ?_) (fun hf T C hT => ?_)
  · refine B.run okL_minutesUntilSunk [] 60 ?_
    exact ⟨vk, rW0 hf (by rw [hf]; rfl) T C hT⟩
  · rcases fs_fMS (cpT K) with h | h
    · exact absurd h hf
    · refine AtX.catch (E := exF (fMS (cpT K))) (name := xN) B.1 [] ⟨0, 8, 11, 26⟩ [] B.2.2.1 (by rw [h]; exact fun _ z => absurd z List.not_mem_nil) (by decide) (by decide) cl_N (by rw [h]; exact ct_N) fun q => ?_
      refine B.run okL_minutesUntilSunk [] 60 ?_
      exact rWx hf (by rw [h]; rfl) T C hT
theorem w_compartmentByLoad (K : KS') (hK : WK K) (x : Int32) (o : Nat → Int64) : SpH hL_compartmentByLoad 13 12 700 mL_compartmentByLoad [vR 0 0, vI x, vR 65 0] (wZ K (aL o)) (PoW (fFst (lAt (kS K) x) (gc (kS K))) (thr (fFst (lAt (kS K) x) (gc (kS K))) 0 0 0 1) (aL (oS o (nI (fst (lAt (kS K) x) (gc (kS K)))).toInt64)) (K) (K) (aL o)) := by
  refine SpH.of (by decide) rfl rfl (Nat.le_of_ble_eq_true rfl) fun γ σ B => ?_
  refine B.run okL_compartmentByLoad [] 60 ?_
  refine B.callX [vI x] [vI 0, vR 65 0] (m_compartmentByLoad K hK x) kX10_compartmentByLoad ln_L_121 (dcV okL_compartmentByLoad rfl) (fun hf T C hT => ?_) (fun hf T C hT => ?_)
  · refine B.run okL_compartmentByLoad [] 60 ?_
    exact ⟨vk, rW0 hf (by rw [hf]; rfl) T C hT⟩
  · rcases fs_fFst (lAt (kS K) x) (gc (kS K)) with h | h
    · exact absurd h hf
    · refine AtX.catch (E := exF (fFst (lAt (kS K) x) (gc (kS K)))) (name := xN) B.1 [] ⟨0, 9, 12, 26⟩ [] B.2.2.1 (by rw [h]; exact fun _ z => absurd z List.not_mem_nil) (by decide) (by decide) cl_N (by rw [h]; exact ct_N) fun q => ?_
      refine B.run okL_compartmentByLoad [] 60 ?_
      exact rWx hf (by rw [h]; rfl) T C hT
theorem w_nextStorm (K : KS') (hK : WK K) (o : Nat → Int64) : SpH hL_nextStorm 13 12 700 mL_nextStorm [vR 0 0, vR 65 0] (wZ K (aL o)) (PoW (fNxt (kS K)) (thr (fNxt (kS K)) 0 0 0 1) (aL (oS o (gmi (kS K) 0).toInt64)) (K) (K) (aL o)) := by
  refine SpH.of (by decide) rfl rfl (Nat.le_of_ble_eq_true rfl) fun γ σ B => ?_
  refine B.run okL_nextStorm [] 60 ?_
  refine B.callX [] [vI 0, vR 65 0] (m_nextStorm K hK) kX10_nextStorm ln_L_124 (dcV okL_nextStorm rfl) (fun hf T C hT => ?_) (fun hf T C hT => ?_)
  · refine B.run okL_nextStorm [] 60 ?_
    exact ⟨vk, rW0 hf (by rw [hf]; rfl) T C hT⟩
  · rcases fs_fNxt (kS K) with h | h
    · exact absurd h hf
    · refine AtX.catch (E := exF (fNxt (kS K))) (name := xN) B.1 [] ⟨0, 8, 11, 26⟩ [] B.2.2.1 (by rw [h]; exact fun _ z => absurd z List.not_mem_nil) (by decide) (by decide) cl_N (by rw [h]; exact ct_N) fun q => ?_
      refine B.run okL_nextStorm [] 60 ?_
      exact rWx hf (by rw [h]; rfl) T C hT
theorem w_strengthAt (K : KS') (hK : WK K) (x : Int32) (o : Nat → Int64) : SpH hL_strengthAt 13 12 700 mL_strengthAt [vR 0 0, vI x, vR 65 0] (wZ K (aL o)) (PoW (fStm (kS K) x) (thr (fStm (kS K) x) 0 0 0 1) (aL (oS o (gsg (kS K) (tq (kS K) x)).toInt64)) (K) (K) (aL o)) := by
  refine SpH.of (by decide) rfl rfl (Nat.le_of_ble_eq_true rfl) fun γ σ B => ?_
  refine B.run okL_strengthAt [] 60 ?_
  refine B.callX [vI x] [vI 0, vR 65 0] (m_strengthAt K hK x) kX10_strengthAt ln_L_127 (dcV okL_strengthAt rfl) (fun hf T C hT => ?_) (fun hf T C hT => ?_)
  · refine B.run okL_strengthAt [] 60 ?_
    exact ⟨vk, rW0 hf (by rw [hf]; rfl) T C hT⟩
  · rcases fs_fStm (kS K) x with h | h
    · exact absurd h hf
    · refine AtX.catch (E := exF (fStm (kS K) x)) (name := xN) B.1 [] ⟨0, 9, 12, 26⟩ [] B.2.2.1 (by rw [h]; exact fun _ z => absurd z List.not_mem_nil) (by decide) (by decide) cl_N (by rw [h]; exact ct_N) fun q => ?_
      refine B.run okL_strengthAt [] 60 ?_
      exact rWx hf (by rw [h]; rfl) T C hT
theorem w_loggedMinute (K : KS') (hK : WK K) (x : Int32) (o : Nat → Int64) : SpH hL_loggedMinute 13 12 700 mL_loggedMinute [vR 0 0, vI x, vR 65 0] (wZ K (aL o)) (PoW (fLogA (kS K) x) (thr (fLogA (kS K) x) 0 0 0 1) (aL (oS o (glg (kS K) x.toNatClampNeg).toInt64)) (K) (K) (aL o)) := by
  refine SpH.of (by decide) rfl rfl (Nat.le_of_ble_eq_true rfl) fun γ σ B => ?_
  refine B.run okL_loggedMinute [] 60 ?_
  refine B.callX [vI x] [vI 0, vR 65 0] (m_loggedMinute K hK x) kX10_loggedMinute ln_L_130 (dcV okL_loggedMinute rfl) (fun hf T C hT => ?_) (fun hf T C hT => ?_)
  · refine B.run okL_loggedMinute [] 60 ?_
    exact ⟨vk, rW0 hf (by rw [hf]; rfl) T C hT⟩
  · rcases fs_fLogA (kS K) x with h | h
    · exact absurd h hf
    · refine AtX.catch (E := exF (fLogA (kS K) x)) (name := xN) B.1 [] ⟨0, 9, 12, 26⟩ [] B.2.2.1 (by rw [h]; exact fun _ z => absurd z List.not_mem_nil) (by decide) (by decide) cl_N (by rw [h]; exact ct_N) fun q => ?_
      refine B.run okL_loggedMinute [] 60 ?_
      exact rWx hf (by rw [h]; rfl) T C hT
theorem w_formatCompartment (K : KS') (hK : WK K) (x : Int32) (hN : NBS (kS K)) (hL : 16 ≤ (kL K).2.1) (o : Nat → Int64) : SpH hL_formatCompartment 13 12 2000 mL_formatCompartment [vR 0 0, vI x, vR 65 0] (wZ K (aL o)) (PoW (fChk (kS K) x) (thr (fChk (kS K) x) 1 0 0 0) (aL (oS o (nI (fcL (kS K) x x.toNatClampNeg (kL K)).1).toInt64)) (stLn K (fcL (kS K) x x.toNatClampNeg (kL K))) (K) (aL o)) := by
  refine SpH.of (by decide) rfl rfl (Nat.le_of_ble_eq_true rfl) fun γ σ B => ?_
  refine B.run okL_formatCompartment [] 60 ?_
  refine B.callX [vI x] [vI 0, vR 65 0] (m_formatCompartment K hK x hN hL) kX10_formatCompartment ln_L_143 (dcV okL_formatCompartment rfl) (fun hf T C hT => ?_) (fun hf T C hT => ?_)
  · refine B.run okL_formatCompartment [] 60 ?_
    exact ⟨vk, rW0 hf (by rw [hf]; rfl) T C hT⟩
  · rcases fs_fChk (kS K) x with h | h
    · exact absurd h hf
    · refine AtX.catch (E := exF (fChk (kS K) x)) (name := xI) B.1 [] ⟨0, 9, 12, 20⟩ [] B.2.2.1 (by rw [h]; exact fun _ z => absurd z List.not_mem_nil) (by decide) (by decide) cl_I (by rw [h]; exact ct_I) fun q => ?_
      refine B.run okL_formatCompartment [] 60 ?_
      exact rWx hf (by rw [h]; rfl) T C hT
theorem w_formatCargo (K : KS') (hK : WK K) (x : Int32) (hN : NBS (kS K)) (hL : 16 ≤ (kL K).2.1) (o : Nat → Int64) : SpH hL_formatCargo 13 12 2000 mL_formatCargo [vR 0 0, vI x, vR 65 0] (wZ K (aL o)) (PoW (fChk (kS K) x) (thr (fChk (kS K) x) 1 0 0 0) (aL (oS o (nI (fgL (kS K) x (kL K) (gp (kS K))).1).toInt64)) (stLn K (fgL (kS K) x (kL K) (gp (kS K)))) (K) (aL o)) := by
  refine SpH.of (by decide) rfl rfl (Nat.le_of_ble_eq_true rfl) fun γ σ B => ?_
  refine B.run okL_formatCargo [] 60 ?_
  refine B.callX [vI x] [vI 0, vR 65 0] (m_formatCargo K hK x hN hL) kX10_formatCargo ln_L_146 (dcV okL_formatCargo rfl) (fun hf T C hT => ?_) (fun hf T C hT => ?_)
  · refine B.run okL_formatCargo [] 60 ?_
    exact ⟨vk, rW0 hf (by rw [hf]; rfl) T C hT⟩
  · rcases fs_fChk (kS K) x with h | h
    · exact absurd h hf
    · refine AtX.catch (E := exF (fChk (kS K) x)) (name := xI) B.1 [] ⟨0, 9, 12, 20⟩ [] B.2.2.1 (by rw [h]; exact fun _ z => absurd z List.not_mem_nil) (by decide) (by decide) cl_I (by rw [h]; exact ct_I) fun q => ?_
      refine B.run okL_formatCargo [] 60 ?_
      exact rWx hf (by rw [h]; rfl) T C hT
theorem w_lineChar (K : KS') (hK : WK K) (x : Int32) (hL : (kL K).1 ≤ 1000) (o : Nat → Int64) : SpH hL_lineChar 13 12 700 mL_lineChar [vR 0 0, vI x, vR 65 0] (wZ K (aL o)) (PoW (fLch (kL K) x) (thr (fLch (kL K) x) 1 0 0 0) (aL (oS o (nI ((kL K).2.2 x.toNatClampNeg)).toInt64)) (K) (K) (aL o)) := by
  refine SpH.of (by decide) rfl rfl (Nat.le_of_ble_eq_true rfl) fun γ σ B => ?_
  refine B.run okL_lineChar [] 60 ?_
  refine B.callX [vI x] [vI 0, vR 65 0] (m_lineChar K hK x hL) kX10_lineChar ln_L_149 (dcV okL_lineChar rfl) (fun hf T C hT => ?_) (fun hf T C hT => ?_)
  · refine B.run okL_lineChar [] 60 ?_
    exact ⟨vk, rW0 hf (by rw [hf]; rfl) T C hT⟩
  · rcases fs_fLch (kL K) x with h | h
    · exact absurd h hf
    · refine AtX.catch (E := exF (fLch (kL K) x)) (name := xI) B.1 [] ⟨0, 9, 12, 20⟩ [] B.2.2.1 (by rw [h]; exact fun _ z => absurd z List.not_mem_nil) (by decide) (by decide) cl_I (by rw [h]; exact ct_I) fun q => ?_
      refine B.run okL_lineChar [] 60 ?_
      exact rWx hf (by rw [h]; rfl) T C hT
theorem w_append (K : KS') (hK : WK K) (x : Int32) (hL : (kI K).1 ≤ 1000) (h16 : 16 ≤ (kI K).2.1) (o : Nat → Int64) : SpH hL_append 13 12 2000 mL_append [vR 0 0, vI x, vR 65 0] (wZ K (aL o)) (PoW (fApp (kI K) x) (thr (fApp (kI K) x) 0 1 2 0) (aL (oS o (nI ((kI K).1 + 1)).toInt64)) (stIn K (pC (kI K) x.toNatClampNeg)) (K) (aL o)) := by
  refine SpH.of (by decide) rfl rfl (Nat.le_of_ble_eq_true rfl) fun γ σ B => ?_
  refine B.run okL_append [] 60 ?_
  refine B.callX [vI x] [vI 0, vR 65 0] (m_append K hK x hL h16) kX10_append ln_L_153 (dcV okL_append rfl) (fun hf T C hT => ?_) (fun hf T C hT => ?_)
  · refine B.run okL_append [] 60 ?_
    exact ⟨vk, rW0 hf (by rw [hf]; rfl) T C hT⟩
  · rcases fs_fApp (kI K) x with h | h | h
    · exact absurd h hf
    · refine AtX.catch (E := exF (fApp (kI K) x)) (name := xA) B.1 [] ⟨0, 9, 12, 13⟩ [⟨0, 9, 15, 15⟩] B.2.2.1 (by rw [h]; exact fun _ z => absurd z List.not_mem_nil) (by decide) (by decide) cl_A (by rw [h]; exact ct_A) fun q => ?_
      refine B.run okL_append [] 60 ?_
      exact rWx hf (by rw [h]; rfl) T C hT
    · refine AtX.catch (E := exF (fApp (kI K) x)) (name := xS) B.1 [⟨0, 9, 12, 13⟩] ⟨0, 9, 15, 15⟩ [] B.2.2.1 (by rw [h]; exact List.forall_mem_cons.mpr ⟨⟨by decide, xA, cl_A, nc_SA⟩, fun _ z => absurd z List.not_mem_nil⟩) (by decide) (by decide) cl_S (by rw [h]; exact ct_S) fun q => ?_
      refine B.run okL_append [] 60 ?_
      exact rWx hf (by rw [h]; rfl) T C hT
theorem w_run (K : KS') (hK : WK K) (R : Bool × PS) (hR : prR (kI K) (kP K) = R) (Q : Option Nat × SH) (nn : Nat) (hn : R.2.1 = nI nn) (hn8 : nn ≤ 8) (hkw : ∀ z, R.2.2.2.2.1 z < 10) (hQ : rnF R.2.2.2.2.1 R.2.2.2.2.2 nn 0 (kS K) = Q) (hI : (kI K).1 ≤ 1000) (o : Nat → Int64) : SpH hL_run 13 12 2000 mL_run [vR 0 0, vR 65 0] (wZ K (aL o)) (PoW (fRun R Q) (thr (fRun R Q) 0 1 2 0) (aL (oS o (nI nn).toInt64)) (rnOk K R Q) (if R.1 = true then rnFl K R Q else rnEr K R) (aL o)) := by
  refine SpH.of (by decide) rfl rfl (Nat.le_of_ble_eq_true rfl) fun γ σ B => ?_
  refine B.run okL_run [] 60 ?_
  refine B.callX [] [vI 0, vR 65 0] (m_run K hK R hR Q nn hn hn8 hkw hQ hI) kX10_run ln_L_157 (dcV okL_run rfl) (fun hf T C hT => ?_) (fun hf T C hT => ?_)
  · refine B.run okL_run [] 60 ?_
    exact ⟨vk, rW0 hf (by rw [hf]; rfl) T C hT⟩
  · rcases fs_fRun R Q with h | h | h
    · exact absurd h hf
    · refine AtX.catch (E := exF (fRun R Q)) (name := xA) B.1 [] ⟨0, 8, 11, 13⟩ [⟨0, 8, 14, 15⟩] B.2.2.1 (by rw [h]; exact fun _ z => absurd z List.not_mem_nil) (by decide) (by decide) cl_A (by rw [h]; exact ct_A) fun q => ?_
      refine B.run okL_run [] 60 ?_
      exact rWx hf (by rw [h]; rfl) T C hT
    · refine AtX.catch (E := exF (fRun R Q)) (name := xS) B.1 [⟨0, 8, 11, 13⟩] ⟨0, 8, 14, 15⟩ [] B.2.2.1 (by rw [h]; exact List.forall_mem_cons.mpr ⟨⟨by decide, xA, cl_A, nc_SA⟩, fun _ z => absurd z List.not_mem_nil⟩) (by decide) (by decide) cl_S (by rw [h]; exact ct_S) fun q => ?_
      refine B.run okL_run [] 60 ?_
      exact rWx hf (by rw [h]; rfl) T C hT
theorem w_errorPosition (K : KS') (hK : WK K) (o : Nat → Int64) : SpH hL_errorPosition 13 12 700 mL_errorPosition [vR 0 0, vR 65 0] (wZ K (aL o)) (PoW (fFlag 4 (kF K).2.1) (thr (fFlag 4 (kF K).2.1) 0 0 0 1) (aL (oS o (kF K).2.2.1.toInt64)) (K) (K) (aL o)) := by
  refine SpH.of (by decide) rfl rfl (Nat.le_of_ble_eq_true rfl) fun γ σ B => ?_
  refine B.run okL_errorPosition [] 60 ?_
  refine B.callX [] [vI 0, vR 65 0] (m_errorPosition K hK) kX10_errorPosition ln_L_160 (dcV okL_errorPosition rfl) (fun hf T C hT => ?_) (fun hf T C hT => ?_)
  · refine B.run okL_errorPosition [] 60 ?_
    exact ⟨vk, rW0 hf (by rw [hf]; rfl) T C hT⟩
  · rcases fs_fFlag 4 (kF K).2.1 with h | h
    · exact absurd h hf
    · refine AtX.catch (E := exF (fFlag 4 (kF K).2.1)) (name := xN) B.1 [] ⟨0, 8, 11, 26⟩ [] B.2.2.1 (by rw [h]; exact fun _ z => absurd z List.not_mem_nil) (by decide) (by decide) cl_N (by rw [h]; exact ct_N) fun q => ?_
      refine B.run okL_errorPosition [] 60 ?_
      exact rWx hf (by rw [h]; rfl) T C hT
theorem w_failedCommand (K : KS') (hK : WK K) (o : Nat → Int64) : SpH hL_failedCommand 13 12 700 mL_failedCommand [vR 0 0, vR 65 0] (wZ K (aL o)) (PoW (fFlag 4 (kF K).2.2.2.1) (thr (fFlag 4 (kF K).2.2.2.1) 0 0 0 1) (aL (oS o (kF K).2.2.2.2.toInt64)) (K) (K) (aL o)) := by
  refine SpH.of (by decide) rfl rfl (Nat.le_of_ble_eq_true rfl) fun γ σ B => ?_
  refine B.run okL_failedCommand [] 60 ?_
  refine B.callX [] [vI 0, vR 65 0] (m_failedCommand K hK) kX10_failedCommand ln_L_163 (dcV okL_failedCommand rfl) (fun hf T C hT => ?_) (fun hf T C hT => ?_)
  · refine B.run okL_failedCommand [] 60 ?_
    exact ⟨vk, rW0 hf (by rw [hf]; rfl) T C hT⟩
  · rcases fs_fFlag 4 (kF K).2.2.2.1 with h | h
    · exact absurd h hf
    · refine AtX.catch (E := exF (fFlag 4 (kF K).2.2.2.1)) (name := xN) B.1 [] ⟨0, 8, 11, 26⟩ [] B.2.2.1 (by rw [h]; exact fun _ z => absurd z List.not_mem_nil) (by decide) (by decide) cl_N (by rw [h]; exact ct_N) fun q => ?_
      refine B.run okL_failedCommand [] 60 ?_
      exact rWx hf (by rw [h]; rfl) T C hT
theorem w_undo (K : KS') (hK : WK K) (o : Nat → Int64) : SpH hL_undo 13 12 700 mL_undo [vR 0 0, vR 65 0] (wZ K (aL o)) (PoW (fUnd (kH K)) (thr (fUnd (kH K)) 0 0 1 0) (aL (oS o (nI ((kH K).2.1 - 1)).toInt64)) (eUnd K) (K) (aL o)) := by
  refine SpH.of (by decide) rfl rfl (Nat.le_of_ble_eq_true rfl) fun γ σ B => ?_
  refine B.run okL_undo [] 60 ?_
  refine B.callX [] [vI 0, vR 65 0] (m_undo K hK) kX10_undo ln_L_166 (dcV okL_undo rfl) (fun hf T C hT => ?_) (fun hf T C hT => ?_)
  · refine B.run okL_undo [] 60 ?_
    exact ⟨vk, rW0 hf (by rw [hf]; rfl) T C hT⟩
  · rcases fs_fUnd (kH K) with h | h
    · exact absurd h hf
    · refine AtX.catch (E := exF (fUnd (kH K))) (name := xS) B.1 [] ⟨0, 8, 11, 15⟩ [] B.2.2.1 (by rw [h]; exact fun _ z => absurd z List.not_mem_nil) (by decide) (by decide) cl_S (by rw [h]; exact ct_S) fun q => ?_
      refine B.run okL_undo [] 60 ?_
      exact rWx hf (by rw [h]; rfl) T C hT
theorem w_restore (K : KS') (hK : WK K) (o : Nat → Int64) : SpH hL_restore 13 12 700 mL_restore [vR 0 0, vR 65 0] (wZ K (aL o)) (PoW (fFlag 3 (kF K).1) (thr (fFlag 3 (kF K).1) 0 0 1 0) (aL (oS o (nI (gc (kV K))).toInt64)) (stH (stS K (cpS (kS K) (kV K))) ((kH K).1, 0, (kH K).2.2)) (K) (aL o)) := by
  refine SpH.of (by decide) rfl rfl (Nat.le_of_ble_eq_true rfl) fun γ σ B => ?_
  refine B.run okL_restore [] 60 ?_
  refine B.callX [] [vI 0, vR 65 0] (m_restore K hK) kX10_restore ln_L_169 (dcV okL_restore rfl) (fun hf T C hT => ?_) (fun hf T C hT => ?_)
  · refine B.run okL_restore [] 60 ?_
    exact ⟨vk, rW0 hf (by rw [hf]; rfl) T C hT⟩
  · rcases fs_fFlag 3 (kF K).1 with h | h
    · exact absurd h hf
    · refine AtX.catch (E := exF (fFlag 3 (kF K).1)) (name := xS) B.1 [] ⟨0, 8, 11, 15⟩ [] B.2.2.1 (by rw [h]; exact fun _ z => absurd z List.not_mem_nil) (by decide) (by decide) cl_S (by rw [h]; exact ct_S) fun q => ?_
      refine B.run okL_restore [] 60 ?_
      exact rWx hf (by rw [h]; rfl) T C hT
