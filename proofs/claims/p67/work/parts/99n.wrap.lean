/-! ===== the law's wrappers: what they answer over the class's world ===== -/
abbrev R65 : List Nat := List.range' 0 65
theorem nd65 : va_nd R65 = true := by decide
theorem id65 : idU R65 65 := by
  intro r hr
  unfold rn
  rw [hnth_eq, show R65[r]? = some r from by rw [List.getElem?_range' hr]; simp]; rfl
/-- a fault's number in the law -/
def cdU (f : Nat) : Int32 := if f = 1 then -2500000 else if f = 2 then -2000000 else if f = 3 then -1000000 else -3000000
def PoU (f : Nat) (v : Int32) (K1 K0 : KS') : Out → AHp → Prop := fun out h => ∃ T C, WF T ∧ out = .inl (some (vI (if f = 0 then v else cdU f))) ∧ h = world (scr (if f = 0 then K1 else K0) T C)
section RUE
variable {k n mc ms f : Nat} {v : Int32} {K1 K0 : KS'} {h : AHp} {x : Int32}
theorem rU0 (hf : f = 0) (T : SH) (C : CS) (hT : WF T) (hx : x = v := by rfl) (eh : h = world (scr K1 T C) := by rfl) (hk : k ≤ mc := by decide) (hs : n ≤ ms := by decide) : RF k n mc ms (PoU f v K1 K0) (some (vI x)) h :=
  ⟨⟨T, C, hT, by rw [if_pos hf, hx], by rw [if_pos hf]; exact eh⟩, hk, hs⟩
theorem rUx (hf : ¬ f = 0) (hc : x = cdU f) (T : SH) (C : CS) (hT : WF T) (eh : h = world (scr K0 T C) := by rfl) (hk : k ≤ mc := by decide) (hs : n ≤ ms := by decide) : RF k n mc ms (PoU f v K1 K0) (some (vI x)) h :=
  ⟨⟨T, C, hT, by rw [if_neg hf, hc], by rw [if_neg hf]; exact eh⟩, hk, hs⟩
end RUE
section BCX
variable {hh : HH} {γ : CX} {σ : Nat → Nat → Nat} {pc N0 ms na ix f : Nat} {ls : List (Nat × AV)} {st : List AV} {M Mx : MR} {Po : Out → AHp → Prop} {K K1 K0 : KS'} {v : Option AV}
/-- the call of the class's method -/
theorem BdH.callX (B : BdH hh γ σ M 13 12 ms N0 Po) (As rest : List AV) (S : Sp 12 12 ms Mx (vR 0 0 :: As) (world K) (PoC f v K1 K0)) (Kx : KV Mx na) (w : Cond.methodLink (cn (mO M)) ix (mY Mx) ∈ GT) (d : decode (mB M) pc = .ok (.invokevirtual ix, 3))
    (g : f = 0 → ∀ T C, WF T → At γ σ 12 ms (pc + 3) ls (v.toList ++ rest) (world (scr K1 T C))) (gx : ¬ f = 0 → ∀ T C, WF T → AtX γ σ 12 ms (exF f) pc ls rest (world (scr K0 T C)))
    (hcls : (mY Mx).cls = RX10 := by rfl) (hv : v.toList.map (ren R65) = v.toList := by rfl) (hna : As.length = na := by rfl) (hrw : wsum rest ≤ 8 := by exact Nat.le_of_ble_eq_true rfl) (hst : st = As.reverse ++ vR 0 0 :: rest := by rfl) (ha : As.map (ren R65) = As := by rfl) : At γ σ 0 0 pc ls st (world K) := by
  have hf : Fit γ 0 0 12 12 ms := Fit.of B.2.2.2.2 (by decide) (by omega) (by omega)
  have F := Fits_pre id65 (world_bd K) (world_len K) []
  rw [List.append_nil] at F
  refine At.callV (P := R65) (rest := rest) B.1 S Kx w nd65 F (ci := 11) (T := TX10) (N := 13) rfl (by rw [hcls]; rfl) hna hf hrw d (by rw [ha]; exact hst) (fun v2 h2 hp => ?_) (fun E h2 hp => ?_)
  · obtain ⟨T, C, hT, h0, h1⟩ := hp
    by_cases hz : f = 0
    · obtain ⟨e1, rfl⟩ := h0 hz
      cases e1
      refine ⟨rfl, ?_⟩
      have e := plug_pre id65 (world_bd (scr K1 T C)) (world_len K) (world_len (scr K1 T C)) []
      rw [List.append_nil, List.append_nil] at e
      rw [show plug R65 R65 (world (scr K1 T C)) (world K) = world (scr K1 T C) from e, hv, Nat.zero_add, Nat.zero_add]
      exact g hz T C hT
    · cases (h1 hz).1
  · obtain ⟨T, C, hT, h0, h1⟩ := hp
    by_cases hz : f = 0
    · cases (h0 hz).1
    · obtain ⟨e1, rfl⟩ := h1 hz
      cases e1
      refine ⟨rfl, ?_⟩
      have e := plug_pre id65 (world_bd (scr K0 T C)) (world_len K) (world_len (scr K0 T C)) []
      rw [List.append_nil, List.append_nil] at e
      rw [show plug R65 R65 (world (scr K0 T C)) (world K) = world (scr K0 T C) from e, Nat.zero_add, Nat.zero_add]
      exact gx hz T C hT
end BCX
/-! the law's exceptions -/
theorem FT_one {w : Cond} (h1 : w ∈ lw_tbl) (h2 : (w.onTables && w.keepsFace) = true) : w ∈ FT := List.mem_filter.mpr ⟨h1, h2⟩
theorem cl_A : Cond.classLink RL 19 xA ∈ FT := FT_one (List.mem_append_right _ (List.mem_of_getElem? (i := 1047) (by decide +kernel))) rfl
theorem cl_S : Cond.classLink RL 22 xS ∈ FT := FT_one (List.mem_append_right _ (List.mem_of_getElem? (i := 1223) (by decide +kernel))) rfl
theorem cl_I : Cond.classLink RL 28 xI ∈ FT := FT_one (List.mem_append_right _ (List.mem_of_getElem? (i := 1024) (by decide +kernel))) rfl
theorem cl_N : Cond.classLink RL 35 xN ∈ FT := FT_one (List.mem_append_right _ (List.mem_of_getElem? (i := 1019) (by decide +kernel))) rfl
theorem ct_A : Cond.castable xA xA ∈ FT := FT_one (List.mem_append_right _ (List.mem_of_getElem? (i := 875) (by decide +kernel))) rfl
theorem ct_S : Cond.castable xS xS ∈ FT := FT_one (List.mem_append_right _ (List.mem_of_getElem? (i := 1078) (by decide +kernel))) rfl
theorem ct_I : Cond.castable xI xI ∈ FT := FT_one (List.mem_append_right _ (List.mem_of_getElem? (i := 346) (by decide +kernel))) rfl
theorem ct_N : Cond.castable xN xN ∈ FT := FT_one (List.mem_append_right _ (List.mem_of_getElem? (i := 467) (by decide +kernel))) rfl
theorem lc_I : Cond.constant RL 30 (-2500000) ∈ GT := mT 1032 (by decide +kernel) rfl
theorem lc_A : Cond.constant RL 21 (-2000000) ∈ GT := mT 1095 (by decide +kernel) rfl
theorem lc_S : Cond.constant RL 24 (-1000000) ∈ GT := mT 1246 (by decide +kernel) rfl
theorem lc_N : Cond.constant RL 37 (-3000000) ∈ GT := mT 1020 (by decide +kernel) rfl
theorem nc_NI : (xN, xI) ∈ ncL := List.mem_of_getElem? (i := 0) rfl
theorem nc_NA : (xN, xA) ∈ ncL := List.mem_of_getElem? (i := 1) rfl
theorem nc_SA : (xS, xA) ∈ ncL := List.mem_of_getElem? (i := 2) rfl
theorem nc_AI : (xA, xI) ∈ ncL := List.mem_of_getElem? (i := 3) rfl
theorem nc_SI : (xS, xI) ∈ ncL := List.mem_of_getElem? (i := 4) rfl
theorem nc_IN : (xI, xN) ∈ ncL := List.mem_of_getElem? (i := 5) rfl
theorem nc_SN : (xS, xN) ∈ ncL := List.mem_of_getElem? (i := 6) rfl
/-! what the faults may be -/
theorem fs_fFst (p : Nat → Bool) (n : Nat) : fFst p n = 0 ∨ fFst p n = 4 := by
  unfold fFst
  (repeat' split) <;> simp_all
theorem fs_fFul (S : SH) (x : Int32) : fFul S x = 0 ∨ fFul S x = 1 ∨ fFul S x = 4 := by
  unfold fFul
  (repeat' split) <;> simp_all
theorem fs_fIdA (S : SH) (x : Int32) : fIdA S x = 0 ∨ fIdA S x = 1 := by
  unfold fIdA
  (repeat' split) <;> simp_all
theorem fs_fHvy (S : SH) : fHvy S = 0 ∨ fHvy S = 4 := by
  unfold fHvy
  (repeat' split) <;> simp_all
theorem fs_fBT (S : SH) (a : Int32) (C : CS) : fBT S a C = 0 ∨ fBT S a C = 2 ∨ fBT S a C = 4 := by
  unfold fBT fAmt
  (repeat' split) <;> simp_all
theorem fs_fTB (K : KS') (a : Int32) : fTB K a = 0 ∨ fTB K a = 2 ∨ fTB K a = 4 := by
  unfold fTB fAmt
  (repeat' split) <;> simp_all
theorem fs_fBS (S : SH) (C : CS) : fBS S C = 0 ∨ fBS S C = 4 := by
  unfold fBS
  (repeat' split) <;> simp_all
theorem fs_fMA (x : Int32) : fMA x = 0 ∨ fMA x = 2 := by
  unfold fMA
  (repeat' split) <;> simp_all
theorem fs_fNxt (S : SH) : fNxt S = 0 ∨ fNxt S = 4 := by
  unfold fNxt
  (repeat' split) <;> simp_all
theorem fs_fStm (S : SH) (x : Int32) : fStm S x = 0 ∨ fStm S x = 4 := by
  unfold fStm
  (repeat' split) <;> simp_all
theorem fs_fAdd (S : SH) (x : Int32) (y : Int32) : fAdd S x y = 0 ∨ fAdd S x y = 2 ∨ fAdd S x y = 3 := by
  unfold fAdd
  (repeat' split) <;> simp_all
theorem fs_fLoad (S : SH) (x : Int32) (y : Int32) : fLoad S x y = 0 ∨ fLoad S x y = 1 ∨ fLoad S x y = 2 ∨ fLoad S x y = 3 := by
  unfold fLoad
  (repeat' split) <;> simp_all
theorem fs_fRat (S : SH) (x : Int32) (y : Int32) : fRat S x y = 0 ∨ fRat S x y = 1 ∨ fRat S x y = 2 := by
  unfold fRat
  (repeat' split) <;> simp_all
theorem fs_fUnl (S : SH) (x : Int32) : fUnl S x = 0 ∨ fUnl S x = 4 := by
  unfold fUnl
  (repeat' split) <;> simp_all
theorem fs_fShf (S : SH) (x : Int32) (y : Int32) : fShf S x y = 0 ∨ fShf S x y = 1 ∨ fShf S x y = 3 ∨ fShf S x y = 4 := by
  unfold fShf
  (repeat' split) <;> simp_all
theorem fs_fMov (S : SH) (x : Int32) (y : Int32) (a : Int32) : fMov S x y a = 0 ∨ fMov S x y a = 1 ∨ fMov S x y a = 2 ∨ fMov S x y a = 3 := by
  unfold fMov
  (repeat' split) <;> simp_all
theorem fs_fBal (S : SH) (a : Int32) (C : CS) : fBal S a C = 0 ∨ fBal S a C = 2 ∨ fBal S a C = 3 := by
  unfold fBal fAmt
  (repeat' split) <;> simp_all
theorem fs_fPow (x : Int32) : fPow x = 0 ∨ fPow x = 2 := by
  unfold fPow
  (repeat' split) <;> simp_all
theorem fs_fLim (x : Int32) : fLim x = 0 ∨ fLim x = 2 := by
  unfold fLim
  (repeat' split) <;> simp_all
theorem fs_fSch (S : SH) (x : Int32) (y : Int32) : fSch S x y = 0 ∨ fSch S x y = 2 ∨ fSch S x y = 3 := by
  unfold fSch
  (repeat' split) <;> simp_all
theorem fs_fPas (S : SH) (x : Int32) : fPas S x = 0 ∨ fPas S x = 2 ∨ fPas S x = 3 := by
  unfold fPas
  (repeat' split) <;> simp_all
theorem w_pumpAt (K : KS') (hK : WK K) (x : Int32) : SpH hL_pumpAt 13 12 700 mL_pumpAt [vR 0 0, vI x] (world K) (PoU (fFst (pAt (kS K) x) (gc (kS K))) (nI (fst (pAt (kS K) x) (gc (kS K)))) (K) (K)) := by
  refine SpH.of (by decide) rfl rfl (Nat.le_of_ble_eq_true rfl) fun γ σ B => ?_
  refine B.run okL_pumpAt [] 60 ?_
  refine B.callX [vI x] [] (m_pumpAt K hK x) kX10_pumpAt ln_L_69 (dcV okL_pumpAt rfl) (fun hf T C hT => ?_) (fun hf T C hT => ?_)
  · refine B.run okL_pumpAt [] 60 ?_
    exact rU0 hf T C hT
  · rcases fs_fFst (pAt (kS K) x) (gc (kS K)) with h | h
    · exact absurd h hf
    · refine AtX.catch (E := exF (fFst (pAt (kS K) x) (gc (kS K)))) (name := xN) B.1 [] ⟨0, 5, 6, 35⟩ [] B.2.2.1 (by rw [h]; exact fun _ z => absurd z List.not_mem_nil) (by decide) (by decide) cl_N (by rw [h]; exact ct_N) fun q => ?_
      refine B.run okL_pumpAt [] 60 ?_
      refine At.ldcI B.1 lc_N (dcL okL_pumpAt rfl) ?_
      refine B.run okL_pumpAt [] 60 ?_
      exact rUx hf (by rw [h]; rfl) T C hT
theorem w_minutesUntilFull (K : KS') (hK : WK K) (x : Int32) : SpH hL_minutesUntilFull 13 12 700 mL_minutesUntilFull [vR 0 0, vI x] (world K) (PoU (fFul (kS K) x) (vFul (kS K) x) (K) (K)) := by
  refine SpH.of (by decide) rfl rfl (Nat.le_of_ble_eq_true rfl) fun γ σ B => ?_
  refine B.run okL_minutesUntilFull [] 60 ?_
  refine B.callX [vI x] [] (m_minutesUntilFull K hK x) kX10_minutesUntilFull ln_L_72 (dcV okL_minutesUntilFull rfl) (fun hf T C hT => ?_) (fun hf T C hT => ?_)
  · refine B.run okL_minutesUntilFull [] 60 ?_
    exact rU0 hf T C hT
  · rcases fs_fFul (kS K) x with h | h | h
    · exact absurd h hf
    · refine AtX.catch (E := exF (fFul (kS K) x)) (name := xI) B.1 [] ⟨0, 5, 6, 28⟩ [⟨0, 5, 10, 35⟩] B.2.2.1 (by rw [h]; exact fun _ z => absurd z List.not_mem_nil) (by decide) (by decide) cl_I (by rw [h]; exact ct_I) fun q => ?_
      refine B.run okL_minutesUntilFull [] 60 ?_
      refine At.ldcI B.1 lc_I (dcL okL_minutesUntilFull rfl) ?_
      refine B.run okL_minutesUntilFull [] 60 ?_
      exact rUx hf (by rw [h]; rfl) T C hT
    · refine AtX.catch (E := exF (fFul (kS K) x)) (name := xN) B.1 [⟨0, 5, 6, 28⟩] ⟨0, 5, 10, 35⟩ [] B.2.2.1 (by rw [h]; exact List.forall_mem_cons.mpr ⟨⟨by decide, xI, cl_I, nc_NI⟩, fun _ z => absurd z List.not_mem_nil⟩) (by decide) (by decide) cl_N (by rw [h]; exact ct_N) fun q => ?_
      refine B.run okL_minutesUntilFull [] 60 ?_
      refine At.ldcI B.1 lc_N (dcL okL_minutesUntilFull rfl) ?_
      refine B.run okL_minutesUntilFull [] 60 ?_
      exact rUx hf (by rw [h]; rfl) T C hT
theorem w_idAt (K : KS') (hK : WK K) (x : Int32) : SpH hL_idAt 13 12 700 mL_idAt [vR 0 0, vI x] (world K) (PoU (fIdA (kS K) x) (gid (kS K) x.toNatClampNeg) (K) (K)) := by
  refine SpH.of (by decide) rfl rfl (Nat.le_of_ble_eq_true rfl) fun γ σ B => ?_
  refine B.run okL_idAt [] 60 ?_
  refine B.callX [vI x] [] (m_idAt K hK x) kX10_idAt ln_L_75 (dcV okL_idAt rfl) (fun hf T C hT => ?_) (fun hf T C hT => ?_)
  · refine B.run okL_idAt [] 60 ?_
    exact rU0 hf T C hT
  · rcases fs_fIdA (kS K) x with h | h
    · exact absurd h hf
    · refine AtX.catch (E := exF (fIdA (kS K) x)) (name := xI) B.1 [] ⟨0, 5, 6, 28⟩ [] B.2.2.1 (by rw [h]; exact fun _ z => absurd z List.not_mem_nil) (by decide) (by decide) cl_I (by rw [h]; exact ct_I) fun q => ?_
      refine B.run okL_idAt [] 60 ?_
      refine At.ldcI B.1 lc_I (dcL okL_idAt rfl) ?_
      refine B.run okL_idAt [] 60 ?_
      exact rUx hf (by rw [h]; rfl) T C hT
theorem w_heaviestPiece (K : KS') (hK : WK K) : SpH hL_heaviestPiece 13 12 700 mL_heaviestPiece [vR 0 0] (world K) (PoU (fHvy (kS K)) (gid (kS K) (fuN (gwt (kS K)) (gp (kS K)))) (K) (K)) := by
  refine SpH.of (by decide) rfl rfl (Nat.le_of_ble_eq_true rfl) fun γ σ B => ?_
  refine B.run okL_heaviestPiece [] 60 ?_
  refine B.callX [] [] (m_heaviestPiece K hK) kX10_heaviestPiece ln_L_78 (dcV okL_heaviestPiece rfl) (fun hf T C hT => ?_) (fun hf T C hT => ?_)
  · refine B.run okL_heaviestPiece [] 60 ?_
    exact rU0 hf T C hT
  · rcases fs_fHvy (kS K) with h | h
    · exact absurd h hf
    · refine AtX.catch (E := exF (fHvy (kS K))) (name := xN) B.1 [] ⟨0, 4, 5, 35⟩ [] B.2.2.1 (by rw [h]; exact fun _ z => absurd z List.not_mem_nil) (by decide) (by decide) cl_N (by rw [h]; exact ct_N) fun q => ?_
      refine B.run okL_heaviestPiece [] 60 ?_
      refine At.ldcI B.1 lc_N (dcL okL_heaviestPiece rfl) ?_
      refine B.run okL_heaviestPiece [] 60 ?_
      exact rUx hf (by rw [h]; rfl) T C hT
theorem w_bestSource (K : KS') (hK : WK K) (a : Int32) : SpH hL_bestSource 13 12 700 mL_bestSource [vR 0 0, vI a] (world K) (PoU (fBT (kS K) a (kC K)) ((bS (kS K) a (tmI (kS K)) (kC K)).2.1) (K) (K)) := by
  refine SpH.of (by decide) rfl rfl (Nat.le_of_ble_eq_true rfl) fun γ σ B => ?_
  refine B.run okL_bestSource [] 60 ?_
  refine B.callX [vI a] [] (m_bestSource K hK a) kX10_bestSource ln_L_82 (dcV okL_bestSource rfl) (fun hf T C hT => ?_) (fun hf T C hT => ?_)
  · refine B.run okL_bestSource [] 60 ?_
    exact rU0 hf T C hT
  · rcases fs_fBT (kS K) a (kC K) with h | h | h
    · exact absurd h hf
    · refine AtX.catch (E := exF (fBT (kS K) a (kC K))) (name := xA) B.1 [] ⟨0, 5, 6, 19⟩ [⟨0, 5, 10, 35⟩] B.2.2.1 (by rw [h]; exact fun _ z => absurd z List.not_mem_nil) (by decide) (by decide) cl_A (by rw [h]; exact ct_A) fun q => ?_
      refine B.run okL_bestSource [] 60 ?_
      refine At.ldcI B.1 lc_A (dcL okL_bestSource rfl) ?_
      refine B.run okL_bestSource [] 60 ?_
      exact rUx hf (by rw [h]; rfl) T C hT
    · refine AtX.catch (E := exF (fBT (kS K) a (kC K))) (name := xN) B.1 [⟨0, 5, 6, 19⟩] ⟨0, 5, 10, 35⟩ [] B.2.2.1 (by rw [h]; exact List.forall_mem_cons.mpr ⟨⟨by decide, xA, cl_A, nc_NA⟩, fun _ z => absurd z List.not_mem_nil⟩) (by decide) (by decide) cl_N (by rw [h]; exact ct_N) fun q => ?_
      refine B.run okL_bestSource [] 60 ?_
      refine At.ldcI B.1 lc_N (dcL okL_bestSource rfl) ?_
      refine B.run okL_bestSource [] 60 ?_
      exact rUx hf (by rw [h]; rfl) T C hT
theorem w_bestTarget (K : KS') (hK : WK K) (a : Int32) : SpH hL_bestTarget 13 12 700 mL_bestTarget [vR 0 0, vI a] (world K) (PoU (fBT (kS K) a (kC K)) ((bS (kS K) a (tmI (kS K)) (kC K)).2.2.1) (K) (K)) := by
  refine SpH.of (by decide) rfl rfl (Nat.le_of_ble_eq_true rfl) fun γ σ B => ?_
  refine B.run okL_bestTarget [] 60 ?_
  refine B.callX [vI a] [] (m_bestTarget K hK a) kX10_bestTarget ln_L_85 (dcV okL_bestTarget rfl) (fun hf T C hT => ?_) (fun hf T C hT => ?_)
  · refine B.run okL_bestTarget [] 60 ?_
    exact rU0 hf T C hT
  · rcases fs_fBT (kS K) a (kC K) with h | h | h
    · exact absurd h hf
    · refine AtX.catch (E := exF (fBT (kS K) a (kC K))) (name := xA) B.1 [] ⟨0, 5, 6, 19⟩ [⟨0, 5, 10, 35⟩] B.2.2.1 (by rw [h]; exact fun _ z => absurd z List.not_mem_nil) (by decide) (by decide) cl_A (by rw [h]; exact ct_A) fun q => ?_
      refine B.run okL_bestTarget [] 60 ?_
      refine At.ldcI B.1 lc_A (dcL okL_bestTarget rfl) ?_
      refine B.run okL_bestTarget [] 60 ?_
      exact rUx hf (by rw [h]; rfl) T C hT
    · refine AtX.catch (E := exF (fBT (kS K) a (kC K))) (name := xN) B.1 [⟨0, 5, 6, 19⟩] ⟨0, 5, 10, 35⟩ [] B.2.2.1 (by rw [h]; exact List.forall_mem_cons.mpr ⟨⟨by decide, xA, cl_A, nc_NA⟩, fun _ z => absurd z List.not_mem_nil⟩) (by decide) (by decide) cl_N (by rw [h]; exact ct_N) fun q => ?_
      refine B.run okL_bestTarget [] 60 ?_
      refine At.ldcI B.1 lc_N (dcL okL_bestTarget rfl) ?_
      refine B.run okL_bestTarget [] 60 ?_
      exact rUx hf (by rw [h]; rfl) T C hT
theorem w_bestMoment (K : KS') (hK : WK K) (a : Int32) : SpH hL_bestMoment 13 12 700 mL_bestMoment [vR 0 0, vI a] (world K) (PoU (fBT (kS K) a (kC K)) ((bS (kS K) a (tmI (kS K)) (kC K)).2.2.2) (K) (K)) := by
  refine SpH.of (by decide) rfl rfl (Nat.le_of_ble_eq_true rfl) fun γ σ B => ?_
  refine B.run okL_bestMoment [] 60 ?_
  refine B.callX [vI a] [] (m_bestMoment K hK a) kX10_bestMoment ln_L_88 (dcV okL_bestMoment rfl) (fun hf T C hT => ?_) (fun hf T C hT => ?_)
  · refine B.run okL_bestMoment [] 60 ?_
    exact rU0 hf T C hT
  · rcases fs_fBT (kS K) a (kC K) with h | h | h
    · exact absurd h hf
    · refine AtX.catch (E := exF (fBT (kS K) a (kC K))) (name := xA) B.1 [] ⟨0, 5, 6, 19⟩ [⟨0, 5, 10, 35⟩] B.2.2.1 (by rw [h]; exact fun _ z => absurd z List.not_mem_nil) (by decide) (by decide) cl_A (by rw [h]; exact ct_A) fun q => ?_
      refine B.run okL_bestMoment [] 60 ?_
      refine At.ldcI B.1 lc_A (dcL okL_bestMoment rfl) ?_
      refine B.run okL_bestMoment [] 60 ?_
      exact rUx hf (by rw [h]; rfl) T C hT
    · refine AtX.catch (E := exF (fBT (kS K) a (kC K))) (name := xN) B.1 [⟨0, 5, 6, 19⟩] ⟨0, 5, 10, 35⟩ [] B.2.2.1 (by rw [h]; exact List.forall_mem_cons.mpr ⟨⟨by decide, xA, cl_A, nc_NA⟩, fun _ z => absurd z List.not_mem_nil⟩) (by decide) (by decide) cl_N (by rw [h]; exact ct_N) fun q => ?_
      refine B.run okL_bestMoment [] 60 ?_
      refine At.ldcI B.1 lc_N (dcL okL_bestMoment rfl) ?_
      refine B.run okL_bestMoment [] 60 ?_
      exact rUx hf (by rw [h]; rfl) T C hT
theorem w_transfersToBalance (K : KS') (hK : WK K) (a : Int32) (hM : ∃ M, M < 2 ^ 30 ∧ absI (tmI (kS K)) = nI M) : SpH hL_transfersToBalance 13 12 700 mL_transfersToBalance [vR 0 0, vI a] (world K) (PoU (fTB K a) (nI ((tbK K a).getD 0)) (K) (K)) := by
  refine SpH.of (by decide) rfl rfl (Nat.le_of_ble_eq_true rfl) fun γ σ B => ?_
  refine B.run okL_transfersToBalance [] 60 ?_
  refine B.callX [vI a] [] (m_transfersToBalance K hK a hM) kX10_transfersToBalance ln_L_91 (dcV okL_transfersToBalance rfl) (fun hf T C hT => ?_) (fun hf T C hT => ?_)
  · refine B.run okL_transfersToBalance [] 60 ?_
    exact rU0 hf T C hT
  · rcases fs_fTB K a with h | h | h
    · exact absurd h hf
    · refine AtX.catch (E := exF (fTB K a)) (name := xA) B.1 [] ⟨0, 5, 6, 19⟩ [⟨0, 5, 10, 35⟩] B.2.2.1 (by rw [h]; exact fun _ z => absurd z List.not_mem_nil) (by decide) (by decide) cl_A (by rw [h]; exact ct_A) fun q => ?_
      refine B.run okL_transfersToBalance [] 60 ?_
      refine At.ldcI B.1 lc_A (dcL okL_transfersToBalance rfl) ?_
      refine B.run okL_transfersToBalance [] 60 ?_
      exact rUx hf (by rw [h]; rfl) T C hT
    · refine AtX.catch (E := exF (fTB K a)) (name := xN) B.1 [⟨0, 5, 6, 19⟩] ⟨0, 5, 10, 35⟩ [] B.2.2.1 (by rw [h]; exact List.forall_mem_cons.mpr ⟨⟨by decide, xA, cl_A, nc_NA⟩, fun _ z => absurd z List.not_mem_nil⟩) (by decide) (by decide) cl_N (by rw [h]; exact ct_N) fun q => ?_
      refine B.run okL_transfersToBalance [] 60 ?_
      refine At.ldcI B.1 lc_N (dcL okL_transfersToBalance rfl) ?_
      refine B.run okL_transfersToBalance [] 60 ?_
      exact rUx hf (by rw [h]; rfl) T C hT
theorem w_bestShiftPiece (K : KS') (hK : WK K) : SpH hL_bestShiftPiece 13 12 700 mL_bestShiftPiece [vR 0 0] (world K) (PoU (fBS (kS K) (kC K)) ((bstH (kS K) (kC K)).2.1) (K) (K)) := by
  refine SpH.of (by decide) rfl rfl (Nat.le_of_ble_eq_true rfl) fun γ σ B => ?_
  refine B.run okL_bestShiftPiece [] 60 ?_
  refine B.callX [] [] (m_bestShiftPiece K hK) kX10_bestShiftPiece ln_L_94 (dcV okL_bestShiftPiece rfl) (fun hf T C hT => ?_) (fun hf T C hT => ?_)
  · refine B.run okL_bestShiftPiece [] 60 ?_
    exact rU0 hf T C hT
  · rcases fs_fBS (kS K) (kC K) with h | h
    · exact absurd h hf
    · refine AtX.catch (E := exF (fBS (kS K) (kC K))) (name := xN) B.1 [] ⟨0, 4, 5, 35⟩ [] B.2.2.1 (by rw [h]; exact fun _ z => absurd z List.not_mem_nil) (by decide) (by decide) cl_N (by rw [h]; exact ct_N) fun q => ?_
      refine B.run okL_bestShiftPiece [] 60 ?_
      refine At.ldcI B.1 lc_N (dcL okL_bestShiftPiece rfl) ?_
      refine B.run okL_bestShiftPiece [] 60 ?_
      exact rUx hf (by rw [h]; rfl) T C hT
theorem w_bestShiftCompartment (K : KS') (hK : WK K) : SpH hL_bestShiftCompartment 13 12 700 mL_bestShiftCompartment [vR 0 0] (world K) (PoU (fBS (kS K) (kC K)) ((bstH (kS K) (kC K)).2.2.1) (K) (K)) := by
  refine SpH.of (by decide) rfl rfl (Nat.le_of_ble_eq_true rfl) fun γ σ B => ?_
  refine B.run okL_bestShiftCompartment [] 60 ?_
  refine B.callX [] [] (m_bestShiftCompartment K hK) kX10_bestShiftCompartment ln_L_97 (dcV okL_bestShiftCompartment rfl) (fun hf T C hT => ?_) (fun hf T C hT => ?_)
  · refine B.run okL_bestShiftCompartment [] 60 ?_
    exact rU0 hf T C hT
  · rcases fs_fBS (kS K) (kC K) with h | h
    · exact absurd h hf
    · refine AtX.catch (E := exF (fBS (kS K) (kC K))) (name := xN) B.1 [] ⟨0, 4, 5, 35⟩ [] B.2.2.1 (by rw [h]; exact fun _ z => absurd z List.not_mem_nil) (by decide) (by decide) cl_N (by rw [h]; exact ct_N) fun q => ?_
      refine B.run okL_bestShiftCompartment [] 60 ?_
      refine At.ldcI B.1 lc_N (dcL okL_bestShiftCompartment rfl) ?_
      refine B.run okL_bestShiftCompartment [] 60 ?_
      exact rUx hf (by rw [h]; rfl) T C hT
theorem w_momentAfter (K : KS') (hK : WK K) (x : Int32) : SpH hL_momentAfter 13 12 700 mL_momentAfter [vR 0 0, vI x] (world K) (PoU (fMA x) (tmI (tks x.toNatClampNeg (cpT K))) (K) (K)) := by
  refine SpH.of (by decide) rfl rfl (Nat.le_of_ble_eq_true rfl) fun γ σ B => ?_
  refine B.run okL_momentAfter [] 60 ?_
  refine B.callX [vI x] [] (m_momentAfter K hK x) kX10_momentAfter ln_L_100 (dcV okL_momentAfter rfl) (fun hf T C hT => ?_) (fun hf T C hT => ?_)
  · refine B.run okL_momentAfter [] 60 ?_
    exact rU0 hf T C hT
  · rcases fs_fMA x with h | h
    · exact absurd h hf
    · refine AtX.catch (E := exF (fMA x)) (name := xA) B.1 [] ⟨0, 5, 6, 19⟩ [] B.2.2.1 (by rw [h]; exact fun _ z => absurd z List.not_mem_nil) (by decide) (by decide) cl_A (by rw [h]; exact ct_A) fun q => ?_
      refine B.run okL_momentAfter [] 60 ?_
      refine At.ldcI B.1 lc_A (dcL okL_momentAfter rfl) ?_
      refine B.run okL_momentAfter [] 60 ?_
      exact rUx hf (by rw [h]; rfl) T C hT
theorem w_compartmentByLoad (K : KS') (hK : WK K) (x : Int32) : SpH hL_compartmentByLoad 13 12 700 mL_compartmentByLoad [vR 0 0, vI x] (world K) (PoU (fFst (lAt (kS K) x) (gc (kS K))) (nI (fst (lAt (kS K) x) (gc (kS K)))) (K) (K)) := by
  refine SpH.of (by decide) rfl rfl (Nat.le_of_ble_eq_true rfl) fun γ σ B => ?_
  refine B.run okL_compartmentByLoad [] 60 ?_
  refine B.callX [vI x] [] (m_compartmentByLoad K hK x) kX10_compartmentByLoad ln_L_103 (dcV okL_compartmentByLoad rfl) (fun hf T C hT => ?_) (fun hf T C hT => ?_)
  · refine B.run okL_compartmentByLoad [] 60 ?_
    exact rU0 hf T C hT
  · rcases fs_fFst (lAt (kS K) x) (gc (kS K)) with h | h
    · exact absurd h hf
    · refine AtX.catch (E := exF (fFst (lAt (kS K) x) (gc (kS K)))) (name := xN) B.1 [] ⟨0, 5, 6, 35⟩ [] B.2.2.1 (by rw [h]; exact fun _ z => absurd z List.not_mem_nil) (by decide) (by decide) cl_N (by rw [h]; exact ct_N) fun q => ?_
      refine B.run okL_compartmentByLoad [] 60 ?_
      refine At.ldcI B.1 lc_N (dcL okL_compartmentByLoad rfl) ?_
      refine B.run okL_compartmentByLoad [] 60 ?_
      exact rUx hf (by rw [h]; rfl) T C hT
theorem w_nextStorm (K : KS') (hK : WK K) : SpH hL_nextStorm 13 12 700 mL_nextStorm [vR 0 0] (world K) (PoU (fNxt (kS K)) (gmi (kS K) 0) (K) (K)) := by
  refine SpH.of (by decide) rfl rfl (Nat.le_of_ble_eq_true rfl) fun γ σ B => ?_
  refine B.run okL_nextStorm [] 60 ?_
  refine B.callX [] [] (m_nextStorm K hK) kX10_nextStorm ln_L_106 (dcV okL_nextStorm rfl) (fun hf T C hT => ?_) (fun hf T C hT => ?_)
  · refine B.run okL_nextStorm [] 60 ?_
    exact rU0 hf T C hT
  · rcases fs_fNxt (kS K) with h | h
    · exact absurd h hf
    · refine AtX.catch (E := exF (fNxt (kS K))) (name := xN) B.1 [] ⟨0, 4, 5, 35⟩ [] B.2.2.1 (by rw [h]; exact fun _ z => absurd z List.not_mem_nil) (by decide) (by decide) cl_N (by rw [h]; exact ct_N) fun q => ?_
      refine B.run okL_nextStorm [] 60 ?_
      refine At.ldcI B.1 lc_N (dcL okL_nextStorm rfl) ?_
      refine B.run okL_nextStorm [] 60 ?_
      exact rUx hf (by rw [h]; rfl) T C hT
theorem w_strengthAt (K : KS') (hK : WK K) (x : Int32) : SpH hL_strengthAt 13 12 700 mL_strengthAt [vR 0 0, vI x] (world K) (PoU (fStm (kS K) x) (gsg (kS K) (tq (kS K) x)) (K) (K)) := by
  refine SpH.of (by decide) rfl rfl (Nat.le_of_ble_eq_true rfl) fun γ σ B => ?_
  refine B.run okL_strengthAt [] 60 ?_
  refine B.callX [vI x] [] (m_strengthAt K hK x) kX10_strengthAt ln_L_109 (dcV okL_strengthAt rfl) (fun hf T C hT => ?_) (fun hf T C hT => ?_)
  · refine B.run okL_strengthAt [] 60 ?_
    exact rU0 hf T C hT
  · rcases fs_fStm (kS K) x with h | h
    · exact absurd h hf
    · refine AtX.catch (E := exF (fStm (kS K) x)) (name := xN) B.1 [] ⟨0, 5, 6, 35⟩ [] B.2.2.1 (by rw [h]; exact fun _ z => absurd z List.not_mem_nil) (by decide) (by decide) cl_N (by rw [h]; exact ct_N) fun q => ?_
      refine B.run okL_strengthAt [] 60 ?_
      refine At.ldcI B.1 lc_N (dcL okL_strengthAt rfl) ?_
      refine B.run okL_strengthAt [] 60 ?_
      exact rUx hf (by rw [h]; rfl) T C hT
theorem w_addCompartment (K : KS') (hK : WK K) (x y : Int32) : SpH hL_addCompartment 13 12 700 mL_addCompartment [vR 0 0, vI x, vI y] (world K) (PoU (fAdd (kS K) x y) (nI (gc (kS K))) (chg K (eAdd (kS K) x y)) (K)) := by
  refine SpH.of (by decide) rfl rfl (Nat.le_of_ble_eq_true rfl) fun γ σ B => ?_
  refine B.run okL_addCompartment [] 60 ?_
  refine B.callX [vI x, vI y] [] (m_addCompartment K hK x y) kX10_addCompartment ln_L_13 (dcV okL_addCompartment rfl) (fun hf T C hT => ?_) (fun hf T C hT => ?_)
  · refine B.run okL_addCompartment [] 60 ?_
    exact rU0 hf T C hT
  · rcases fs_fAdd (kS K) x y with h | h | h
    · exact absurd h hf
    · refine AtX.catch (E := exF (fAdd (kS K) x y)) (name := xA) B.1 [] ⟨0, 6, 7, 19⟩ [⟨0, 6, 11, 22⟩] B.2.2.1 (by rw [h]; exact fun _ z => absurd z List.not_mem_nil) (by decide) (by decide) cl_A (by rw [h]; exact ct_A) fun q => ?_
      refine B.run okL_addCompartment [] 60 ?_
      refine At.ldcI B.1 lc_A (dcL okL_addCompartment rfl) ?_
      refine B.run okL_addCompartment [] 60 ?_
      exact rUx hf (by rw [h]; rfl) T C hT
    · refine AtX.catch (E := exF (fAdd (kS K) x y)) (name := xS) B.1 [⟨0, 6, 7, 19⟩] ⟨0, 6, 11, 22⟩ [] B.2.2.1 (by rw [h]; exact List.forall_mem_cons.mpr ⟨⟨by decide, xA, cl_A, nc_SA⟩, fun _ z => absurd z List.not_mem_nil⟩) (by decide) (by decide) cl_S (by rw [h]; exact ct_S) fun q => ?_
      refine B.run okL_addCompartment [] 60 ?_
      refine At.ldcI B.1 lc_S (dcL okL_addCompartment rfl) ?_
      refine B.run okL_addCompartment [] 60 ?_
      exact rUx hf (by rw [h]; rfl) T C hT
theorem w_load (K : KS') (hK : WK K) (x y : Int32) : SpH hL_load 13 12 700 mL_load [vR 0 0, vI x, vI y] (world K) (PoU (fLoad (kS K) x y) (gnx (kS K)) (chg K (ePut (kS K) x y)) (K)) := by
  refine SpH.of (by decide) rfl rfl (Nat.le_of_ble_eq_true rfl) fun γ σ B => ?_
  refine B.run okL_load [] 60 ?_
  refine B.callX [vI x, vI y] [] (m_load K hK x y) kX10_load ln_L_25 (dcV okL_load rfl) (fun hf T C hT => ?_) (fun hf T C hT => ?_)
  · refine B.run okL_load [] 60 ?_
    exact rU0 hf T C hT
  · rcases fs_fLoad (kS K) x y with h | h | h | h
    · exact absurd h hf
    · refine AtX.catch (E := exF (fLoad (kS K) x y)) (name := xI) B.1 [] ⟨0, 6, 7, 28⟩ [⟨0, 6, 11, 19⟩, ⟨0, 6, 15, 22⟩] B.2.2.1 (by rw [h]; exact fun _ z => absurd z List.not_mem_nil) (by decide) (by decide) cl_I (by rw [h]; exact ct_I) fun q => ?_
      refine B.run okL_load [] 60 ?_
      refine At.ldcI B.1 lc_I (dcL okL_load rfl) ?_
      refine B.run okL_load [] 60 ?_
      exact rUx hf (by rw [h]; rfl) T C hT
    · refine AtX.catch (E := exF (fLoad (kS K) x y)) (name := xA) B.1 [⟨0, 6, 7, 28⟩] ⟨0, 6, 11, 19⟩ [⟨0, 6, 15, 22⟩] B.2.2.1 (by rw [h]; exact List.forall_mem_cons.mpr ⟨⟨by decide, xI, cl_I, nc_AI⟩, fun _ z => absurd z List.not_mem_nil⟩) (by decide) (by decide) cl_A (by rw [h]; exact ct_A) fun q => ?_
      refine B.run okL_load [] 60 ?_
      refine At.ldcI B.1 lc_A (dcL okL_load rfl) ?_
      refine B.run okL_load [] 60 ?_
      exact rUx hf (by rw [h]; rfl) T C hT
    · refine AtX.catch (E := exF (fLoad (kS K) x y)) (name := xS) B.1 [⟨0, 6, 7, 28⟩, ⟨0, 6, 11, 19⟩] ⟨0, 6, 15, 22⟩ [] B.2.2.1 (by rw [h]; exact List.forall_mem_cons.mpr ⟨⟨by decide, xI, cl_I, nc_SI⟩, List.forall_mem_cons.mpr ⟨⟨by decide, xA, cl_A, nc_SA⟩, fun _ z => absurd z List.not_mem_nil⟩⟩) (by decide) (by decide) cl_S (by rw [h]; exact ct_S) fun q => ?_
      refine B.run okL_load [] 60 ?_
      refine At.ldcI B.1 lc_S (dcL okL_load rfl) ?_
      refine B.run okL_load [] 60 ?_
      exact rUx hf (by rw [h]; rfl) T C hT
theorem w_setLeak (K : KS') (hK : WK K) (x y : Int32) : SpH hL_setLeak 13 12 700 mL_setLeak [vR 0 0, vI x, vI y] (world K) (PoU (fRat (kS K) x y) (gl (kS K) x.toNatClampNeg) (chg K (eLk (kS K) x y)) (K)) := by
  refine SpH.of (by decide) rfl rfl (Nat.le_of_ble_eq_true rfl) fun γ σ B => ?_
  refine B.run okL_setLeak [] 60 ?_
  refine B.callX [vI x, vI y] [] (m_setLeak K hK x y) kX10_setLeak ln_L_41 (dcV okL_setLeak rfl) (fun hf T C hT => ?_) (fun hf T C hT => ?_)
  · refine B.run okL_setLeak [] 60 ?_
    exact rU0 hf T C hT
  · rcases fs_fRat (kS K) x y with h | h | h
    · exact absurd h hf
    · refine AtX.catch (E := exF (fRat (kS K) x y)) (name := xI) B.1 [] ⟨0, 6, 7, 28⟩ [⟨0, 6, 11, 19⟩] B.2.2.1 (by rw [h]; exact fun _ z => absurd z List.not_mem_nil) (by decide) (by decide) cl_I (by rw [h]; exact ct_I) fun q => ?_
      refine B.run okL_setLeak [] 60 ?_
      refine At.ldcI B.1 lc_I (dcL okL_setLeak rfl) ?_
      refine B.run okL_setLeak [] 60 ?_
      exact rUx hf (by rw [h]; rfl) T C hT
    · refine AtX.catch (E := exF (fRat (kS K) x y)) (name := xA) B.1 [⟨0, 6, 7, 28⟩] ⟨0, 6, 11, 19⟩ [] B.2.2.1 (by rw [h]; exact List.forall_mem_cons.mpr ⟨⟨by decide, xI, cl_I, nc_AI⟩, fun _ z => absurd z List.not_mem_nil⟩) (by decide) (by decide) cl_A (by rw [h]; exact ct_A) fun q => ?_
      refine B.run okL_setLeak [] 60 ?_
      refine At.ldcI B.1 lc_A (dcL okL_setLeak rfl) ?_
      refine B.run okL_setLeak [] 60 ?_
      exact rUx hf (by rw [h]; rfl) T C hT
theorem w_unload (K : KS') (hK : WK K) (x : Int32) : SpH hL_unload 13 12 700 mL_unload [vR 0 0, vI x] (world K) (PoU (fUnl (kS K) x) (gwt (kS K) (pq (kS K) x)) (chg K (eRem (kS K) x)) (K)) := by
  refine SpH.of (by decide) rfl rfl (Nat.le_of_ble_eq_true rfl) fun γ σ B => ?_
  refine B.run okL_unload [] 60 ?_
  refine B.callX [vI x] [] (m_unload K hK x) kX10_unload ln_L_31 (dcV okL_unload rfl) (fun hf T C hT => ?_) (fun hf T C hT => ?_)
  · refine B.run okL_unload [] 60 ?_
    exact rU0 hf T C hT
  · rcases fs_fUnl (kS K) x with h | h
    · exact absurd h hf
    · refine AtX.catch (E := exF (fUnl (kS K) x)) (name := xN) B.1 [] ⟨0, 5, 6, 35⟩ [] B.2.2.1 (by rw [h]; exact fun _ z => absurd z List.not_mem_nil) (by decide) (by decide) cl_N (by rw [h]; exact ct_N) fun q => ?_
      refine B.run okL_unload [] 60 ?_
      refine At.ldcI B.1 lc_N (dcL okL_unload rfl) ?_
      refine B.run okL_unload [] 60 ?_
      exact rUx hf (by rw [h]; rfl) T C hT
theorem w_shift (K : KS') (hK : WK K) (x y : Int32) : SpH hL_shift 13 12 700 mL_shift [vR 0 0, vI x, vI y] (world K) (PoU (fShf (kS K) x y) (gpl (kS K) (pq (kS K) x)) (chg K (eCar (kS K) x y)) (K)) := by
  refine SpH.of (by decide) rfl rfl (Nat.le_of_ble_eq_true rfl) fun γ σ B => ?_
  refine B.run okL_shift [] 60 ?_
  refine B.callX [vI x, vI y] [] (m_shift K hK x y) kX10_shift ln_L_38 (dcV okL_shift rfl) (fun hf T C hT => ?_) (fun hf T C hT => ?_)
  · refine B.run okL_shift [] 60 ?_
    exact rU0 hf T C hT
  · rcases fs_fShf (kS K) x y with h | h | h | h
    · exact absurd h hf
    · refine AtX.catch (E := exF (fShf (kS K) x y)) (name := xI) B.1 [⟨0, 6, 7, 35⟩] ⟨0, 6, 11, 28⟩ [⟨0, 6, 15, 22⟩] B.2.2.1 (by rw [h]; exact List.forall_mem_cons.mpr ⟨⟨by decide, xN, cl_N, nc_IN⟩, fun _ z => absurd z List.not_mem_nil⟩) (by decide) (by decide) cl_I (by rw [h]; exact ct_I) fun q => ?_
      refine B.run okL_shift [] 60 ?_
      refine At.ldcI B.1 lc_I (dcL okL_shift rfl) ?_
      refine B.run okL_shift [] 60 ?_
      exact rUx hf (by rw [h]; rfl) T C hT
    · refine AtX.catch (E := exF (fShf (kS K) x y)) (name := xS) B.1 [⟨0, 6, 7, 35⟩, ⟨0, 6, 11, 28⟩] ⟨0, 6, 15, 22⟩ [] B.2.2.1 (by rw [h]; exact List.forall_mem_cons.mpr ⟨⟨by decide, xN, cl_N, nc_SN⟩, List.forall_mem_cons.mpr ⟨⟨by decide, xI, cl_I, nc_SI⟩, fun _ z => absurd z List.not_mem_nil⟩⟩) (by decide) (by decide) cl_S (by rw [h]; exact ct_S) fun q => ?_
      refine B.run okL_shift [] 60 ?_
      refine At.ldcI B.1 lc_S (dcL okL_shift rfl) ?_
      refine B.run okL_shift [] 60 ?_
      exact rUx hf (by rw [h]; rfl) T C hT
    · refine AtX.catch (E := exF (fShf (kS K) x y)) (name := xN) B.1 [] ⟨0, 6, 7, 35⟩ [⟨0, 6, 11, 28⟩, ⟨0, 6, 15, 22⟩] B.2.2.1 (by rw [h]; exact fun _ z => absurd z List.not_mem_nil) (by decide) (by decide) cl_N (by rw [h]; exact ct_N) fun q => ?_
      refine B.run okL_shift [] 60 ?_
      refine At.ldcI B.1 lc_N (dcL okL_shift rfl) ?_
      refine B.run okL_shift [] 60 ?_
      exact rUx hf (by rw [h]; rfl) T C hT
theorem w_setPump (K : KS') (hK : WK K) (x y : Int32) : SpH hL_setPump 13 12 700 mL_setPump [vR 0 0, vI x, vI y] (world K) (PoU (fRat (kS K) x y) (gu (kS K) x.toNatClampNeg) (chg K (eGu (kS K) x y)) (K)) := by
  refine SpH.of (by decide) rfl rfl (Nat.le_of_ble_eq_true rfl) fun γ σ B => ?_
  refine B.run okL_setPump [] 60 ?_
  refine B.callX [vI x, vI y] [] (m_setPump K hK x y) kX10_setPump ln_L_44 (dcV okL_setPump rfl) (fun hf T C hT => ?_) (fun hf T C hT => ?_)
  · refine B.run okL_setPump [] 60 ?_
    exact rU0 hf T C hT
  · rcases fs_fRat (kS K) x y with h | h | h
    · exact absurd h hf
    · refine AtX.catch (E := exF (fRat (kS K) x y)) (name := xI) B.1 [] ⟨0, 6, 7, 28⟩ [⟨0, 6, 11, 19⟩] B.2.2.1 (by rw [h]; exact fun _ z => absurd z List.not_mem_nil) (by decide) (by decide) cl_I (by rw [h]; exact ct_I) fun q => ?_
      refine B.run okL_setPump [] 60 ?_
      refine At.ldcI B.1 lc_I (dcL okL_setPump rfl) ?_
      refine B.run okL_setPump [] 60 ?_
      exact rUx hf (by rw [h]; rfl) T C hT
    · refine AtX.catch (E := exF (fRat (kS K) x y)) (name := xA) B.1 [⟨0, 6, 7, 28⟩] ⟨0, 6, 11, 19⟩ [] B.2.2.1 (by rw [h]; exact List.forall_mem_cons.mpr ⟨⟨by decide, xI, cl_I, nc_AI⟩, fun _ z => absurd z List.not_mem_nil⟩) (by decide) (by decide) cl_A (by rw [h]; exact ct_A) fun q => ?_
      refine B.run okL_setPump [] 60 ?_
      refine At.ldcI B.1 lc_A (dcL okL_setPump rfl) ?_
      refine B.run okL_setPump [] 60 ?_
      exact rUx hf (by rw [h]; rfl) T C hT
theorem w_transfer (K : KS') (hK : WK K) (x y a : Int32) : SpH hL_transfer 13 12 700 mL_transfer [vR 0 0, vI x, vI y, vI a] (world K) (PoU (fMov (kS K) x y a) (tmI (eMov (kS K) x y a)) (chg K (eMov (kS K) x y a)) (K)) := by
  refine SpH.of (by decide) rfl rfl (Nat.le_of_ble_eq_true rfl) fun γ σ B => ?_
  refine B.run okL_transfer [] 60 ?_
  refine B.callX [vI x, vI y, vI a] [] (m_transfer K hK x y a) kX10_transfer ln_L_47 (dcV okL_transfer rfl) (fun hf T C hT => ?_) (fun hf T C hT => ?_)
  · refine B.run okL_transfer [] 60 ?_
    exact rU0 hf T C hT
  · rcases fs_fMov (kS K) x y a with h | h | h | h
    · exact absurd h hf
    · refine AtX.catch (E := exF (fMov (kS K) x y a)) (name := xI) B.1 [] ⟨0, 7, 8, 28⟩ [⟨0, 7, 13, 19⟩, ⟨0, 7, 18, 22⟩] B.2.2.1 (by rw [h]; exact fun _ z => absurd z List.not_mem_nil) (by decide) (by decide) cl_I (by rw [h]; exact ct_I) fun q => ?_
      refine B.run okL_transfer [] 60 ?_
      refine At.ldcI B.1 lc_I (dcL okL_transfer rfl) ?_
      refine B.run okL_transfer [] 60 ?_
      exact rUx hf (by rw [h]; rfl) T C hT
    · refine AtX.catch (E := exF (fMov (kS K) x y a)) (name := xA) B.1 [⟨0, 7, 8, 28⟩] ⟨0, 7, 13, 19⟩ [⟨0, 7, 18, 22⟩] B.2.2.1 (by rw [h]; exact List.forall_mem_cons.mpr ⟨⟨by decide, xI, cl_I, nc_AI⟩, fun _ z => absurd z List.not_mem_nil⟩) (by decide) (by decide) cl_A (by rw [h]; exact ct_A) fun q => ?_
      refine B.run okL_transfer [] 60 ?_
      refine At.ldcI B.1 lc_A (dcL okL_transfer rfl) ?_
      refine B.run okL_transfer [] 60 ?_
      exact rUx hf (by rw [h]; rfl) T C hT
    · refine AtX.catch (E := exF (fMov (kS K) x y a)) (name := xS) B.1 [⟨0, 7, 8, 28⟩, ⟨0, 7, 13, 19⟩] ⟨0, 7, 18, 22⟩ [] B.2.2.1 (by rw [h]; exact List.forall_mem_cons.mpr ⟨⟨by decide, xI, cl_I, nc_SI⟩, List.forall_mem_cons.mpr ⟨⟨by decide, xA, cl_A, nc_SA⟩, fun _ z => absurd z List.not_mem_nil⟩⟩) (by decide) (by decide) cl_S (by rw [h]; exact ct_S) fun q => ?_
      refine B.run okL_transfer [] 60 ?_
      refine At.ldcI B.1 lc_S (dcL okL_transfer rfl) ?_
      refine B.run okL_transfer [] 60 ?_
      exact rUx hf (by rw [h]; rfl) T C hT
theorem w_balance (K : KS') (hK : WK K) (a : Int32) : SpH hL_balance 13 12 700 mL_balance [vR 0 0, vI a] (world K) (PoU (fBal (kS K) a (kC K)) (tmI (eBal (kS K) a (kC K))) (chg K (eBal (kS K) a (kC K))) (K)) := by
  refine SpH.of (by decide) rfl rfl (Nat.le_of_ble_eq_true rfl) fun γ σ B => ?_
  refine B.run okL_balance [] 60 ?_
  refine B.callX [vI a] [] (m_balance K hK a) kX10_balance ln_L_51 (dcV okL_balance rfl) (fun hf T C hT => ?_) (fun hf T C hT => ?_)
  · refine B.run okL_balance [] 60 ?_
    exact rU0 hf T C hT
  · rcases fs_fBal (kS K) a (kC K) with h | h | h
    · exact absurd h hf
    · refine AtX.catch (E := exF (fBal (kS K) a (kC K))) (name := xA) B.1 [] ⟨0, 5, 6, 19⟩ [⟨0, 5, 10, 22⟩] B.2.2.1 (by rw [h]; exact fun _ z => absurd z List.not_mem_nil) (by decide) (by decide) cl_A (by rw [h]; exact ct_A) fun q => ?_
      refine B.run okL_balance [] 60 ?_
      refine At.ldcI B.1 lc_A (dcL okL_balance rfl) ?_
      refine B.run okL_balance [] 60 ?_
      exact rUx hf (by rw [h]; rfl) T C hT
    · refine AtX.catch (E := exF (fBal (kS K) a (kC K))) (name := xS) B.1 [⟨0, 5, 6, 19⟩] ⟨0, 5, 10, 22⟩ [] B.2.2.1 (by rw [h]; exact List.forall_mem_cons.mpr ⟨⟨by decide, xA, cl_A, nc_SA⟩, fun _ z => absurd z List.not_mem_nil⟩) (by decide) (by decide) cl_S (by rw [h]; exact ct_S) fun q => ?_
      refine B.run okL_balance [] 60 ?_
      refine At.ldcI B.1 lc_S (dcL okL_balance rfl) ?_
      refine B.run okL_balance [] 60 ?_
      exact rUx hf (by rw [h]; rfl) T C hT
theorem w_setPower (K : KS') (hK : WK K) (x : Int32) : SpH hL_setPower 13 12 700 mL_setPower [vR 0 0, vI x] (world K) (PoU (fPow x) (gpw (kS K)) (chg K (ePow (kS K) x)) (K)) := by
  refine SpH.of (by decide) rfl rfl (Nat.le_of_ble_eq_true rfl) fun γ σ B => ?_
  refine B.run okL_setPower [] 60 ?_
  refine B.callX [vI x] [] (m_setPower K hK x) kX10_setPower ln_L_54 (dcV okL_setPower rfl) (fun hf T C hT => ?_) (fun hf T C hT => ?_)
  · refine B.run okL_setPower [] 60 ?_
    exact rU0 hf T C hT
  · rcases fs_fPow x with h | h
    · exact absurd h hf
    · refine AtX.catch (E := exF (fPow x)) (name := xA) B.1 [] ⟨0, 5, 6, 19⟩ [] B.2.2.1 (by rw [h]; exact fun _ z => absurd z List.not_mem_nil) (by decide) (by decide) cl_A (by rw [h]; exact ct_A) fun q => ?_
      refine B.run okL_setPower [] 60 ?_
      refine At.ldcI B.1 lc_A (dcL okL_setPower rfl) ?_
      refine B.run okL_setPower [] 60 ?_
      exact rUx hf (by rw [h]; rfl) T C hT
theorem w_setLimit (K : KS') (hK : WK K) (x : Int32) : SpH hL_setLimit 13 12 700 mL_setLimit [vR 0 0, vI x] (world K) (PoU (fLim x) (glm (kS K)) (chg K (eLim (kS K) x)) (K)) := by
  refine SpH.of (by decide) rfl rfl (Nat.le_of_ble_eq_true rfl) fun γ σ B => ?_
  refine B.run okL_setLimit [] 60 ?_
  refine B.callX [vI x] [] (m_setLimit K hK x) kX10_setLimit ln_L_57 (dcV okL_setLimit rfl) (fun hf T C hT => ?_) (fun hf T C hT => ?_)
  · refine B.run okL_setLimit [] 60 ?_
    exact rU0 hf T C hT
  · rcases fs_fLim x with h | h
    · exact absurd h hf
    · refine AtX.catch (E := exF (fLim x)) (name := xA) B.1 [] ⟨0, 5, 6, 19⟩ [] B.2.2.1 (by rw [h]; exact fun _ z => absurd z List.not_mem_nil) (by decide) (by decide) cl_A (by rw [h]; exact ct_A) fun q => ?_
      refine B.run okL_setLimit [] 60 ?_
      refine At.ldcI B.1 lc_A (dcL okL_setLimit rfl) ?_
      refine B.run okL_setLimit [] 60 ?_
      exact rUx hf (by rw [h]; rfl) T C hT
theorem w_schedule (K : KS') (hK : WK K) (x y : Int32) : SpH hL_schedule 13 12 700 mL_schedule [vR 0 0, vI x, vI y] (world K) (PoU (fSch (kS K) x y) (nI (gsc (kS K) + 1)) (chg K (eSch (kS K) x y)) (K)) := by
  refine SpH.of (by decide) rfl rfl (Nat.le_of_ble_eq_true rfl) fun γ σ B => ?_
  refine B.run okL_schedule [] 60 ?_
  refine B.callX [vI x, vI y] [] (m_schedule K hK x y) kX10_schedule ln_L_60 (dcV okL_schedule rfl) (fun hf T C hT => ?_) (fun hf T C hT => ?_)
  · refine B.run okL_schedule [] 60 ?_
    exact rU0 hf T C hT
  · rcases fs_fSch (kS K) x y with h | h | h
    · exact absurd h hf
    · refine AtX.catch (E := exF (fSch (kS K) x y)) (name := xA) B.1 [] ⟨0, 6, 7, 19⟩ [⟨0, 6, 11, 22⟩] B.2.2.1 (by rw [h]; exact fun _ z => absurd z List.not_mem_nil) (by decide) (by decide) cl_A (by rw [h]; exact ct_A) fun q => ?_
      refine B.run okL_schedule [] 60 ?_
      refine At.ldcI B.1 lc_A (dcL okL_schedule rfl) ?_
      refine B.run okL_schedule [] 60 ?_
      exact rUx hf (by rw [h]; rfl) T C hT
    · refine AtX.catch (E := exF (fSch (kS K) x y)) (name := xS) B.1 [⟨0, 6, 7, 19⟩] ⟨0, 6, 11, 22⟩ [] B.2.2.1 (by rw [h]; exact List.forall_mem_cons.mpr ⟨⟨by decide, xA, cl_A, nc_SA⟩, fun _ z => absurd z List.not_mem_nil⟩) (by decide) (by decide) cl_S (by rw [h]; exact ct_S) fun q => ?_
      refine B.run okL_schedule [] 60 ?_
      refine At.ldcI B.1 lc_S (dcL okL_schedule rfl) ?_
      refine B.run okL_schedule [] 60 ?_
      exact rUx hf (by rw [h]; rfl) T C hT
theorem w_cancelStorm (K : KS') (hK : WK K) (x : Int32) : SpH hL_cancelStorm 13 12 700 mL_cancelStorm [vR 0 0, vI x] (world K) (PoU (fStm (kS K) x) (gsg (kS K) (tq (kS K) x)) (chg K (eCan (kS K) x)) (K)) := by
  refine SpH.of (by decide) rfl rfl (Nat.le_of_ble_eq_true rfl) fun γ σ B => ?_
  refine B.run okL_cancelStorm [] 60 ?_
  refine B.callX [vI x] [] (m_cancelStorm K hK x) kX10_cancelStorm ln_L_63 (dcV okL_cancelStorm rfl) (fun hf T C hT => ?_) (fun hf T C hT => ?_)
  · refine B.run okL_cancelStorm [] 60 ?_
    exact rU0 hf T C hT
  · rcases fs_fStm (kS K) x with h | h
    · exact absurd h hf
    · refine AtX.catch (E := exF (fStm (kS K) x)) (name := xN) B.1 [] ⟨0, 5, 6, 35⟩ [] B.2.2.1 (by rw [h]; exact fun _ z => absurd z List.not_mem_nil) (by decide) (by decide) cl_N (by rw [h]; exact ct_N) fun q => ?_
      refine B.run okL_cancelStorm [] 60 ?_
      refine At.ldcI B.1 lc_N (dcL okL_cancelStorm rfl) ?_
      refine B.run okL_cancelStorm [] 60 ?_
      exact rUx hf (by rw [h]; rfl) T C hT
theorem w_pass (K : KS') (hK : WK K) (x : Int32) : SpH hL_pass 13 12 700 mL_pass [vR 0 0, vI x] (world K) (PoU (fPas (kS K) x) (nI (tkc x.toNatClampNeg (kS K))) (chg K (ePas (kS K) x)) (K)) := by
  refine SpH.of (by decide) rfl rfl (Nat.le_of_ble_eq_true rfl) fun γ σ B => ?_
  refine B.run okL_pass [] 60 ?_
  refine B.callX [vI x] [] (m_pass K hK x) kX10_pass ln_L_66 (dcV okL_pass rfl) (fun hf T C hT => ?_) (fun hf T C hT => ?_)
  · refine B.run okL_pass [] 60 ?_
    exact rU0 hf T C hT
  · rcases fs_fPas (kS K) x with h | h | h
    · exact absurd h hf
    · refine AtX.catch (E := exF (fPas (kS K) x)) (name := xA) B.1 [] ⟨0, 5, 6, 19⟩ [⟨0, 5, 10, 22⟩] B.2.2.1 (by rw [h]; exact fun _ z => absurd z List.not_mem_nil) (by decide) (by decide) cl_A (by rw [h]; exact ct_A) fun q => ?_
      refine B.run okL_pass [] 60 ?_
      refine At.ldcI B.1 lc_A (dcL okL_pass rfl) ?_
      refine B.run okL_pass [] 60 ?_
      exact rUx hf (by rw [h]; rfl) T C hT
    · refine AtX.catch (E := exF (fPas (kS K) x)) (name := xS) B.1 [⟨0, 5, 6, 19⟩] ⟨0, 5, 10, 22⟩ [] B.2.2.1 (by rw [h]; exact List.forall_mem_cons.mpr ⟨⟨by decide, xA, cl_A, nc_SA⟩, fun _ z => absurd z List.not_mem_nil⟩) (by decide) (by decide) cl_S (by rw [h]; exact ct_S) fun q => ?_
      refine B.run okL_pass [] 60 ?_
      refine At.ldcI B.1 lc_S (dcL okL_pass rfl) ?_
      refine B.run okL_pass [] 60 ?_
      exact rUx hf (by rw [h]; rfl) T C hT
