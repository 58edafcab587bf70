/-! ===== Keyword.ordinal() ===== -/
abbrev yOrd : MethodName := ⟨RX6, "ordinal", "()I"⟩
theorem or_link : Cond.methodLink RX10 486 yOrd ∈ GT := mT 1548 (by decide +kernel) rfl
theorem or_same : Cond.sameMethod RX6 RJx29ce0 "ordinal" "()I" ∈ GT := mT 1549 (by decide +kernel) rfl
theorem or_sel : Cond.selects RX6 yOrd yJx29ce0_ordinal_8abf5 ∈ GT := mT 1551 (by decide +kernel) rfl
theorem or_fld : Cond.fieldLink RJx29ce0 7 RJx29ce0 "ordinal" "I" ∈ GT := mT 2184 (by decide +kernel) rfl
theorem nOrd : KN mJx29ce0_ordinal_8abf5 0 := ⟨in_Jx29ce0, cd_Jx29ce0_ordinal_8abf5, ⟨by decide +kernel, by decide +kernel, by decide +kernel⟩, by decide⟩
theorem ord_val : ∀ k, k < 10 → ([0, 1, 2, 3, 4, 5, 6, 7, 8, 9] : List Int32).getD k 0 = nI k := by decide
theorem s_ord (k : Nat) (hk : k < 10) : Sp 0 0 0 mJx29ce0_ordinal_8abf5 [vK (5 + k)] [] (PoQ (some (vI (nI k))) []) := by
  refine Sp.of' false (fun h => by cases h) (by decide) rfl rfl (Nat.le_of_ble_eq_true rfl) fun γ σ B => ?_
  refine B.run okJx29ce0_ordinal_8abf5 [] 60 ?_
  refine At.getOF B.1 (x := vK (5 + k)) (v := vI (nI k)) (((sx B.1).1.1.1 k hk).2.2 _ (List.mem_of_getElem? (l := kwF) (i := 0) rfl)) rfl ?_ or_fld (dcGf okJx29ce0_ordinal_8abf5 rfl) ?_
  · show Value.int (nI k) = Value.int (([0, 1, 2, 3, 4, 5, 6, 7, 8, 9] : List Int32).getD k 0)
    rw [ord_val k hk]
  refine B.run okJx29ce0_ordinal_8abf5 [] 60 ?_
  exact ⟨⟨rfl, rfl⟩, by decide, by decide⟩
section ATORD
variable {γ : CX} {cc : ByteArray} {σ : Nat → Nat → Nat} {k n pc : Nat} {ls : List (Nat × AV)} {h : AHp}
theorem At.ord (rest : List AV) (O : OK γ RX10 cc) {kk : Nat} (hk : kk < 10) (hf : Fit γ k n 0 0 0) (d : decode cc pc = .ok (.invokevirtual 486, 3)) (g : At γ σ k n (pc + 3) ls (vI (nI kk) :: rest) h) (hrw : wsum rest ≤ 8 := by exact Nat.le_of_ble_eq_true rfl) : At γ σ k n pc ls (vK (5 + kk) :: rest) h := by
  have F : Fits [] [] [] h := trivial
  refine At.run (P := []) (hC := []) (mc2 := 0) (ms2 := 0) O rfl F (fun η H locs lsA hR hS hl => ?_) (kq (P := []) (hC := []) (hC2 := []) (v := some (vI (nI kk))) rfl g) (fun E h2 hp => by cases hp.1) (a := (([vK (5 + kk)] : List AV).map (ren []) |>.map (tr σ (cκ γ))).toArray)
  have hp := PreC_of O rfl F [vK (5 + kk)] hR hS
  obtain ⟨cell, f1, f2, f3, -⟩ := (((sx O).1.1.1 kk hk).2.1).kept hS.2.1
  obtain ⟨k1, k2, ⟨k3, k4, k5⟩, k6⟩ := nOrd
  have hc : mW mJx29ce0_ordinal_8abf5 ∈ mW mJx29ce0_ordinal_8abf5 :: GT := List.mem_cons_self
  have cU : va_CU (cR γ) (cS γ) (cA γ) RX10 RX6 RJx29ce0 486 yOrd (mY mJx29ce0_ordinal_8abf5) (mB mJx29ce0_ordinal_8abf5) (mL mJx29ce0_ordinal_8abf5) (mZ mJx29ce0_ordinal_8abf5) (mW mJx29ce0_ordinal_8abf5 :: GT) (rmD 0 0 0) 0 0 0 := by
    refine ⟨⟨rfl, rfl, hf.1, ?_, pay_in O.2.2.2.1 (GT_in k2), hc⟩, O.2.2.2.1 _ k2, O.2.2.2.1 _ k1, ⟨k3, k4⟩, fun sig h => ?_, O.2.2.2.1 _ or_link, O.2.2.2.1 _ or_same, va_Decl.of (O.2.2.2.1 _ im_Jx29ce0_ordinal_8abf5) (O.2.2.2.1 _ k2), O.2.2.2.1 _ or_sel, O.2.2.2.1 _ im_Jx29ce0_ordinal_8abf5⟩
    · have := hf.2.1
      show 8 + (mL mJx29ce0_ordinal_8abf5 + 11) + 48 * 0 ≤ _
      omega
    · have h : parseMethodDescriptor (mY mJx29ce0_ordinal_8abf5).desc = some sig := h
      rw [h] at k5
      exact (Option.some.inj k5).symm
  refine vx_runU (own := RX10) (C := RX6) (owner := RJx29ce0) (index := 486) (x := yOrd) (y := mY mJx29ce0_ordinal_8abf5) (bytes := mB mJx29ce0_ordinal_8abf5) (maxL := mL mJx29ce0_ordinal_8abf5) (ret := mZ mJx29ce0_ordinal_8abf5) (ws := mW mJx29ce0_ordinal_8abf5 :: GT) (rm := rmD 0 0 0) (n := 0) (nL := (cC γ).maxLocals) (cc := cc) (Ts := GT) (b := cκ γ (5 + kk)) (As := [])
    ⟨O.1, O.2.1, rfl, O.2.2.1, O.2.2.2.1⟩ (s_ord kk hk γ.2.1 (cD γ) _ _ (cκ γ) H.size O.2.2.2.2.2.2.2.1) cU ⟨PreC_blind, ⟨cell, f1, f2, f3⟩, hp⟩
    rfl rfl hl.1 rfl ?_ d ⟨hf.2.2.1, hf.2.2.2⟩
  exact lv_room (Nat.le_trans (wsum_eq rest) hrw)
end ATORD
