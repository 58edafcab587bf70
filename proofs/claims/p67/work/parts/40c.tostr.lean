/-! ===== StringBuilder.toString ===== -/
section QOV
variable {γ : CX} {own : String} {cc : ByteArray} {σ : Nat → Nat → Nat} {k n pc : Nat} {ls : List (Nat × AV)} {st : List AV} {h hC hC2 : AHp} {mc2 ms2 d2 ix na r o : Nat} {M : MR} {c : ACell} {v : Option AV} {Po2 : Out → AHp → Prop} {P : List Nat} {rest : List AV}
theorem se_len4 : Cond.selects RJ4 yJ5_length_8abf5 yJ4_length_8abf5 ∈ GT := mT 858 (by decide +kernel) rfl
/-- length() by its superclass's name -/
theorem At.qLn (P : List Nat) (rest : List AV) (O : OK γ own cc) (S : Sp 1 0 0 mJ4_length_8abf5 [vR r o] hC (PoQ v hC2)) (w : Cond.methodLink own ix yJ5_length_8abf5 ∈ GT) (F : Fits P P hC h) (hf : Fit γ k n 1 0 0) (d : decode cc pc = .ok (.invokevirtual ix, 3)) (hrc : rcv c RJ4)
    (g : At γ σ (k + 0) (n + 0) (pc + 3) ls ((v.toList.map (ren P)) ++ rest) (plug P P hC2 h)) (hg : hget hC r o = some c := by rfl) (hn : va_nd P = true := by rfl) (hrw : wsum rest ≤ 8 := by exact Nat.le_of_ble_eq_true rfl) (hst : st = vR (rn P r) o :: rest := by rfl) (hl : hC2.length = hC.length := by rfl) : At γ σ k n pc ls st h := by
  subst hst
  refine At.run (mc2 := 0) (ms2 := 0) O hn F (fun η H locs lsA hR hS hl => ?_) (kq hl g) (fun E h2 hp => by cases hp.1) (a := ((vR r o :: ([] : List AV)).map (ren P) |>.map (tr σ (cκ γ))).toArray)
  have hp := PreC_of O hn F (vR r o :: []) hR hS
  obtain ⟨R1, -⟩ := hR.part hn F
  have hvv := rcv_at O.2.2.2.2.1 (R1.1 r o _ hg) hrc
  obtain ⟨k1, k2, ⟨k3, k4, k5⟩, k6⟩ := kJ4_length_8abf5.1
  have hc : mW mJ4_length_8abf5 ∈ mW mJ4_length_8abf5 :: GT := List.mem_cons_self
  have cU : va_CU (cR γ) (cS γ) (cA γ) own RJ4 RJ5 ix yJ5_length_8abf5 (mY mJ4_length_8abf5) (mB mJ4_length_8abf5) (mL mJ4_length_8abf5) (mZ mJ4_length_8abf5) (mW mJ4_length_8abf5 :: GT) (rmD 1 0 0) 0 0 0 := by
    refine ⟨⟨rfl, rfl, hf.1, ?_, pay_in O.2.2.2.1 (GT_in k2), hc⟩, O.2.2.2.1 _ k2, O.2.2.2.1 _ k1, ⟨by decide +kernel, by decide +kernel⟩, fun sig h => ?_, O.2.2.2.1 _ w, O.2.2.2.1 _ sm_len, va_Decl.of (O.2.2.2.1 _ im_J5_length_8abf5) (O.2.2.2.1 _ cd_J5_length_8abf5), O.2.2.2.1 _ se_len4, O.2.2.2.1 _ im_J4_length_8abf5⟩
    · have := hf.2.1
      show 8 + (mL mJ4_length_8abf5 + 11) + 48 * 1 ≤ _
      omega
    · have h : parseMethodDescriptor (mY mJ4_length_8abf5).desc = some sig := h
      rw [h] at k5
      exact (Option.some.inj k5).symm
  refine vx_runU (own := own) (C := RJ4) (owner := RJ5) (index := ix) (x := yJ5_length_8abf5) (y := mY mJ4_length_8abf5) (bytes := mB mJ4_length_8abf5) (maxL := mL mJ4_length_8abf5) (ret := mZ mJ4_length_8abf5) (ws := mW mJ4_length_8abf5 :: GT) (rm := rmD 1 0 0) (n := 0) (nL := (cC γ).maxLocals) (cc := cc) (Ts := GT) (b := σ (rn P r) o) (As := [])
    ⟨O.1, O.2.1, rfl, O.2.2.1, O.2.2.2.1⟩ (S γ.2.1 (cD γ) _ _ (cκ γ) H.size O.2.2.2.2.2.2.2.1) cU ⟨PreC_blind, hvv, hp⟩
    rfl rfl hl.1 rfl ?_ d ⟨hf.2.2.1, hf.2.2.2⟩
  exact lv_room (Nat.le_trans (wsum_eq rest) hrw)
/-- a virtual method that makes cells -/
theorem At.callVG (O : OK γ own cc) (m : Nat) {As : List AV} (S : Sp d2 mc2 ms2 M (vR r o :: As) hC Po2) (K : KV M na) (w : Cond.methodLink own ix (mY M) ∈ GT) (hn : va_nd P = true) (F : Fits P P hC h) (hg : hget hC r o = some c) (hrc : rcv c (mY M).cls) (hb : bdH h.length h = true) (hbC : bdH hC.length hC = true) (hbl : ls.all (fun q => bdV h.length q.2) = true) (hbr : rest.all (bdV h.length) = true) (hna : As.length = na)
    (hf : Fit γ k n d2 mc2 ms2) (hrw : wsum rest ≤ 8) (d : decode cc pc = .ok (.invokevirtual ix, 3)) (hst : st = (As.map (ren P)).reverse ++ vR (rn P r) o :: rest)
    (kr : ∀ (v : Option AV) (h2 : AHp), Po2 (.inl v) h2 → h2.length = hC.length + m ∧ bdH h2.length h2 = true ∧ v.toList.all (bdV h2.length) = true ∧ ∀ σ2, grown σ σ2 h.length → At γ σ2 (k + mc2) (n + ms2) (pc + 3) ls ((v.toList.map (ren (P ++ newR h.length m))) ++ rest) (plug (P ++ newR h.length m) (P ++ newR h.length m) h2 (h ++ List.replicate m [])))
    (kx : ∀ (E : String) (h2 : AHp), ¬ Po2 (.inr E) h2) : At γ σ k n pc ls st h := by
  subst hst
  refine At.runG O m hn F hb hbC hbl hbr (fun η H locs lsA hR hS hl => ?_) kr kx (a := ((vR r o :: As).map (ren P) |>.map (tr σ (cκ γ))).toArray)
  have hp := PreC_of O hn F (vR r o :: As) hR hS
  obtain ⟨R1, -⟩ := hR.part hn F
  have hvv := rcv_at O.2.2.2.2.1 (R1.1 r o _ hg) hrc
  refine vx_runV (own := own) (C := (mY M).cls) (index := ix) (y := mY M) (bytes := mB M) (maxL := mL M) (ret := mZ M) (ws := mW M :: GT) (rm := rmD d2 mc2 ms2) (n := na) (nL := (cC γ).maxLocals) (cc := cc) (Ts := GT) (b := σ (rn P r) o) (As := (As.map (ren P)).map (tr σ (cκ γ)))
    ⟨O.1, O.2.1, rfl, O.2.2.1, O.2.2.2.1⟩ (S γ.2.1 (cD γ) _ _ (cκ γ) H.size O.2.2.2.2.2.2.2.1) ⟨callB_M O K.1 hf w, O.2.2.2.1 _ K.2.1, O.2.2.2.1 _ K.2.2⟩ ⟨PreC_blind, hvv, hp⟩
    rfl (by rw [List.length_map, List.length_map]; exact hna) hl.1 ?_ ?_ d ⟨hf.2.2.1, hf.2.2.2⟩
  · show ((As.map (ren P)).reverse ++ vR (rn P r) o :: rest).map (tr σ (cκ γ)) = _
    rw [List.map_append, List.map_reverse]
    rfl
  · exact lv_room (Nat.le_trans (wsum_eq rest) hrw)
end QOV
/-- what a copy of n of m bytes holds -/
def cpR (n m : Nat) (a : Nat → Int32) : Nat → Int32 := if n = m then a else va_cpy a (fun _ => 0) 0 0 n
theorem s_chkLen (n : Nat) (hn : n < 2 ^ 31) : Sp 0 0 0 mJ7_checkLength_df160 [vI 0, vI (nI n)] [] (PoV []) := by
  refine Sp.of' false (fun h => by cases h) (by decide) rfl rfl (Nat.le_of_ble_eq_true rfl) fun γ σ B => ?_
  refine B.run okJ7_checkLength_df160 [] 60 ?_
  exact ⟨fun _ => rV, fun h => absurd (nI_le (a := 0) (b := n) (Nat.zero_le _) hn) h⟩
theorem s_cpB (n m : Nat) (a : Nat → Int32) (h : n < m) (hm : m ≤ 65536) (hF : sb_Fit a) : Sp 1 1 n mJ7_copyOfRangeByte_39247 [vR 0 0, vI 0, vI (nI n)] [[sY m a]] (PoQ (some (vR 1 0)) [[sY m a], [sY n (va_cpy a (fun _ => 0) 0 0 n)]]) := by
  refine Sp.of' false (fun h => by cases h) (by decide) rfl rfl (Nat.le_of_ble_eq_true rfl) fun γ σ B => ?_
  have hc : (nI n).toNatClampNeg = n := nI_clamp (by omega)
  refine B.run okJ7_copyOfRangeByte_39247 [] 60 ?_
  refine At.qS [] [vI 0, vI (nI n)] [] B.1 (s_chkLen n (by omega)) kJ7_checkLength_df160 ln_J7_343 trivial (B.fit (by decide) (by omega) (by omega)) (dcS okJ7_copyOfRangeByte_39247 rfl) ?_
  refine B.run okJ7_copyOfRangeByte_39247 [] 60 ?_
  show At γ σ (0 + 0) (0 + 0) 10 [(0, vR 0 0), (1, vI 0), (2, vI (nI n)), (3, vI (nI n - 0))] [vI (nI n - 0)] [[sY m a]]
  rw [Int32.sub_zero]
  refine At.newA (N := n) (ty := .byte) B.1 rfl (fun _ _ _ => rfl) (mT 258 (by decide +kernel) rfl) (nI_pos (by omega)) hc (by show n * 1 ≤ _; omega) (by rw [B.2.2.2.1]; exact Nat.le_refl _) (by rw [B.2.2.2.1]; show 0 + 0 + n ≤ n; omega) (dcNew okJ7_copyOfRangeByte_39247 rfl) rfl rfl rfl fun σ2 hs => ?_
  refine B.runX okJ7_copyOfRangeByte_39247 [] 60 ?_
  show At γ σ2 (0 + 0 + 1) (0 + 0 + n) 24 [(0, vR 0 0), (1, vI 0), (2, vI (nI n)), (3, vI (nI n)), (4, vR 1 0)] [vI (nI n), vI (nI m - 0), vI 0, vR 1 0, vI 0, vR 0 0] [[sY m a], [sY n (fun _ => 0)]]
  rw [Int32.sub_zero]
  refine At.mmin B.1 kmin ln_J7_304 (B.fit (by decide) (by omega) (by omega)) (Nat.le_of_ble_eq_true rfl) (dcS okJ7_copyOfRangeByte_39247 rfl) ?_
  rw [if_pos (nI_lt h (by omega))]
  refine At.copyb B.1 (mT 737 (by decide +kernel) rfl) (r0 := 0) (o0 := 0) (r1 := 1) (o1 := 0) (n0 := m) (n1 := n) (f := a) (g := fun _ => 0) rfl rfl hF (by decide) (by decide) (nI_pos (by omega)) (by rw [hc]; show 0 + n ≤ m; omega) (by rw [hc]; show 0 + n ≤ n; omega) (B.fit (by decide) (by omega) (by omega)) (Nat.le_of_ble_eq_true rfl) (dcS okJ7_copyOfRangeByte_39247 rfl) ?_
  rw [hc]
  refine B.runN hs okJ7_copyOfRangeByte_39247 [] 60 ?_
  exact ⟨⟨rfl, rfl⟩, by omega, by omega, by show 1 < 2; omega⟩
theorem dcast_J7 : decode cJ7_copyOfRange_39247 21 = .ok (.checkcast 311, 3) := by decide +kernel
theorem s_cpR (n m : Nat) (a : Nat → Int32) (h : n ≤ m) (hm : m ≤ 65536) (hF : sb_Fit a) : Sp 2 1 n mJ7_copyOfRange_39247 [vR 0 0, vI 0, vI (nI n)] [[sY m a]] (PoQ (some (vR 1 0)) [[sY m a], [sY n (cpR n m a)]]) := by
  refine Sp.of' false (fun h => by cases h) (by decide) rfl rfl (Nat.le_of_ble_eq_true rfl) fun γ σ B => ?_
  refine B.run okJ7_copyOfRange_39247 [] 60 ?_
  refine ⟨fun _ => ?_, fun h => absurd rfl h⟩
  refine ⟨fun e => ?_, fun e => ?_⟩
  · have e : n = m := (nI_eq (by omega) (by omega)).mp e
    subst e
    refine At.clone B.1 (r := 0) (o := 0) (N := n) (f := a) rfl hF (List.mem_append_right _ (List.mem_of_getElem? (i := 727) (by decide +kernel))) (List.mem_append_right _ (List.mem_of_getElem? (i := 728) (by decide +kernel))) (List.mem_append_right _ (List.mem_of_getElem? (i := 729) (by decide +kernel))) (List.mem_append_right _ (List.mem_of_getElem? (i := 730) (by decide +kernel))) (List.mem_append_right _ (List.mem_of_getElem? (i := 731) (by decide +kernel))) (mFT 732 (by decide +kernel) rfl)
      (mT 727 (by decide +kernel) rfl) (mT 728 (by decide +kernel) rfl) (mT 729 (by decide +kernel) rfl) (mT 730 (by decide +kernel) rfl) (mT 731 (by decide +kernel) rfl)
      (B.fit (by decide) (by omega) (by omega)) (Nat.le_of_ble_eq_true rfl) (dcV okJ7_copyOfRange_39247 rfl) rfl rfl rfl fun σ2 hs => ?_
    refine At.castB B.1 (r := 1) (o := 0) (N := n) (f := a) rfl (mT 733 (by decide +kernel) rfl) dcast_J7 ?_
    refine B.runN hs okJ7_copyOfRange_39247 [] 60 ?_
    exact ⟨⟨rfl, by unfold cpR; rw [if_pos rfl]; rfl⟩, by omega, by omega, by show 1 < 2; omega⟩
  · have e : ¬ n = m := fun z => e (by rw [z])
    refine At.qSG [0] 1 [vR 0 0, vI 0, vI (nI n)] [] B.1 (s_cpB n m a (by omega) hm hF) kJ7_copyOfRangeByte_39247 ln_J7_339 ⟨rfl, trivial⟩ rfl rfl rfl rfl (B.fit (by decide) (by omega) (by omega)) (dcS okJ7_copyOfRange_39247 rfl) rfl rfl rfl (fun σ3 hs3 => ?_)
    refine B.runN hs3 okJ7_copyOfRange_39247 [] 60 ?_
    exact ⟨⟨rfl, by unfold cpR; rw [if_neg e]; rfl⟩, by omega, by omega, by show 1 < 2; omega⟩
theorem cpR_lat {n m : Nat} {t : Nat → Nat} {a : Nat → Int32} (hL : sb_Lat t n a) : sb_Lat t n (cpR n m a) := fun j hj => by
  obtain ⟨q1, q2⟩ := hL j hj
  refine ⟨q1, ?_⟩
  unfold cpR
  split
  · exact q2
  · rw [sb_cpy0 hj]; exact q2
theorem cpR_fit {n m : Nat} {a : Nat → Int32} (hF : sb_Fit a) : sb_Fit (cpR n m a) := by
  unfold cpR
  split
  · exact hF
  · exact sb_fitC hF sb_fit0
/-! a builder that is open -/
theorem nJ5_gv : KN mJ5_getValue_6d5f1 0 := ⟨in_J5, cd_J5_getValue_6d5f1, ⟨by decide +kernel, by decide +kernel, by decide +kernel⟩, by decide⟩
theorem sm_gv : Cond.sameMethod RJ5 RJ5 "getValue" "()[B" ∈ GT := mT 852 (by decide +kernel) rfl
theorem se_gv : Cond.selects RJ4 yJ5_getValue_6d5f1 yJ5_getValue_6d5f1 ∈ GT := mT 853 (by decide +kernel) rfl
theorem s_oGv (ml nn : Int32) (m : Nat) (a : Nat → Int32) : Sp 0 0 0 mJ5_getValue_6d5f1 [vR 0 0] (opB ml nn m a) (PoQ (some (vR 1 0)) (opB ml nn m a)) := by
  refine Sp.of' false (fun h => by cases h) (by decide) rfl rfl (Nat.le_of_ble_eq_true rfl) fun γ σ B => ?_
  refine B.run okJ5_getValue_6d5f1 [] 60 ?_
  exact ⟨⟨rfl, rfl⟩, by decide, by decide⟩
theorem s_oLen (ml nn : Int32) (m : Nat) (a : Nat → Int32) : Sp 0 0 0 mJ5_length_8abf5 [vR 0 0] (opB ml nn m a) (PoQ (some (vI nn)) (opB ml nn m a)) := by
  refine Sp.of' false (fun h => by cases h) (by decide) rfl rfl (Nat.le_of_ble_eq_true rfl) fun γ σ B => ?_
  refine B.run okJ5_length_8abf5 [] 60 ?_
  exact ⟨⟨rfl, rfl⟩, by decide, by decide⟩
theorem s_oLen4 (ml nn : Int32) (m : Nat) (a : Nat → Int32) : Sp 1 0 0 mJ4_length_8abf5 [vR 0 0] (opB ml nn m a) (PoQ (some (vI nn)) (opB ml nn m a)) := by
  refine Sp.of' false (fun h => by cases h) (by decide) rfl rfl (Nat.le_of_ble_eq_true rfl) fun γ σ B => ?_
  refine B.run okJ4_length_8abf5 [] 60 ?_
  refine At.qP [0, 1] [] [] B.1 (c := aO 1 [vR 1 0, vI 0, vI ml, vI nn]) (ci := 1) (C := RJ4) rfl (s_oLen ml nn m a) nJ5_len im_J5_length_8abf5 sm_len su_J4 (by decide) ln_J4_343 ⟨rfl, rfl, trivial⟩ (B.fit (by decide) (Nat.zero_le _) (Nat.zero_le _)) (dcI okJ4_length_8abf5 rfl) rcvO ?_
  refine B.run okJ4_length_8abf5 [] 60 ?_
  exact ⟨⟨rfl, rfl⟩, by decide, by decide⟩
theorem s_oIsL (ml nn : Int32) (m : Nat) (a : Nat → Int32) : Sp 0 0 0 mJ5_isLatin1_aae02 [vR 0 0] (opB ml nn m a) (PoI 1 (opB ml nn m a)) := by
  refine Sp.of' false (fun h => by cases h) (by decide) rfl rfl (Nat.le_of_ble_eq_true rfl) fun γ σ B => ?_
  refine At.getZ B.1 (v := vI 1) (sx_cs B.1) rfl cs_J5 (dcG okJ5_isLatin1_aae02 rfl) ?_
  refine B.run okJ5_isLatin1_aae02 [] 60 ?_
  exact ⟨fun h => absurd h (by decide), fun _ => ⟨fun _ => rT (b := true) rfl, fun h => absurd rfl h⟩⟩
def PoT (n m : Nat) (t : Nat → Nat) : Out → AHp → Prop := fun o h => ∃ f, sb_Lat t n f ∧ sb_Fit f ∧ o = .inl none ∧ h = [[sO 2], [aB n m t], [sY n f]]
abbrev st0 (n m : Nat) (t : Nat → Nat) : AHp := [[aO 0 [vN, vI 0, vI 0, vI 0]], [aB n m t]]
theorem s_strI2 (n m : Nat) (t : Nat → Nat) : Sp 3 1 n mJ0_init_db425 [vR 0 0, vR 1 0, vN] (st0 n m t) (PoT n m t) := by
  refine Sp.of' true (fun _ => rfl) (by decide) rfl rfl (Nat.le_of_ble_eq_true rfl) fun γ σ B => ?_
  refine B.run okJ0_init_db425 [] 60 ?_
  refine At.objI B.1 rfl (mT 849 (by decide +kernel) rfl) oi_inst oi_code (B.fit (by decide) (by omega) (by omega)) (Nat.le_of_ble_eq_true rfl) (dcI okJ0_init_db425 rfl) ?_
  refine B.run okJ0_init_db425 [] 60 ?_
  show At γ σ 0 0 5 [(0, vR 0 0), (1, vR 1 0), (2, vN)] [vR 1 0] (st0 n m t)
  refine At.opn (r := 1) (o := 0) rfl rfl rfl rfl fun σ2 ml a hs hL hF hnm hm => ?_
  show At γ σ2 0 0 5 [(0, vR 0 0), (1, vR 1 0), (2, vN)] [vR 1 0] [[aO 0 [vN, vI 0, vI 0, vI 0]], [aO 1 [vR 2 0, vI 0, vI ml, vI (nI n)]], [sY m a]]
  refine At.qU [1, 2] [] [] B.1 (c := aO 1 [vR 1 0, vI 0, vI ml, vI (nI n)]) (C := RJ4) (s_oGv ml (nI n) m a) nJ5_gv im_J5_getValue_6d5f1 sm_gv (B.1.2.2.2.1 _ se_gv) ln_J0_552 ⟨rfl, rfl, trivial⟩ (B.fit (by decide) (by omega) (by omega)) (dcV okJ0_init_db425 rfl) rcvO ?_
  refine B.runX okJ0_init_db425 [] 60 ?_
  refine At.qLn [1, 2] [] B.1 (c := aO 1 [vR 1 0, vI 0, vI ml, vI (nI n)]) (s_oLen4 ml (nI n) m a) ln_J0_549 ⟨rfl, rfl, trivial⟩ (B.fit (by decide) (by omega) (by omega)) (dcV okJ0_init_db425 rfl) rcvO ?_
  refine B.runX okJ0_init_db425 [] 60 ?_
  refine At.qU [1, 2] [] [] B.1 (c := aO 1 [vR 1 0, vI 0, vI ml, vI (nI n)]) (C := RJ4) (s_oIsL ml (nI n) m a) nJ5_isL im_J5_isLatin1_aae02 sm_isL (B.1.2.2.2.1 _ se_isL) ln_J0_1047 ⟨rfl, rfl, trivial⟩ (B.fit (by decide) (by omega) (by omega)) (dcV okJ0_init_db425 rfl) rcvO ?_
  refine B.runX okJ0_init_db425 [] 60 ?_
  refine ⟨fun h => absurd h (by decide), fun _ => ?_⟩
  refine ⟨rfl, ?_⟩
  refine At.qSG [2] 1 [vR 0 0, vI 0, vI (nI n)] [vR 0 0] B.1 (s_cpR n m a hnm hm hF) kJ7_copyOfRange_39247 ln_J0_54 ⟨rfl, trivial⟩ rfl rfl rfl rfl (B.fit (by decide) (by omega) (by omega)) (dcS okJ0_init_db425 rfl) rfl rfl rfl (fun σ3 hs3 => ?_)
  refine B.runX okJ0_init_db425 [(97, [0])] 60 ?_
  refine ⟨trivial, ?_⟩
  generalize hf : cpR n m a = f
  have hLf : sb_Lat t n f := hf ▸ cpR_lat hL
  have hFf : sb_Fit f := hf ▸ cpR_fit hF
  refine At.part (P := [0, 1, 3, 2]) (ls := [(0, vR 0 0)]) (st := []) (hC := [[sO 2], [aO 1 [vR 3 0, vI 0, vI ml, vI (nI n)]], [sY n f], [sY m a]]) B.1 rfl ⟨rfl, rfl, rfl, rfl, trivial⟩ ?_
  refine At.cls (N := 3) (r := 1) (o := 0) (r2 := 3) (nn := n) (m := m) (t := t) rfl rfl hL hF hnm hm (by decide) (Nat.le_refl _) rfl (fun _ _ _ => rfl) rfl rfl ?_
  refine B.runN (fun r hr o => ?_) okJ0_init_db425 [] 60 ?_
  · have hr : r < 2 := hr
    have : r = 0 ∨ r = 1 := by omega
    rcases this with rfl | rfl
    · exact (hs3 0 (by show 0 < 3; omega) o).trans (hs 0 hr o)
    · exact (hs3 1 (by show 1 < 3; omega) o).trans (hs 1 hr o)
  · exact ⟨⟨f, hLf, hFf, rfl, rfl⟩, by omega, by omega, by show 2 < 3; omega⟩
theorem s_strI1 (n m : Nat) (t : Nat → Nat) : Sp 4 1 n mJ0_init_81219 [vR 0 0, vR 1 0] (st0 n m t) (PoT n m t) := by
  refine Sp.of' true (fun _ => rfl) (by decide) rfl rfl (Nat.le_of_ble_eq_true rfl) fun γ σ B => ?_
  refine B.run okJ0_init_81219 [] 60 ?_
  refine At.null B.1 (dc1L okJ0_init_81219 rfl (by simp [L1])) ?_
  refine At.callI B.1 1 (P := [0, 1]) (hC := st0 n m t) (r := 0) (o := 0) (As := [vR 1 0, vN]) (rest := []) (s_strI2 n m t) kJ0_init_db425 ln_J0_489 rfl ⟨rfl, rfl, trivial⟩ rfl rfl rfl rfl rfl (B.fit (by decide) (by omega) (by omega)) (Nat.le_of_ble_eq_true rfl) (dcI okJ0_init_81219 rfl) rfl (fun v h2 hp => ?_) (fun E h2 hp => by obtain ⟨_, _, _, z, _⟩ := hp; cases z)
  obtain ⟨f, f1, f2, e1, rfl⟩ := hp
  cases e1
  refine ⟨rfl, rfl, rfl, fun σ2 g2 => ?_⟩
  refine B.runN g2 okJ0_init_81219 [] 60 ?_
  exact ⟨⟨f, f1, f2, rfl, rfl⟩, by omega, by omega, by show 2 < 3; omega⟩
def PoS (n m : Nat) (t : Nat → Nat) : Out → AHp → Prop := fun o h => ∃ f, sb_Lat t n f ∧ sb_Fit f ∧ o = .inl (some (vR 1 0)) ∧ h = [[aB n m t], [sO 2], [sY n f]]
theorem s_toS (n m : Nat) (t : Nat → Nat) : Sp 5 2 (4 + n) mJ4_toString_0e30d [vR 0 0] [[aB n m t]] (PoS n m t) := by
  refine Sp.of' false (fun h => by cases h) (by decide) rfl rfl (Nat.le_of_ble_eq_true rfl) fun γ σ B => ?_
  refine At.newO B.1 (ci := 0) (C := RJ0) (T := TJ0) (N := 4) (fs := [vN, vI 0, vI 0, vI 0]) rfl (mT 841 (by decide +kernel) rfl) (mT 842 (by decide +kernel) rfl) in_J0 (fun j hj => by
    have : j = 0 ∨ j = 1 ∨ j = 2 ∨ j = 3 := by omega
    rcases this with rfl | rfl | rfl | rfl <;> rfl) rfl (by rw [B.2.2.2.1]; show 0 + 1 ≤ 2; decide) (by rw [B.2.2.2.1]; show 0 + 4 ≤ 4 + n; omega) (dcN okJ4_toString_0e30d rfl) rfl rfl rfl fun σ1 g1 => ?_
  refine B.runX okJ4_toString_0e30d [] 60 ?_
  refine At.callI B.1 1 (P := [1, 0]) (hC := st0 n m t) (r := 0) (o := 0) (As := [vR 1 0]) (rest := [vR 1 0]) (s_strI1 n m t) kJ0_init_81219 ln_J4_137 rfl ⟨rfl, rfl, trivial⟩ rfl rfl rfl rfl rfl (B.fit (by decide) (by omega) (by omega)) (Nat.le_of_ble_eq_true rfl) (dcI okJ4_toString_0e30d rfl) rfl (fun v h2 hp => ?_) (fun E h2 hp => by obtain ⟨_, _, _, z, _⟩ := hp; cases z)
  obtain ⟨f, f1, f2, e1, rfl⟩ := hp
  cases e1
  refine ⟨rfl, rfl, rfl, fun σ2 g2 => ?_⟩
  refine B.runN (fun r hr o => (g2 r (by have hr : r < 1 := hr; show r < 2; omega) o).trans (g1 r hr o)) okJ4_toString_0e30d [] 60 ?_
  exact ⟨⟨f, f1, f2, rfl, rfl⟩, by omega, by omega, by show 1 < 3; omega⟩
