/-! ===== calls with a StringBuilder or a constant as receiver; a StringBuilder opened and closed ===== -/
def PoQ (v : Option AV) (h0 : AHp) : Out → AHp → Prop := fun o h => o = .inl v ∧ h = h0
def rcv (c : ACell) (C : String) : Prop := match c with
  | .inr (.inl (ci, _)) => ∃ T N, vwCl[ci]? = some (C, T, N)
  | .inr (.inr _) => C = RJ4
  | _ => False
theorem rcv_at {D : va_G} {σ η : Nat → Nat → Nat} {κ : Nat → Nat} {U : State} {H : Heap} {r o : Nat} {c : ACell} {C : String} (hK : va_K D vwCl [] U) (h : atC D σ η κ U H r o c) (hr : rcv c C) : ∃ cell : Cell, H[σ r o]? = some cell ∧ cell.vm.isStatics = false ∧ U.vm.findClass C = some cell.cls := by
  rcases c with ⟨ty, n, x⟩ | ⟨ci, fs⟩ | ⟨n, m, t⟩
  · exact False.elim hr
  · obtain ⟨T, N, hc⟩ := hr
    obtain ⟨q, e1, cell, f1, f2, f3, f4⟩ := h
    obtain ⟨hSl, hfc, -⟩ := hK.1 ci _ hc
    exact ⟨cell, f1, by rw [f3]; rfl, by rw [f2]; exact hfc⟩
  · have hr : C = RJ4 := hr
    subst hr
    obtain ⟨⟨ml, cell, f1, f2, f3, f4⟩, -⟩ := h
    obtain ⟨hSl, hfc, -⟩ := hK.1 1 (RJ4, TJ4, 4) rfl
    exact ⟨cell, f1, by rw [f3]; rfl, by rw [f2]; exact hfc⟩
section AQ
variable {γ : CX} {own : String} {cc : ByteArray} {σ : Nat → Nat → Nat} {k n pc : Nat} {ls : List (Nat × AV)} {st : List AV} {h hC hC2 : AHp} {mc2 ms2 d2 ix na r o : Nat} {M : MR} {c : ACell} {v : Option AV}
theorem kq {P : List Nat} {rest : List AV} (hl : hC2.length = hC.length) (g : At γ σ (k + mc2) (n + ms2) (pc + 3) ls ((v.toList.map (ren P)) ++ rest) (plug P P hC2 h)) : ∀ (v2 : Option AV) (h2 : AHp), PoQ v hC2 (.inl v2) h2 → h2.length = hC.length ∧ At γ σ (k + mc2) (n + ms2) (pc + 3) ls ((v2.toList.map (ren P)) ++ rest) (plug P P h2 h) := fun v2 h2 hp => by
  obtain ⟨hv, rfl⟩ := hp
  cases hv
  exact ⟨hl, g⟩
theorem At.qV (P : List Nat) (As rest : List AV) (O : OK γ own cc) (S : Sp d2 mc2 ms2 M (vR r o :: As) hC (PoQ v hC2)) (K : KV M na) (w : Cond.methodLink own ix (mY M) ∈ GT) (F : Fits P P hC h) (hf : Fit γ k n d2 mc2 ms2) (d : decode cc pc = .ok (.invokevirtual ix, 3)) (hrc : rcv c (mY M).cls)
    (g : At γ σ (k + mc2) (n + ms2) (pc + 3) ls ((v.toList.map (ren P)) ++ rest) (plug P P hC2 h)) (hg : hget hC r o = some c := by rfl) (hn : va_nd P = true := by rfl) (hna : As.length = na := by rfl) (hrw : wsum rest ≤ 8 := by exact Nat.le_of_ble_eq_true rfl) (hst : st = (As.map (ren P)).reverse ++ vR (rn P r) o :: rest := by rfl) (hl : hC2.length = hC.length := by rfl) : At γ σ k n pc ls st h := by
  subst hst
  refine At.run O hn F (fun η H locs lsA hR hS hl => ?_) (kq hl g) (fun E h2 hp => by cases hp.1) (a := ((vR r o :: As).map (ren P) |>.map (tr σ (cκ γ))).toArray)
  have hp := PreC_of O hn F (vR r o :: As) hR hS
  obtain ⟨R1, -⟩ := hR.part hn F
  have hvv := rcv_at O.2.2.2.2.1 (R1.1 r o _ hg) hrc
  refine vx_runV (own := own) (C := (mY M).cls) (index := ix) (y := mY M) (bytes := mB M) (maxL := mL M) (ret := mZ M) (ws := mW M :: GT) (rm := rmD d2 mc2 ms2) (n := na) (nL := (cC γ).maxLocals) (cc := cc) (Ts := GT) (b := σ (rn P r) o) (As := (As.map (ren P)).map (tr σ (cκ γ)))
    ⟨O.1, O.2.1, rfl, O.2.2.1, O.2.2.2.1⟩ (S γ.2.1 (cD γ) _ _ (cκ γ) H.size O.2.2.2.2.2.2.2.1) ⟨callB_M O K.1 hf w, O.2.2.2.1 _ K.2.1, O.2.2.2.1 _ K.2.2⟩ ⟨PreC_blind, hvv, hp⟩
    rfl (by rw [List.length_map, List.length_map]; exact hna) hl.1 ?_ ?_ d ⟨hf.2.2.1, hf.2.2.2⟩
  · show ((As.map (ren P)).reverse ++ vR (rn P r) o :: rest).map (tr σ (cκ γ)) = _
    rw [List.map_append, List.map_reverse]
    rfl
  · exact lv_room (Nat.le_trans (wsum_eq rest) hrw)
theorem cU_of (O : OK γ own cc) (K : KN M na) (hf : Fit γ k n d2 mc2 ms2) (w : Cond.methodLink own ix (mY M) ∈ GT) {C : String} (hi : Cond.instanceMethod (mY M) ∈ GT) (hs : Cond.sameMethod (mY M).cls (mY M).cls (mY M).name (mY M).desc ∈ GT) (hse : (Cond.selects C (mY M) (mY M)).before (cA γ) (cS γ) = true) :
    va_CU (cR γ) (cS γ) (cA γ) own C (mY M).cls ix (mY M) (mY M) (mB M) (mL M) (mZ M) (mW M :: GT) (rmD d2 mc2 ms2) mc2 ms2 na := by
  obtain ⟨k1, k2, ⟨k3, k4, k5⟩, k6⟩ := K
  have hc : mW M ∈ mW M :: GT := List.mem_cons_self
  refine ⟨⟨rfl, rfl, hf.1, ?_, pay_in O.2.2.2.1 (GT_in k2), hc⟩, O.2.2.2.1 _ k2, O.2.2.2.1 _ k1, ⟨k3, k4⟩, fun sig h => ?_, O.2.2.2.1 _ w, O.2.2.2.1 _ hs, va_Decl.of (O.2.2.2.1 _ hi) (O.2.2.2.1 _ k2), hse, O.2.2.2.1 _ hi⟩
  · have := hf.2.1
    show 8 + (mL M + 11) + 48 * d2 ≤ _
    omega
  · rw [h] at k5
    exact (Option.some.inj k5).symm
theorem At.qU (P : List Nat) (As rest : List AV) (O : OK γ own cc) {C : String} (S : Sp d2 mc2 ms2 M (vR r o :: As) hC (PoQ v hC2)) (K : KN M na) (hi : Cond.instanceMethod (mY M) ∈ GT) (hs : Cond.sameMethod (mY M).cls (mY M).cls (mY M).name (mY M).desc ∈ GT) (hse : (Cond.selects C (mY M) (mY M)).before (cA γ) (cS γ) = true) (w : Cond.methodLink own ix (mY M) ∈ GT) (F : Fits P P hC h) (hf : Fit γ k n d2 mc2 ms2) (d : decode cc pc = .ok (.invokevirtual ix, 3)) (hrc : rcv c C)
    (g : At γ σ (k + mc2) (n + ms2) (pc + 3) ls ((v.toList.map (ren P)) ++ rest) (plug P P hC2 h)) (hg : hget hC r o = some c := by rfl) (hn : va_nd P = true := by rfl) (hna : As.length = na := by rfl) (hrw : wsum rest ≤ 8 := by exact Nat.le_of_ble_eq_true rfl) (hst : st = (As.map (ren P)).reverse ++ vR (rn P r) o :: rest := by rfl) (hl : hC2.length = hC.length := by rfl) : At γ σ k n pc ls st h := by
  subst hst
  refine At.run O hn F (fun η H locs lsA hR hS hl => ?_) (kq hl g) (fun E h2 hp => by cases hp.1) (a := ((vR r o :: As).map (ren P) |>.map (tr σ (cκ γ))).toArray)
  have hp := PreC_of O hn F (vR r o :: As) hR hS
  obtain ⟨R1, -⟩ := hR.part hn F
  have hvv := rcv_at O.2.2.2.2.1 (R1.1 r o _ hg) hrc
  refine vx_runU (own := own) (C := C) (owner := (mY M).cls) (index := ix) (x := mY M) (y := mY M) (bytes := mB M) (maxL := mL M) (ret := mZ M) (ws := mW M :: GT) (rm := rmD d2 mc2 ms2) (n := na) (nL := (cC γ).maxLocals) (cc := cc) (Ts := GT) (b := σ (rn P r) o) (As := (As.map (ren P)).map (tr σ (cκ γ)))
    ⟨O.1, O.2.1, rfl, O.2.2.1, O.2.2.2.1⟩ (S γ.2.1 (cD γ) _ _ (cκ γ) H.size O.2.2.2.2.2.2.2.1) (cU_of O K hf w hi hs hse) ⟨PreC_blind, hvv, hp⟩
    rfl (by rw [List.length_map, List.length_map]; exact hna) hl.1 ?_ ?_ d ⟨hf.2.2.1, hf.2.2.2⟩
  · show ((As.map (ren P)).reverse ++ vR (rn P r) o :: rest).map (tr σ (cκ γ)) = _
    rw [List.map_append, List.map_reverse]
    rfl
  · exact lv_room (Nat.le_trans (wsum_eq rest) hrw)
/-- invokespecial of the superclass's method -/
theorem At.qP (P : List Nat) (As rest : List AV) (O : OK γ own cc) {ci : Nat} {C : String} {T : u_T} {N : Nat} (hcl : vwCl[ci]? = some (C, T, N)) (S : Sp d2 mc2 ms2 M (vR r o :: As) hC (PoQ v hC2)) (K : KN M na) (hi : Cond.instanceMethod (mY M) ∈ GT) (hs : Cond.sameMethod (mY M).cls (mY M).cls (mY M).name (mY M).desc ∈ GT) (hsu : Cond.superclass own (mY M).cls ∈ GT) (hno : (mY M).name ≠ "<init>") (w : Cond.methodLink own ix (mY M) ∈ GT) (F : Fits P P hC h) (hf : Fit γ k n d2 mc2 ms2) (d : decode cc pc = .ok (.invokespecial ix, 3)) (hrc : rcv c C)
    (g : At γ σ (k + mc2) (n + ms2) (pc + 3) ls ((v.toList.map (ren P)) ++ rest) (plug P P hC2 h)) (hg : hget hC r o = some c := by rfl) (hn : va_nd P = true := by rfl) (hna : As.length = na := by rfl) (hrw : wsum rest ≤ 8 := by exact Nat.le_of_ble_eq_true rfl) (hst : st = (As.map (ren P)).reverse ++ vR (rn P r) o :: rest := by rfl) (hl : hC2.length = hC.length := by rfl) : At γ σ k n pc ls st h := by
  subst hst
  refine At.run O hn F (fun η H locs lsA hR hS hl => ?_) (kq hl g) (fun E h2 hp => by cases hp.1) (a := ((vR r o :: As).map (ren P) |>.map (tr σ (cκ γ))).toArray)
  have hp := PreC_of O hn F (vR r o :: As) hR hS
  obtain ⟨R1, -⟩ := hR.part hn F
  have hvv := rcv_at O.2.2.2.2.1 (R1.1 r o _ hg) hrc
  have hat := (O.2.2.2.2.1.1 ci _ hcl).2
  obtain ⟨k1, k2, ⟨k3, k4, k5⟩, k6⟩ := K
  refine vx_runSU (own := own) (C := C) (index := ix) (y := mY M) (bytes := mB M) (maxL := mL M) (ret := mZ M) (ws := mW M :: GT) (rm := rmD d2 mc2 ms2) (n := na) (nL := (cC γ).maxLocals) (cc := cc) (Ts := GT) (b := σ (rn P r) o) (As := (As.map (ren P)).map (tr σ (cκ γ)))
    hat ⟨O.1, O.2.1, rfl, O.2.2.1, O.2.2.2.1⟩ (S γ.2.1 (cD γ) _ _ (cκ γ) H.size O.2.2.2.2.2.2.2.1) ⟨⟨rfl, rfl, hf.1, ?_, pay_in O.2.2.2.1 (GT_in k2), List.mem_cons_self⟩, O.2.2.2.1 _ w, O.2.2.2.1 _ hs, O.2.2.2.1 _ hsu, O.2.2.2.1 _ hi, O.2.2.2.1 _ k1, O.2.2.2.1 _ k2, hno, fun sig h => ?_⟩ ⟨PreC_blind, hvv, hp⟩
    rfl (by rw [List.length_map, List.length_map]; exact hna) hl.1 ?_ ?_ d ⟨hf.2.2.1, hf.2.2.2⟩
  · have := hf.2.1
    show 8 + (mL M + 11) + 48 * d2 ≤ _
    omega
  · rw [h] at k5
    exact (Option.some.inj k5).symm
  · show ((As.map (ren P)).reverse ++ vR (rn P r) o :: rest).map (tr σ (cκ γ)) = _
    rw [List.map_append, List.map_reverse]
    rfl
  · exact lv_room (Nat.le_trans (wsum_eq rest) hrw)
/-- a constant object as receiver -/
theorem At.qK (P : List Nat) (As rest : List AV) (O : OK γ own cc) {x : AV} {q : Nat} (hx : ∀ σ : Nat → Nat → Nat, tr σ (cκ γ) x = .ref q) (hO : va_O (mY M).cls q (cF γ) (cS γ) (cS γ).heap) (S : Sp d2 mc2 ms2 M (x :: As) hC (PoQ v hC2)) (K : KV M na) (w : Cond.methodLink own ix (mY M) ∈ GT) (F : Fits P P hC h) (hf : Fit γ k n d2 mc2 ms2) (d : decode cc pc = .ok (.invokevirtual ix, 3))
    (g : At γ σ (k + mc2) (n + ms2) (pc + 3) ls ((v.toList.map (ren P)) ++ rest) (plug P P hC2 h)) (hn : va_nd P = true := by rfl) (hna : As.length = na := by rfl) (hrw : wsum rest ≤ 8 := by exact Nat.le_of_ble_eq_true rfl) (hst : st = (As.map (ren P)).reverse ++ x :: rest := by rfl) (hl : hC2.length = hC.length := by rfl) : At γ σ k n pc ls st h := by
  subst hst
  refine At.run O hn F (fun η H locs lsA hR hS hl => ?_) (kq hl g) (fun E h2 hp => by cases hp.1) (a := ((x :: As).map (ren P) |>.map (tr σ (cκ γ))).toArray)
  have hp := PreC_of O hn F (x :: As) hR hS
  obtain ⟨cell, f1, f2, f3, -⟩ := hO.kept hS.2.1
  have hx2 : tr σ (cκ γ) (ren P x) = .ref q := by rw [tr_ren]; exact hx _
  have e0 : ((x :: As).map (ren P) |>.map (tr σ (cκ γ))).toArray = (Value.ref q :: (As.map (ren P)).map (tr σ (cκ γ))).toArray := by
    rw [List.map_cons, List.map_cons, hx2]
  rw [e0] at hp ⊢
  refine vx_runV (own := own) (C := (mY M).cls) (index := ix) (y := mY M) (bytes := mB M) (maxL := mL M) (ret := mZ M) (ws := mW M :: GT) (rm := rmD d2 mc2 ms2) (n := na) (nL := (cC γ).maxLocals) (cc := cc) (Ts := GT) (b := q) (As := (As.map (ren P)).map (tr σ (cκ γ)))
    ⟨O.1, O.2.1, rfl, O.2.2.1, O.2.2.2.1⟩ (S γ.2.1 (cD γ) _ _ (cκ γ) H.size O.2.2.2.2.2.2.2.1) ⟨callB_M O K.1 hf w, O.2.2.2.1 _ K.2.1, O.2.2.2.1 _ K.2.2⟩ ⟨PreC_blind, ⟨cell, f1, f2, f3⟩, hp⟩
    rfl (by rw [List.length_map, List.length_map]; exact hna) hl.1 ?_ ?_ d ⟨hf.2.2.1, hf.2.2.2⟩
  · show ((As.map (ren P)).reverse ++ x :: rest).map (tr σ (cκ γ)) = _
    rw [List.map_append, List.map_reverse, List.map_cons, hx σ]
  · exact lv_room (Nat.le_trans (wsum_eq rest) hrw)
/-- a static method -/
theorem At.qS (P : List Nat) (As rest : List AV) (O : OK γ own cc) (S : Sp d2 mc2 ms2 M As hC (PoQ v hC2)) (K : KS M na) (w : Cond.methodLink own ix (mY M) ∈ GT) (F : Fits P P hC h) (hf : Fit γ k n d2 mc2 ms2) (d : decode cc pc = .ok (.invokestatic ix, 3))
    (g : At γ σ (k + mc2) (n + ms2) (pc + 3) ls ((v.toList.map (ren P)) ++ rest) (plug P P hC2 h)) (hn : va_nd P = true := by rfl) (hna : As.length = na := by rfl) (hrw : wsum rest ≤ 8 := by exact Nat.le_of_ble_eq_true rfl) (hst : st = (As.map (ren P)).reverse ++ rest := by rfl) (hl : hC2.length = hC.length := by rfl) : At γ σ k n pc ls st h :=
  At.callS O S K w hn F hna hf hrw d hst (kq hl g) (fun E h2 hp => by cases hp.1)
/-- a static method that makes cells -/
theorem At.qSG (P : List Nat) (m : Nat) (As rest : List AV) (O : OK γ own cc) (S : Sp d2 mc2 ms2 M As hC (PoQ v hC2)) (K : KS M na) (w : Cond.methodLink own ix (mY M) ∈ GT) (F : Fits P P hC h) (hb : bdH h.length h = true) (hbC : bdH hC.length hC = true) (hbl : ls.all (fun q => bdV h.length q.2) = true) (hbr : rest.all (bdV h.length) = true) (hf : Fit γ k n d2 mc2 ms2) (d : decode cc pc = .ok (.invokestatic ix, 3))
    (hl : hC2.length = hC.length + m) (hb2 : bdH hC2.length hC2 = true) (hbv : v.toList.all (bdV hC2.length) = true)
    (g : ∀ σ2, grown σ σ2 h.length → At γ σ2 (k + mc2) (n + ms2) (pc + 3) ls ((v.toList.map (ren (P ++ newR h.length m))) ++ rest) (plug (P ++ newR h.length m) (P ++ newR h.length m) hC2 (h ++ List.replicate m []))) (hn : va_nd P = true := by rfl) (hna : As.length = na := by rfl) (hrw : wsum rest ≤ 8 := by exact Nat.le_of_ble_eq_true rfl) (hst : st = (As.map (ren P)).reverse ++ rest := by rfl) : At γ σ k n pc ls st h := by
  subst hst
  refine At.runG (Po2 := PoQ v hC2) (mc2 := mc2) (ms2 := ms2) O m hn F hb hbC hbl hbr (fun η H locs lsA hR hS hl => ?_) (fun v2 h2 hp => ?_) (fun E h2 hp => by cases hp.1) (a := (As.map (ren P) |>.map (tr σ (cκ γ))).toArray)
  · have hp := PreC_of O hn F As hR hS
    refine vx_runS (own := own) (index := ix) (y := mY M) (bytes := mB M) (maxL := mL M) (ret := mZ M) (ws := mW M :: GT) (rm := rmD d2 mc2 ms2) (n := na) (nL := (cC γ).maxLocals) (cc := cc) (Ts := GT) (As := (As.map (ren P)).map (tr σ (cκ γ)))
      ⟨O.1, O.2.1, rfl, O.2.2.1, O.2.2.2.1⟩ (S γ.2.1 (cD γ) _ _ (cκ γ) H.size O.2.2.2.2.2.2.2.1) ⟨callB_M O K.1 hf w, O.2.2.2.1 _ K.2⟩ ⟨PreC_blind, hp⟩
      rfl (by rw [List.length_map, List.length_map]; exact hna) hl.1 ?_ ?_ d ⟨hf.2.2.1, hf.2.2.2⟩
    · show ((As.map (ren P)).reverse ++ rest).map (tr σ (cκ γ)) = _
      rw [List.map_append, List.map_reverse]
    · exact lv_room (Nat.le_trans (wsum_eq rest) hrw)
  · obtain ⟨hv, rfl⟩ := hp
    cases hv
    exact ⟨hl, hb2, hbv, g⟩
theorem sel_priv {C : String} {y y2 : MethodName} {args : Array Value} {s : State} (hC : (Cond.selects C y2 y2).before args s = true) (he : y2.cls = y.cls) (hy : y.cls ≠ "java/lang/invoke/MethodHandle" ∧ y.cls ≠ "java/lang/invoke/VarHandle") (hp : (Cond.privateMethod y).before args s = true) (hi : (Cond.instanceMethod y).before args s = true) : (Cond.selects C y y).before args s = true := by
  obtain ⟨c, r2, m2, q1, q2, q3, q4, kP, hkP, hkPi⟩ := Cond.selects_spec hC
  obtain ⟨mk, methM, hnamed, hmethM, -, -⟩ := Cond.instanceMethod_spec hi
  have hfound : s.methodFound? y.cls y.name y.desc = some mk := State.methodFound?_of_named hnamed hy
  have hcls : mk.cls = m2.cls := Option.some.inj ((findClass_of_methodNamed hnamed).symm.trans (he ▸ findClass_of_methodNamed q3))
  have hsel : selectMethod {} s.vm c mk = .method mk := selectMethod_private hmethM (Cond.privateMethod_at hp mk methM hnamed hmethM)
  simp only [Cond.before, Cond.holds, Cond.value, q1, hfound, hnamed, hsel, hcls, hkP]
  simp; exact hkPi
theorem At.ldcI (O : OK γ own cc) {x : Int32} (hco : Cond.constant own ix x ∈ GT) (d : decode cc pc = .ok (.ldc ix, 2)) (g : At γ σ k n (pc + 2) ls (vI x :: st) h) : At γ σ k n pc ls st h := fun η H locs lsA a b c => lv_ldc O.1 O.2.1 O.2.2.1 (O.2.2.2.1 _ hco) d (g η H locs lsA a b c)
end AQ
