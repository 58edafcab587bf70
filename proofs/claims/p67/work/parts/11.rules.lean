/-! ===== CALLS ===== -/
def AtX (γ : CX) (σ : Nat → Nat → Nat) (k n : Nat) (E : String) (pc : Nat) (ls : List (Nat × AV)) (st : List AV) (h : AHp) : Prop :=
  ∀ (η : Nat → Nat → Nat) (H : Heap) (locs : List Loc) (lsA : Array Slot) (q : Addr) (ce : Cell), Rep (cD γ) σ η (cκ γ) h (cS γ) H (cF γ) → va_S (cF γ) (cS γ).heap H locs → lv_has lsA (cC γ).maxLocals (trL σ (cκ γ) ls) → H[q]? = some ce → ce.vm = .none → (cS γ).vm.findClass E = some ce.cls →
    vx_W γ.1 γ.2.1 γ.2.2.1 (cR γ) (cS γ) (cM γ) (cA γ) γ.2.2.2.2.2.2.2.1 (cY γ) (cC γ) H locs k n (cQ γ) (F0 (cM γ) pc lsA (st.map (tr σ (cκ γ)))) q
abbrev cRun (γ : CX) (H : Heap) (locs : List Loc) (k n mc ms : Nat) (g : JFrame) (rest : List Value) (Qa : State → Outcome → State → Prop) (XC : String → State → State → Prop) (free : Addr → Prop) : Prop :=
  vx_Run γ.1 γ.2.1 γ.2.2.1 (cR γ) (cS γ) (cM γ) (cA γ) γ.2.2.2.2.2.2.2.1 (cY γ) (cC γ) H locs k n mc ms g rest Qa XC free
def wsum : List AV → Nat
  | [] => 0
  | v :: l => (match is2 v with | true => 2 | false => 1) + wsum l
theorem wsum_eq {σ : Nat → Nat → Nat} {κ : Nat → Nat} : ∀ (l : List AV), ((l.map (tr σ κ)).map fun v => v.category).sum ≤ wsum l
  | [] => Nat.le_refl _
  | v :: l => by
    have := wsum_eq (σ := σ) (κ := κ) l
    simp only [List.map_cons, List.sum_cons, wsum]
    cases e : is2 v with
    | true =>
      have : (tr σ κ v).category ≤ 2 := by
        cases (tr σ κ v) <;> simp [Value.category]
      simp only
      omega
    | false =>
      have h2 := is2_cat (σ := σ) (κ := κ) e
      have : (tr σ κ v).category ≤ 1 := by
        revert h2
        cases (tr σ κ v) <;> simp [Value.category]
      simp only
      omega
section ATC
variable {γ : CX} {own : String} {cc : ByteArray} {σ : Nat → Nat → Nat} {k n pc : Nat} {ls : List (Nat × AV)} {st rest : List AV} {h hC : AHp} {P : List Nat} {mc2 ms2 d2 ix : Nat} {Po2 : Out → AHp → Prop} {a : Array Value}
theorem At.run (O : OK γ own cc) (hn : va_nd P = true) (F : Fits P P hC h)
    (hr : ∀ (η : Nat → Nat → Nat) (H : Heap) (locs : List Loc) (lsA : Array Slot), Rep (cD γ) σ η (cκ γ) h (cS γ) H (cF γ) → va_S (cF γ) (cS γ).heap H locs → lv_has lsA (cC γ).maxLocals (trL σ (cκ γ) ls) →
      cRun γ H locs k n mc2 ms2 (F0 (cM γ) pc lsA (st.map (tr σ (cκ γ)))) (rest.map (tr σ (cκ γ))) (PostR (cD γ) (fun r o => σ (rn P r) o) (fun r o => η (rn P r) o) (cκ γ) hC H.size Po2 a) (PostX (cD γ) (fun r o => σ (rn P r) o) (fun r o => η (rn P r) o) (cκ γ) hC H.size Po2) (AA (fun r o => σ (rn P r) o) (fun r o => η (rn P r) o) hC H.size))
    (kr : ∀ (v : Option AV) (h2 : AHp), Po2 (.inl v) h2 → h2.length = hC.length ∧ At γ σ (k + mc2) (n + ms2) (pc + 3) ls ((v.toList.map (ren P)) ++ rest) (plug P P h2 h))
    (kx : ∀ (E : String) (h2 : AHp), Po2 (.inr E) h2 → h2.length = hC.length ∧ AtX γ σ (k + mc2) (n + ms2) E pc ls rest (plug P P h2 h)) : At γ σ k n pc ls st h := by
  intro η H locs lsA hR hS hl T hT X
  obtain ⟨R1, R1A⟩ := hR.part hn F
  have hsz : (cS γ).heap.size ≤ H.size := hS.1
  have hA0 : ∀ q : Nat, H.size ≤ q → cF γ q := fun q hq => O.2.2.2.2.2.2.1 q (Nat.le_trans hsz hq)
  have hAA : ∀ q, AA (fun r o => σ (rn P r) o) (fun r o => η (rn P r) o) hC H.size q → cF γ q := fun q hq => by
    rcases R1A q hq with h9 | h9
    · exact h9
    · exact hA0 q h9
  rcases hr η H locs lsA hR hS hl T hT X with ⟨v, st₀, t, T', L, h0, X', hL, e1, e2, ⟨v2, σ2, q1, h2, η2, q2, q3, q4, q5, q6⟩, step⟩ | ⟨q, st₀, t, T', L, E, ce, h0, X', hL, e1, e2, ⟨σ2, h2, η2, q2, q3, q4, q5, q6⟩, hce, hcv, hcl, step⟩
  · cases q1
    obtain ⟨hlen, g⟩ := kr v2 h2 q2
    have q4 := q4 hlen
    subst q4
    obtain ⟨k1, k2, k3⟩ := vx_keep (A0 := cF γ) h0 e1 hS (fun q _ hq => hAA q hq) hAA hL q6
    have hvm : (cS γ).vm.Alike t.vm := by rw [← e2]; exact X'.warmed.alike
    have hR2 := hR.after hn F hlen (Rep.moved hvm.symm (by rw [e1]; exact q5)) k2 hA0
    obtain ⟨t2, a1, b1⟩ := g _ T'.heap (locs ++ L) lsA hR2 k3 hl T' rfl (by
      exact X')
    refine ⟨t2, step t2 ?_, b1⟩
    have e9 : (v2.map (tr (fun r o => σ (rn P r) o) (cκ γ))).toList ++ rest.map (tr σ (cκ γ)) = ((v2.toList.map (ren P)) ++ rest).map (tr σ (cκ γ)) := by
      rw [List.map_append, List.map_map]
      congr 1
      cases v2 with
      | none => rfl
      | some v2 => simp [tr_ren]
    rw [e9]
    exact a1
  · obtain ⟨hlen, g⟩ := kx E h2 q2
    have q4 := q4 hlen
    subst q4
    obtain ⟨k1, k2, k3⟩ := vx_keep (A0 := cF γ) h0 e1 hS (fun q _ hq => hAA q hq) hAA hL q6
    have hvm : (cS γ).vm.Alike t.vm := by rw [← e2]; exact X'.warmed.alike
    have hR2 := hR.after hn F hlen (Rep.moved hvm.symm (by rw [e1]; exact q5)) k2 hA0
    obtain ⟨t2, a1, b1⟩ := g _ T'.heap (locs ++ L) lsA q ce hR2 k3 hl (by rw [e1]; exact hce) hcv hcl T' rfl X'
    exact ⟨t2, step.trans a1, b1⟩
theorem PreC_blind {D : va_G} {σ η : Nat → Nat → Nat} {κ : Nat → Nat} {args : List AV} {h : AHp} {sz : Nat} : FrameBlind (PreC D σ η κ args h sz) := fun a U g mk ⟨q1, q2, q3, q4, q5⟩ =>
  ⟨q1, q2, Rep.moved (u := U) (U := U.calling g mk a) (Vm.Alike.refl U.vm) q3, va_K.moved (u := U) (U := U.calling g mk a) (Vm.Alike.refl U.vm) q4, St.same (s := U) (U := U.calling g mk a) rfl q5⟩
theorem PreC_of (O : OK γ own cc) (hn : va_nd P = true) (F : Fits P P hC h) {η : Nat → Nat → Nat} {H : Heap} {locs : List Loc} (args : List AV) (hR : Rep (cD γ) σ η (cκ γ) h (cS γ) H (cF γ)) (hS : va_S (cF γ) (cS γ).heap H locs) :
    ∀ U : State, U.heap = H → (cS γ).WarmedH U.vm → PreC (cD γ) (fun r o => σ (rn P r) o) (fun r o => η (rn P r) o) (cκ γ) args hC H.size ((args.map (ren P)).map (tr σ (cκ γ))).toArray U := by
  intro U hU hW
  obtain ⟨R1, R1A⟩ := hR.part hn F
  refine ⟨?_, by rw [hU], by rw [hU]; exact Rep.moved hW.alike R1, va_K.moved hW.alike O.2.2.2.2.1, ?_⟩
  · rw [List.map_map]
    congr 1
    exact List.map_congr_left fun v _ => tr_ren P v
  · rw [hU]
    refine St.narrow (St.warm hW (St.kept O.2.2.2.2.2.1 hS.2.1)) fun q hq => ?_
    rcases R1A q hq with h9 | h9
    · exact h9
    · exact O.2.2.2.2.2.2.1 q (Nat.le_trans hS.1 h9)
def Fit (γ : CX) (k n d2 mc2 ms2 : Nat) : Prop := d2 + 1 ≤ (cR γ).frames ∧ 48 * d2 + 48 ≤ (cR γ).locals ∧ k + mc2 ≤ (cR γ).cells ∧ n + ms2 ≤ (cR γ).slots
theorem Fit.of {d mc ms : Nat} (e : cR γ = rmD d mc ms) (h1 : d2 < d) (h2 : k + mc2 ≤ mc) (h3 : n + ms2 ≤ ms) : Fit γ k n d2 mc2 ms2 := by
  unfold Fit
  rw [e]
  refine ⟨h1, ?_, h2, h3⟩
  show 48 * d2 + 48 ≤ 48 * d
  omega
/-- what is known of a method that is called: by its receiver, na arguments behind it -/
def KN (M : MR) (na : Nat) : Prop := Cond.initialized (mY M).cls ∈ GT ∧ mW M ∈ GT ∧ ((mY M).cls ≠ "java/lang/invoke/MethodHandle" ∧ (mY M).cls ≠ "java/lang/invoke/VarHandle" ∧ (parseMethodDescriptor (mY M).desc).map (fun d => d.parameters.length) = some na) ∧ mL M ≤ 29
def KV (M : MR) (na : Nat) : Prop := KN M na ∧ Cond.instanceMethod (mY M) ∈ GT ∧ Cond.selects (mY M).cls (mY M) (mY M) ∈ GT
def KS (M : MR) (na : Nat) : Prop := KN M na ∧ Cond.static (mY M) ∈ GT
def KI (M : MR) (na : Nat) : Prop := KN M na ∧ Cond.instanceMethod (mY M) ∈ GT ∧ (mY M).name = "<init>" ∧ mZ M = none
variable {M : MR} {na : Nat}
theorem callB_M (O : OK γ own cc) (K : KN M na) (hf : Fit γ k n d2 mc2 ms2) (w : Cond.methodLink own ix (mY M) ∈ GT) : CallB (cR γ) (cS γ) (cA γ) own ix (mY M) (mB M) (mL M) (mZ M) (mW M :: GT) (rmD d2 mc2 ms2) mc2 ms2 na := by
  obtain ⟨k1, k2, k3, k4⟩ := K
  refine callB_of (Ts := GT) na O.2.2.2.1 (GT_in k2) rfl rfl rfl (O.2.2.2.1 _ k1) (O.2.2.2.1 _ w) k3 ⟨hf.1, ?_⟩
  have := hf.2.1
  show 8 + (mL M + 11) + 48 * d2 ≤ _
  omega
theorem At.callV (O : OK γ own cc) {r o ci : Nat} {fs As : List AV} {T : u_T} {N : Nat} (S : Sp d2 mc2 ms2 M (vR r o :: As) hC Po2) (K : KV M na) (w : Cond.methodLink own ix (mY M) ∈ GT) (hn : va_nd P = true) (F : Fits P P hC h) (hg : hget hC r o = some (aO ci fs)) (hc : vwCl[ci]? = some ((mY M).cls, T, N)) (hna : As.length = na)
    (hf : Fit γ k n d2 mc2 ms2) (hrw : wsum rest ≤ 8) (d : decode cc pc = .ok (.invokevirtual ix, 3)) (hst : st = (As.map (ren P)).reverse ++ vR (rn P r) o :: rest)
    (kr : ∀ (v : Option AV) (h2 : AHp), Po2 (.inl v) h2 → h2.length = hC.length ∧ At γ σ (k + mc2) (n + ms2) (pc + 3) ls ((v.toList.map (ren P)) ++ rest) (plug P P h2 h))
    (kx : ∀ (E : String) (h2 : AHp), Po2 (.inr E) h2 → h2.length = hC.length ∧ AtX γ σ (k + mc2) (n + ms2) E pc ls rest (plug P P h2 h)) : At γ σ k n pc ls st h := by
  subst hst
  refine At.run O hn F (fun η H locs lsA hR hS hl => ?_) kr kx (a := ((vR r o :: As).map (ren P) |>.map (tr σ (cκ γ))).toArray)
  have hp := PreC_of O hn F (vR r o :: As) hR hS
  obtain ⟨R1, -⟩ := hR.part hn F
  obtain ⟨q, e1, cell, f1, f2, f3, f4⟩ := R1.1 r o _ hg
  obtain ⟨hSl, hfc, -⟩ := O.2.2.2.2.1.1 ci _ hc
  refine vx_runV (own := own) (C := (mY M).cls) (index := ix) (y := mY M) (bytes := mB M) (maxL := mL M) (ret := mZ M) (ws := mW M :: GT) (rm := rmD d2 mc2 ms2) (n := na) (nL := (cC γ).maxLocals) (cc := cc) (Ts := GT) (b := σ (rn P r) o) (As := (As.map (ren P)).map (tr σ (cκ γ)))
    ⟨O.1, O.2.1, rfl, O.2.2.1, O.2.2.2.1⟩ (S γ.2.1 (cD γ) _ _ (cκ γ) H.size O.2.2.2.2.2.2.2.1) ⟨callB_M O K.1 hf w, O.2.2.2.1 _ K.2.1, O.2.2.2.1 _ K.2.2⟩ ⟨PreC_blind, ⟨cell, f1, by rw [f3]; rfl, by rw [f2]; exact hfc⟩, hp⟩
    rfl (by rw [List.length_map, List.length_map]; exact hna) hl.1 ?_ ?_ d ⟨hf.2.2.1, hf.2.2.2⟩
  · show ((As.map (ren P)).reverse ++ vR (rn P r) o :: rest).map (tr σ (cκ γ)) = _
    rw [List.map_append, List.map_reverse]
    rfl
  · exact lv_room (Nat.le_trans (wsum_eq rest) hrw)
theorem At.callS (O : OK γ own cc) {As : List AV} (S : Sp d2 mc2 ms2 M As hC Po2) (K : KS M na) (w : Cond.methodLink own ix (mY M) ∈ GT) (hn : va_nd P = true) (F : Fits P P hC h) (hna : As.length = na)
    (hf : Fit γ k n d2 mc2 ms2) (hrw : wsum rest ≤ 8) (d : decode cc pc = .ok (.invokestatic ix, 3)) (hst : st = (As.map (ren P)).reverse ++ rest)
    (kr : ∀ (v : Option AV) (h2 : AHp), Po2 (.inl v) h2 → h2.length = hC.length ∧ At γ σ (k + mc2) (n + ms2) (pc + 3) ls ((v.toList.map (ren P)) ++ rest) (plug P P h2 h))
    (kx : ∀ (E : String) (h2 : AHp), Po2 (.inr E) h2 → h2.length = hC.length ∧ AtX γ σ (k + mc2) (n + ms2) E pc ls rest (plug P P h2 h)) : At γ σ k n pc ls st h := by
  subst hst
  refine At.run O hn F (fun η H locs lsA hR hS hl => ?_) kr kx (a := (As.map (ren P) |>.map (tr σ (cκ γ))).toArray)
  have hp := PreC_of O hn F As hR hS
  refine vx_runS (own := own) (index := ix) (y := mY M) (bytes := mB M) (maxL := mL M) (ret := mZ M) (ws := mW M :: GT) (rm := rmD d2 mc2 ms2) (n := na) (nL := (cC γ).maxLocals) (cc := cc) (Ts := GT) (As := (As.map (ren P)).map (tr σ (cκ γ)))
    ⟨O.1, O.2.1, rfl, O.2.2.1, O.2.2.2.1⟩ (S γ.2.1 (cD γ) _ _ (cκ γ) H.size O.2.2.2.2.2.2.2.1) ⟨callB_M O K.1 hf w, O.2.2.2.1 _ K.2⟩ ⟨PreC_blind, hp⟩
    rfl (by rw [List.length_map, List.length_map]; exact hna) hl.1 ?_ ?_ d ⟨hf.2.2.1, hf.2.2.2⟩
  · show ((As.map (ren P)).reverse ++ rest).map (tr σ (cκ γ)) = _
    rw [List.map_append, List.map_reverse]
  · exact lv_room (Nat.le_trans (wsum_eq rest) hrw)
theorem At.callSN (O : OK γ own cc) {As : List AV} (S : Sp d2 mc2 ms2 M As hC Po2) (K : KS M na) (w : (own, ix, mY M) ∈ NWm) (hn : va_nd P = true) (F : Fits P P hC h) (hna : As.length = na)
    (hf : Fit γ k n d2 mc2 ms2) (hrw : wsum rest ≤ 8) (d : decode cc pc = .ok (.invokestatic ix, 3)) (hst : st = (As.map (ren P)).reverse ++ rest)
    (kr : ∀ (v : Option AV) (h2 : AHp), Po2 (.inl v) h2 → h2.length = hC.length ∧ At γ σ (k + mc2) (n + ms2) (pc + 3) ls ((v.toList.map (ren P)) ++ rest) (plug P P h2 h))
    (kx : ∀ (E : String) (h2 : AHp), Po2 (.inr E) h2 → h2.length = hC.length ∧ AtX γ σ (k + mc2) (n + ms2) E pc ls rest (plug P P h2 h)) : At γ σ k n pc ls st h := by
  subst hst
  refine At.run O hn F (fun η H locs lsA hR hS hl => ?_) kr kx (a := (As.map (ren P) |>.map (tr σ (cκ γ))).toArray)
  have hp := PreC_of O hn F As hR hS
  have hN := O.2.2.2.2.2.1.2.1 _ w
  obtain ⟨k1, k2, k3, k4⟩ := K.1
  have hcn : va_CN (cR γ) (cS γ) (cA γ) own ix (mY M) RX10 (mB M) (mL M) (mZ M) (mW M :: GT) (rmD d2 mc2 ms2) mc2 ms2 na := va_cnB (Ts := GT) na O.2.2.2.1 (GT_in k2) rfl rfl rfl hN (O.2.2.2.1 _ k1) k3 ⟨hf.1, by have := hf.2.1; show 8 + (mL M + 11) + 48 * d2 ≤ _; omega⟩
  refine vx_runSN (own := own) (host := RX10) (index := ix) (y := mY M) (bytes := mB M) (maxL := mL M) (ret := mZ M) (ws := mW M :: GT) (rm := rmD d2 mc2 ms2) (n := na) (nL := (cC γ).maxLocals) (cc := cc) (Ts := GT) (As := (As.map (ren P)).map (tr σ (cκ γ)))
    ⟨O.1, O.2.1, rfl, O.2.2.1, O.2.2.2.1⟩ (S γ.2.1 (cD γ) _ _ (cκ γ) H.size O.2.2.2.2.2.2.2.1) ⟨hcn, O.2.2.2.1 _ K.2, trivial⟩ ⟨PreC_blind, hp⟩
    rfl (by rw [List.length_map, List.length_map]; exact hna) hl.1 ?_ ?_ d ⟨hf.2.2.1, hf.2.2.2⟩
  · show ((As.map (ren P)).reverse ++ rest).map (tr σ (cκ γ)) = _
    rw [List.map_append, List.map_reverse]
  · exact lv_room (Nat.le_trans (wsum_eq rest) hrw)
/-- an exception that isn't caught here -/
theorem AtX.out {σ0 : Nat → Nat → Nat} {N0 mc ms : Nat} {ret : Option FieldType} {Po : Out → AHp → Prop} {E : String} (O : OK γ own cc) (Fi : Fin γ σ0 N0 mc ms ret Po) (hk : k ≤ mc) (hs : n ≤ ms) (hσ : σ = σ0 ∨ (N0 < h.length ∧ ∀ r, r < N0 → ∀ o, σ r o = σ0 r o)) (hp : Po (.inr E) h) : AtX γ σ k n E pc ls rest h := by
  intro η H locs lsA q ce hR hS hl hce hcv hcl
  obtain ⟨f1, f2, η0, h0, sz, f3, f4, f5⟩ := Fi
  subst f3
  rw [f5]
  refine vx_out (fun x hx => absurd (f2 x hx) id) O.2.2.2.2.2.2.2.2 hce hcv hcl (fun t ht hal => ⟨σ, h, η, hp, ?_, ?_, ?_, ?_⟩) (fun z hz => by rw [← f4]; exact hS.2.2 z hz) hk hs
  · rcases hσ with rfl | h9
    · exact fun _ _ _ => rfl
    · exact h9.2
  · rcases hσ with rfl | h9
    · exact fun _ => rfl
    · exact fun e => absurd e (by omega)
  · rw [ht, ← f4]; exact Rep.moved hal hR
  · rw [← f4]; exact hS.F ht
end ATC
