/-! ===== methods with handlers: their contracts, their bodies, their calls ===== -/
abbrev HH : Type := List (Nat × Nat × Nat × Nat)
abbrev mH (M : MR) (hh : HH) : Jvm.Cond := Cond.codeWith (mY M) (mB M) (mL M) (mZ M) hh
def SpH (hh : HH) (d mc ms : Nat) (M : MR) (args : List AV) (h : AHp) (Po : Out → AHp → Prop) : Prop :=
  ∀ (l : Launch) (D : va_G) (σ η : Nat → Nat → Nat) (κ : Nat → Nat) (sz : Nat), l.stackTraces = false → vx_Met l (mY M) (mH M hh :: GT) (rmD d mc ms) (PreC D σ η κ args h sz) (PostR D σ η κ h sz Po) (PostX D σ η κ h sz Po) mc ms (AA σ η h sz)
/-- where the body of a method with handlers ends -/
def FinH (γ : CX) (σ : Nat → Nat → Nat) (N0 mc ms : Nat) (ret : Option FieldType) (Po : Out → AHp → Prop) : Prop :=
  (cY γ).sig.returnType = ret ∧ ∃ (η : Nat → Nat → Nat) (h : AHp) (sz : Nat), h.length = N0 ∧ cF γ = AA σ η h sz ∧ cQ γ = vx_MQ γ.2.2.2.2.2.2.2.1 (PostR (cD γ) σ η (cκ γ) h sz Po) (PostX (cD γ) σ η (cκ γ) h sz Po) (cA γ) (cS γ) mc ms (AA σ η h sz)
def BdH (hh : HH) (γ : CX) (σ : Nat → Nat → Nat) (M : MR) (d mc ms N0 : Nat) (Po : Out → AHp → Prop) : Prop :=
  OK γ (cn (mO M)) (mB M) ∧ FinH γ σ N0 mc ms (mZ M) Po ∧ (cC γ).exceptionTable.toList = tableOf hh ∧ (cC γ).maxLocals = mL M ∧ cR γ = rmD d mc ms
theorem SpH.of {M : MR} {hh : HH} {d mc ms : Nat} {args : List AV} {h : AHp} {Po : Out → AHp → Prop} (hpl : plainName (mY M).cls = true) (hcls : (mY M).cls = cn (mO M)) (h2 : args.all (fun v => !(is2 v)) = true) (hlen : args.length ≤ mL M)
    (body : ∀ (γ : CX) (σ : Nat → Nat → Nat), BdH hh γ σ M d mc ms h.length Po → At γ σ 0 0 0 (avargs 0 args) [] h) : SpH hh d mc ms M args h Po := by
  have h2 : ∀ v ∈ args, is2 v = false := fun v hv => by simpa using List.all_eq_true.mp h2 v hv
  intro l D σ η κ sz hl
  refine vx_ofWH (cc := mB M) (maxL := mL M) (ret := mZ M) (hh := hh) hpl rfl ?_
  intro p e s m a below meth c s₁ B hml hv
  obtain ⟨rfl, hsz, hR, hK, hSt⟩ := hv
  have hts := atoms_spec (ws := mH M hh :: GT) B.pre
  have htab := vx_table (x := mY M) B (hts _ List.mem_cons_self)
  have hown : s.vm.findClass (cn (mO M)) = some m.cls := by rw [← hcls]; exact findClass_of_methodNamed B.named
  subst hsz
  have G := body (p, l, e, (headSpec (mH M hh :: GT) (rmD d mc ms)).room, s, m, (args.map (tr σ κ)).toArray, below, meth, c, vx_MQ below (PostR D σ η κ h s.heap.size Po) (PostX D σ η κ h s.heap.size Po) (args.map (tr σ κ)).toArray s mc ms (AA σ η h s.heap.size), D, κ, AA σ η h s.heap.size) σ
    ⟨⟨B.exec, B.bytes, hown, fun w hw => hts w (List.mem_cons_of_mem _ hw), hK, hSt, fun q hq => Or.inr hq, hl, B.notSynchronized⟩, ⟨B.returns, η, h, s.heap.size, rfl, rfl, rfl⟩, htab, hml, rfl⟩
  rw [lg_entry_eq]
  have hll := lv_entry (args.map (tr σ κ)) (n := mL M) (by rw [lgsl_len args h2]; exact hlen)
  rw [avargs_eq args 0 h2] at hll
  rw [← hml] at hll ⊢
  exact G η s.heap [] _ hR va_S.rf hll
section AHD
variable {hh : HH} {γ : CX} {own : String} {cc : ByteArray} {σ : Nat → Nat → Nat} {k n pc N0 mc ms d : Nat} {ls : List (Nat × AV)} {st rest : List AV} {h hC : AHp} {M : MR} {ret : Option FieldType} {Po : Out → AHp → Prop}
theorem At.iretH (O : OK γ own cc) (F : FinH γ σ N0 mc ms ret Po) {x : Int32} {ty : FieldType} (d : decode cc pc = .ok (.ireturn, 1)) (hr : ret = some ty) (hn : narrow ty (.int x) = .int x) (hk : k ≤ mc) (hs : n ≤ ms) (hp : Po (.inl (some (vI x))) h) : At γ σ k n pc ls [vI x] h := fun η H locs lsA a b c => by
  obtain ⟨f1, η0, h0, sz, f3, f4, f5⟩ := F
  unfold cW
  rw [f5]
  refine W.widen hk hs (vx_ret ?_)
  exact W.zret (v := x) O.1 O.2.1 (f1.trans hr) hn (Fin.post O (v := some (vI x)) f4 f3 hp (Or.inl rfl) a b) (fun q hq => by rw [← f4]; exact b.2.2 q hq) d O.2.2.2.2.2.2.2.2
/-- from a place of the code on -/
theorem BdH.run (B : BdH hh γ σ M d mc ms N0 Po) {code : List IE} (hc : okL false (mO M) (mB M) code = true) (ct : List (Nat × List Nat)) (f : Nat)
    (hw : wp γ σ k n (RF k n mc ms Po) (some .int) (mL M) ct code f (seek code pc) ls st h) (hz : mZ M = some .int := by rfl) : At γ σ k n pc ls st h := by
  obtain ⟨O, F, ht, hml, hR⟩ := B
  obtain ⟨q1, q2⟩ := seek_ok (t := pc) hc
  have hRK : RK γ σ k n (mB M) (some .int) (RF k n mc ms Po) :=
    ⟨fun pc ls h x ty d hr hn hp => At.iretH O F d (hz.trans hr) hn hp.2.1 hp.2.2 hp.1, fun pc ls h x d hr hp => (by cases hr), fun pc ls h v ty d hr ht hv hp => (by
      cases hr
      rcases ht with ⟨_, h9⟩ | ⟨_, h9⟩ <;> cases h9), fun pc ls h d hr hp => (by cases hr)⟩
  cases hs : seek code pc with
  | nil =>
    rw [hs] at hw
    cases f <;> exact False.elim hw
  | cons e l =>
    rw [hs] at hw q1
    have := wp_ok O (fun h => by cases h) hRK hml hc f e l ls st h q1 hw
    rw [q2 e l hs] at this
    exact this
/-- a handler takes it -/
theorem AtX.catch {E name : String} (O : OK γ own cc) (pre : List ExceptionTableEntry) (x : ExceptionTableEntry) (suf : List ExceptionTableEntry) (hsplit : (cC γ).exceptionTable.toList = pre ++ x :: suf)
    (hpass : ∀ z ∈ pre, z.catchType ≠ 0 ∧ ∃ nm, Cond.classLink own z.catchType nm ∈ FT ∧ (E, nm) ∈ ncL) (hx : covers x pc = true) (h0 : x.catchType ≠ 0) (hlink : Cond.classLink own x.catchType name ∈ FT) (hcast : Cond.castable E name ∈ FT)
    (g : ∀ q, At γ σ k n x.handlerPc ls [.inl (.ref q)] h) : AtX γ σ k n E pc ls rest h := fun η H locs lsA q ce hR hS hl hce hcv hcl =>
  vx_catch O.2.2.1 pre x suf hsplit (fun z hz => by
    obtain ⟨z1, nm, z2, z3⟩ := hpass z hz
    exact Or.inr ⟨z1, nm, FT_hts O z2, O.2.2.2.2.2.1.2.2.2.2.2.2.2.2.2.1 _ z3⟩) hx h0 (FT_hts O hlink) (FT_hts O hcast) hce hcv hcl (g q η H locs lsA hR hS hl)
/-- what is known of a static method with handlers that is called -/
def KSH (M : MR) (hh : HH) (na : Nat) : Prop := Cond.initialized (mY M).cls ∈ GT ∧ mH M hh ∈ GT ∧ ((mY M).cls ≠ "java/lang/invoke/MethodHandle" ∧ (mY M).cls ≠ "java/lang/invoke/VarHandle" ∧ (parseMethodDescriptor (mY M).desc).map (fun d => d.parameters.length) = some na) ∧ mL M ≤ 29 ∧ Cond.static (mY M) ∈ GT
theorem GT_good {w : Cond} (h : w ∈ GT) : w ∈ GT ∧ ((w.onTables && w.keeps) = true ∨ ∃ ty, w = .arrayClass ty) := ⟨h, good_of_word (List.mem_filter.mp h).2⟩
variable {P : List Nat} {mc2 ms2 d2 ix na : Nat} {Po2 : Out → AHp → Prop}
theorem At.callSH (O : OK γ own cc) {As : List AV} (S : SpH hh d2 mc2 ms2 M As hC Po2) (K : KSH M hh na) (w : Cond.methodLink own ix (mY M) ∈ GT) (hn : va_nd P = true) (F : Fits P P hC h) (hna : As.length = na)
    (hf : Fit γ k n d2 mc2 ms2) (hrw : wsum rest ≤ 8) (d : decode cc pc = .ok (.invokestatic ix, 3)) (hst : st = (As.map (ren P)).reverse ++ rest)
    (kr : ∀ (v : Option AV) (h2 : AHp), Po2 (.inl v) h2 → h2.length = hC.length ∧ At γ σ (k + mc2) (n + ms2) (pc + 3) ls ((v.toList.map (ren P)) ++ rest) (plug P P h2 h))
    (kx : ∀ (E : String) (h2 : AHp), Po2 (.inr E) h2 → h2.length = hC.length ∧ AtX γ σ (k + mc2) (n + ms2) E pc ls rest (plug P P h2 h)) : At γ σ k n pc ls st h := by
  subst hst
  refine At.run O hn F (fun η H locs lsA hR hS hl => ?_) kr kx (a := (As.map (ren P) |>.map (tr σ (cκ γ))).toArray)
  have hp := PreC_of O hn F As hR hS
  obtain ⟨k1, k2, k3, k4, k5⟩ := K
  have hcw : vx_CSW (cR γ) (cS γ) (cA γ) own ix (mY M) (mB M) (mL M) (mZ M) hh (mH M hh :: GT) (rmD d2 mc2 ms2) mc2 ms2 na := by
    refine vx_cwSW (Ts := GT) na O.2.2.2.1 (fun w9 h9 => ?_) rfl rfl rfl k3 ⟨hf.1, by have := hf.2.1; show 8 + (mL M + 11) + 48 * d2 ≤ _; omega⟩
    unfold va_wsS at h9
    rcases List.mem_append.mp h9 with h9 | h9
    · simp only [List.mem_cons, List.not_mem_nil, or_false] at h9
      rcases h9 with rfl | rfl | rfl
      · exact GT_good w
      · exact GT_good k5
      · exact GT_good k1
    · rcases List.mem_cons.mp h9 with rfl | h9
      · exact GT_good k2
      · exact GT_good h9
  refine vx_runSX (own := own) (index := ix) (y := mY M) (bytes := mB M) (maxL := mL M) (ret := mZ M) (hh := hh) (ws := mH M hh :: GT) (rm := rmD d2 mc2 ms2) (n := na) (nL := (cC γ).maxLocals) (cc := cc) (Ts := GT) (As := (As.map (ren P)).map (tr σ (cκ γ)))
    ⟨O.1, O.2.1, rfl, O.2.2.1, O.2.2.2.1⟩ (S γ.2.1 (cD γ) _ _ (cκ γ) H.size O.2.2.2.2.2.2.2.1) hcw ⟨PreC_blind, hp⟩
    rfl (by rw [List.length_map, List.length_map]; exact hna) hl.1 ?_ ?_ d ⟨hf.2.2.1, hf.2.2.2⟩
  · show ((As.map (ren P)).reverse ++ rest).map (tr σ (cκ γ)) = _
    rw [List.map_append, List.map_reverse]
  · exact lv_room (Nat.le_trans (wsum_eq rest) hrw)
/-- more room -/
theorem At.wid {k2 n2 : Nat} (hk : k ≤ k2) (hn : n ≤ n2) (g : At γ σ k2 n2 pc ls st h) : At γ σ k n pc ls st h := fun η H locs lsA a b c => W.widen hk hn (g η H locs lsA a b c)
end AHD
/-! ===== the class's heap as the beginning of another ===== -/
def idU (P : List Nat) (N : Nat) : Prop := ∀ r, r < N → rn P r = r
theorem ren_idP {P : List Nat} {N : Nat} (hP : idU P N) {v : AV} (h : bdV N v = true) : ren P v = v := by
  rcases v with v | ⟨r, o⟩ | k
  · rfl
  · show Sum.inr (Sum.inl (rn P r, o)) = _
    rw [hP r (Nat.le_of_ble_eq_true h)]
  · rfl
theorem ren_idPL {P : List Nat} {N : Nat} (hP : idU P N) {l : List AV} (h : l.all (bdV N) = true) : l.map (ren P) = l := by
  have : ∀ v ∈ l, ren P v = id v := fun v hv => ren_idP hP (List.all_eq_true.mp h v hv)
  rw [List.map_congr_left this, List.map_id]
theorem renC_idP {P : List Nat} {N : Nat} (hP : idU P N) {c : ACell} (h : bdC N c = true) : renC P c = c := by
  rcases c with ⟨ty, n, x⟩ | ⟨ci, fs⟩ | ⟨n, m, t⟩
  · rcases x with f | f | f | f
    · rfl
    · rfl
    · rfl
    · show Sum.inl (ty, n, Sum.inr (Sum.inr (Sum.inr (f.map (ren P))))) = _
      rw [ren_idPL hP h]
  · show Sum.inr (Sum.inl (ci, fs.map (ren P))) = _
    rw [ren_idPL hP h]
  · rfl
theorem renH_idP {P : List Nat} {N : Nat} (hP : idU P N) {h : AHp} (hb : bdH N h = true) : h.map (fun g => g.map (renC P)) = h := by
  have : ∀ g ∈ h, (fun g : List ACell => g.map (renC P)) g = id g := fun g hg => by
    have h9 := List.all_eq_true.mp hb g hg
    have : ∀ c ∈ g, renC P c = id c := fun c hc => renC_idP hP (List.all_eq_true.mp h9 c hc)
    show g.map (renC P) = g
    rw [List.map_congr_left this, List.map_id]
  rw [List.map_congr_left this, List.map_id]
theorem Fits_pre {P : List Nat} {N : Nat} (hP : idU P N) {h : AHp} (hb : bdH N h = true) (hl : h.length = N) (post : AHp) : Fits P (List.range' 0 N) h (h ++ post) := by
  have z := Fits_blk P h [] post
  rw [renH_idP hP hb] at z
  rw [← hl]
  exact z
theorem plug_pre {P : List Nat} {N : Nat} (hP : idU P N) {h h2 : AHp} (hb : bdH N h2 = true) (hl : h.length = N) (hl2 : h2.length = N) (post : AHp) : plug P (List.range' 0 N) h2 (h ++ post) = h2 ++ post := by
  have z := plug_blk P h2 h [] post (hl.trans hl2.symm)
  rw [renH_idP hP hb] at z
  rw [← hl2]
  exact z
