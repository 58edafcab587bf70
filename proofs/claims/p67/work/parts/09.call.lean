/-! ===== CONTRACTS over this machine, their entry, their end, the call ===== -/
def rmD (d mc ms : Nat) : Room := { frames := d, cells := mc, slots := ms, locals := 48 * d }
def AA (σ η : Nat → Nat → Nat) (h : AHp) (sz : Nat) : Nat → Prop := fun q => (∃ p, pdom h p ∧ q = pad σ η p) ∨ sz ≤ q
abbrev Out : Type := Option AV ⊕ String
/-- number of its class, name, code, locals, return type -/
abbrev MR : Type := Nat × MethodName × ByteArray × Nat × Option FieldType
abbrev mO (M : MR) : Nat := M.1
abbrev mY (M : MR) : MethodName := M.2.1
abbrev mB (M : MR) : ByteArray := M.2.2.1
abbrev mL (M : MR) : Nat := M.2.2.2.1
abbrev mZ (M : MR) : Option FieldType := M.2.2.2.2
abbrev mW (M : MR) : Jvm.Cond := Cond.code (mY M) (mB M) (mL M) (mZ M)
def PreC (D : va_G) (σ η : Nat → Nat → Nat) (κ : Nat → Nat) (args : List AV) (h : AHp) (sz : Nat) : Array Value → State → Prop := fun a U =>
  a = (args.map (tr σ κ)).toArray ∧ U.heap.size = sz ∧ Rep D σ η κ h U U.heap (AA σ η h sz) ∧ va_K D vwCl [] U ∧ St κ (AA σ η h sz) U U.heap
def PostS (D : va_G) (σ η : Nat → Nat → Nat) (κ : Nat → Nat) (h : AHp) (sz : Nat) (Po : Out → AHp → Prop) (out : Out) (σ2 : Nat → Nat → Nat) (st t : State) : Prop := ∃ (h2 : AHp) (η2 : Nat → Nat → Nat), Po out h2 ∧ (∀ r, r < h.length → ∀ o, σ2 r o = σ r o) ∧ (h2.length = h.length → σ2 = σ) ∧ Rep D σ2 η2 κ h2 t t.heap (AA σ η h sz) ∧ va_F (AA σ η h sz) st t
def PostR (D : va_G) (σ η : Nat → Nat → Nat) (κ : Nat → Nat) (h : AHp) (sz : Nat) (Po : Out → AHp → Prop) : Array Value → State → Outcome → State → Prop := fun _ st o t =>
  ∃ (v : Option AV) (σ2 : Nat → Nat → Nat), o = .returned (v.map (tr σ2 κ)) ∧ PostS D σ η κ h sz Po (.inl v) σ2 st t
def PostX (D : va_G) (σ η : Nat → Nat → Nat) (κ : Nat → Nat) (h : AHp) (sz : Nat) (Po : Out → AHp → Prop) : String → State → State → Prop := fun E st t => ∃ σ2 : Nat → Nat → Nat, PostS D σ η κ h sz Po (.inr E) σ2 st t
/-- method M, called with args in the heap h at depth d, makes at most mc cells of ms slots and ends in one of Po -/
def Sp (d mc ms : Nat) (M : MR) (args : List AV) (h : AHp) (Po : Out → AHp → Prop) : Prop :=
  ∀ (l : Launch) (D : va_G) (σ η : Nat → Nat → Nat) (κ : Nat → Nat) (sz : Nat), l.stackTraces = false → vx_Met l (mY M) (mW M :: GT) (rmD d mc ms) (PreC D σ η κ args h sz) (PostR D σ η κ h sz Po) (PostX D σ η κ h sz Po) mc ms (AA σ η h sz)
theorem Sp.mono {d mc ms : Nat} {M : MR} {args : List AV} {h : AHp} {Po Po2 : Out → AHp → Prop} (S : Sp d mc ms M args h Po) (hp : ∀ o h2, Po o h2 → Po2 o h2) : Sp d mc ms M args h Po2 := by
  intro l D σ η κ sz hl
  have k := S l D σ η κ sz hl
  unfold vx_Met at k ⊢
  intro p e ha hc hk s m args below hf hap hpre htr
  obtain ⟨t, o, h1, h2, h3, h4⟩ := k p e ha hc hk s m args below hf hap hpre htr
  refine ⟨t, o, h1, h2, h3, ?_⟩
  rcases h4 with ⟨⟨v, σ2, q1, hh, η2, q2, q3⟩, q4⟩ | ⟨q, q1, E, ce, L, ⟨σ2, hh, η2, q2, q3⟩, q4⟩
  · exact Or.inl ⟨⟨v, σ2, q1, hh, η2, hp _ _ q2, q3⟩, q4⟩
  · exact Or.inr ⟨q, q1, E, ce, L, ⟨σ2, hh, η2, hp _ _ q2, q3⟩, q4⟩
def avargs : Nat → List AV → List (Nat × AV)
  | _, [] => []
  | i, v :: vs => (i, v) :: avargs (i + 1) vs
theorem is2_cat {v : AV} {σ : Nat → Nat → Nat} {κ : Nat → Nat} (h : is2 v = false) : ¬ (tr σ κ v).category = 2 := by
  have := tr_cat2 (σ := σ) (κ := κ) h
  simpa using this
theorem avargs_eq {σ : Nat → Nat → Nat} {κ : Nat → Nat} : ∀ (vs : List AV) (i : Nat), (∀ v ∈ vs, is2 v = false) → lv_args i (vs.map (tr σ κ)) = trL σ κ (avargs i vs)
  | [], _, _ => rfl
  | v :: vs, i, h => by
    show lv_args i (tr σ κ v :: vs.map (tr σ κ)) = (i, tr σ κ v) :: trL σ κ (avargs (i + 1) vs)
    unfold lv_args
    rw [if_neg (is2_cat (h v List.mem_cons_self)), avargs_eq vs (i + 1) fun w hw => h w (List.mem_cons_of_mem _ hw)]
theorem lgsl_len {σ : Nat → Nat → Nat} {κ : Nat → Nat} : ∀ (vs : List AV), (∀ v ∈ vs, is2 v = false) → (lg_sl (vs.map (tr σ κ))).length = vs.length
  | [], _ => rfl
  | v :: vs, h => by
    show (List.flatMap _ (tr σ κ v :: vs.map (tr σ κ))).length = vs.length + 1
    rw [List.flatMap_cons, List.length_append, if_neg (is2_cat (h v List.mem_cons_self))]
    have := lgsl_len (σ := σ) (κ := κ) vs fun w hw => h w (List.mem_cons_of_mem _ hw)
    unfold lg_sl at this
    rw [this]
    simp [Nat.add_comm]
/-- where the body of a method ends -/
def Fin (γ : CX) (σ : Nat → Nat → Nat) (N0 mc ms : Nat) (ret : Option FieldType) (Po : Out → AHp → Prop) : Prop :=
  (cY γ).sig.returnType = ret ∧ (∀ x ∈ (cC γ).exceptionTable.toList, False) ∧ ∃ (η : Nat → Nat → Nat) (h : AHp) (sz : Nat), h.length = N0 ∧ cF γ = AA σ η h sz ∧ cQ γ = vx_MQ γ.2.2.2.2.2.2.2.1 (PostR (cD γ) σ η (cκ γ) h sz Po) (PostX (cD γ) σ η (cκ γ) h sz Po) (cA γ) (cS γ) mc ms (AA σ η h sz)
theorem Sp.of {M : MR} {d mc ms : Nat} {args : List AV} {h : AHp} {Po : Out → AHp → Prop} (hpl : plainName (mY M).cls = true) (hcls : (mY M).cls = cn (mO M)) (h2 : ∀ v ∈ args, is2 v = false) (hlen : args.length ≤ mL M)
    (body : ∀ (γ : CX) (σ : Nat → Nat → Nat), OK γ (cn (mO M)) (mB M) → Fin γ σ h.length mc ms (mZ M) Po → (cC γ).maxLocals = mL M → cR γ = rmD d mc ms → ((cY γ).name = (mY M).name) → At γ σ 0 0 0 (avargs 0 args) [] h) : Sp d mc ms M args h Po := by
  intro l D σ η κ sz hl
  refine vx_ofW (cc := mB M) (maxL := mL M) (ret := mZ M) hpl rfl ?_
  intro p e s m a below meth c s₁ B hml htab hv
  obtain ⟨rfl, hsz, hR, hK, hSt⟩ := hv
  have hts := atoms_spec (ws := mW M :: GT) B.pre
  have hown : s.vm.findClass (cn (mO M)) = some m.cls := by rw [← hcls]; exact findClass_of_methodNamed B.named
  subst hsz
  have G := body (p, l, e, (headSpec (mW M :: GT) (rmD d mc ms)).room, s, m, (args.map (tr σ κ)).toArray, below, meth, c, vx_MQ below (PostR D σ η κ h s.heap.size Po) (PostX D σ η κ h s.heap.size Po) (args.map (tr σ κ)).toArray s mc ms (AA σ η h s.heap.size), D, κ, AA σ η h s.heap.size) σ
    ⟨B.exec, B.bytes, hown, fun w hw => hts w (List.mem_cons_of_mem _ hw), hK, hSt, fun q hq => Or.inr hq, hl, B.notSynchronized⟩
    ⟨B.returns, htab, η, h, s.heap.size, rfl, rfl, rfl⟩ hml rfl (name_of_methodNamed B.named B.method).1
  rw [lg_entry_eq]
  have hll := lv_entry (args.map (tr σ κ)) (n := mL M) (by rw [lgsl_len args h2]; exact hlen)
  rw [avargs_eq args 0 h2] at hll
  rw [← hml] at hll ⊢
  exact G η s.heap [] _ hR va_S.rf hll
section ATE
variable {γ : CX} {own : String} {cc : ByteArray} {σ σ0 : Nat → Nat → Nat} {k n pc N0 mc ms : Nat} {ls : List (Nat × AV)} {st : List AV} {h : AHp} {ret : Option FieldType} {Po : Out → AHp → Prop}
/-- what a return leaves -/
theorem Fin.post (O : OK γ own cc) {η η0 : Nat → Nat → Nat} {h0 : AHp} {sz : Nat} {H : Heap} {locs : List Loc} {v : Option AV} (hA : cF γ = AA σ0 η0 h0 sz) (hN : h0.length = N0) (hp : Po (.inl v) h) (hσ : σ = σ0 ∨ (N0 < h.length ∧ ∀ r, r < N0 → ∀ o, σ r o = σ0 r o)) (a : Rep (cD γ) σ η (cκ γ) h (cS γ) H (cF γ)) (b : va_S (cF γ) (cS γ).heap H locs) :
    ∀ t : State, t.heap = H → (cS γ).WarmedH t.vm → PostR (cD γ) σ0 η0 (cκ γ) h0 sz Po (cA γ) (cS γ) (.returned (v.map (tr σ (cκ γ)))) t := fun t ht hW => by
  subst hN
  refine ⟨v, σ, rfl, h, η, hp, ?_, ?_, ?_, ?_⟩
  · rcases hσ with rfl | h9
    · exact fun _ _ _ => rfl
    · exact h9.2
  · rcases hσ with rfl | h9
    · exact fun _ => rfl
    · exact fun e => absurd e (by omega)
  · rw [ht, ← hA]; exact Rep.moved hW.alike a
  · rw [← hA]; exact b.F ht
theorem At.iret (O : OK γ own cc) (F : Fin γ σ0 N0 mc ms ret Po) {x : Int32} {ty : FieldType} (d : decode cc pc = .ok (.ireturn, 1)) (hr : ret = some ty) (hn : narrow ty (.int x) = .int x) (hk : k ≤ mc) (hs : n ≤ ms) (hσ : σ = σ0 ∨ (N0 < h.length ∧ ∀ r, r < N0 → ∀ o, σ r o = σ0 r o)) (hp : Po (.inl (some (vI x))) h) : At γ σ k n pc ls [vI x] h := fun η H locs lsA a b c => by
  obtain ⟨f1, f2, η0, h0, sz, f3, f4, f5⟩ := F
  unfold cW
  rw [f5]
  refine W.widen hk hs (vx_ret ?_)
  exact W.zret (v := x) O.1 O.2.1 (f1.trans hr) hn (Fin.post O (v := some (vI x)) f4 f3 hp hσ a b) (fun q hq => by rw [← f4]; exact b.2.2 q hq) d O.2.2.2.2.2.2.2.2
theorem At.lret (O : OK γ own cc) (F : Fin γ σ0 N0 mc ms ret Po) {x : Int64} (d : decode cc pc = .ok (.lreturn, 1)) (hr : ret = some .long) (hk : k ≤ mc) (hs : n ≤ ms) (hσ : σ = σ0 ∨ (N0 < h.length ∧ ∀ r, r < N0 → ∀ o, σ r o = σ0 r o)) (hp : Po (.inl (some (vL x))) h) : At γ σ k n pc ls [vL x] h := fun η H locs lsA a b c => by
  obtain ⟨f1, f2, η0, h0, sz, f3, f4, f5⟩ := F
  unfold cW
  rw [f5]
  refine W.widen hk hs (vx_ret ?_)
  exact W.lret (v := x) O.1 O.2.1 (f1.trans hr) (Fin.post O (v := some (vL x)) f4 f3 hp hσ a b) (fun q hq => by rw [← f4]; exact b.2.2 q hq) d O.2.2.2.2.2.2.2.2
theorem At.vret (O : OK γ own cc) (F : Fin γ σ0 N0 mc ms ret Po) (d : decode cc pc = .ok (.return_, 1)) (hr : ret = none) (hk : k ≤ mc) (hs : n ≤ ms) (hσ : σ = σ0 ∨ (N0 < h.length ∧ ∀ r, r < N0 → ∀ o, σ r o = σ0 r o)) (hp : Po (.inl none) h) : At γ σ k n pc ls [] h := fun η H locs lsA a b c => by
  obtain ⟨f1, f2, η0, h0, sz, f3, f4, f5⟩ := F
  unfold cW
  rw [f5]
  refine W.widen hk hs (vx_ret ?_)
  exact W.vret O.1 O.2.1 (f1.trans hr) (Fin.post O (v := none) f4 f3 hp hσ a b) (fun q hq => by rw [← f4]; exact b.2.2 q hq) d O.2.2.2.2.2.2.2.2
theorem At.aret (O : OK γ own cc) (F : Fin γ σ0 N0 mc ms ret Po) {v : AV} {rt : FieldType} (d : decode cc pc = .ok (.areturn, 1)) (hr : ret = some rt) (hrt : (∃ n, rt = .object n) ∨ ∃ t, rt = .array t) (hv : isRf v = true ∨ v = vN) (hk : k ≤ mc) (hs : n ≤ ms) (hσ : σ = σ0 ∨ (N0 < h.length ∧ ∀ r, r < N0 → ∀ o, σ r o = σ0 r o)) (hp : Po (.inl (some v)) h) : At γ σ k n pc ls [v] h := fun η H locs lsA a b c => by
  obtain ⟨f1, f2, η0, h0, sz, f3, f4, f5⟩ := F
  unfold cW
  rw [f5]
  refine W.widen hk hs (vx_ret ?_)
  refine W.aret (v := tr σ (cκ γ) v) O.1 O.2.1 (f1.trans hr) hrt ?_ (Fin.post O (v := some v) f4 f3 hp hσ a b) (fun q hq => by rw [← f4]; exact b.2.2 q hq) d O.2.2.2.2.2.2.2.2
  rcases hv with hv | rfl
  · exact Or.inr (tr_rf hv)
  · exact Or.inl rfl
end ATE
