/-! ===== multianewarray of eight rows of three numbers ===== -/
theorem arr_ext {cA : ClassId} {N : Nat} {f g : Nat → Value} (h : ∀ j, j < N → f j = g j) : arrV cA N f = arrV cA N g :=
  congrArg (fun F => ({ cls := cA, slots := Array.ofFn (n := N) F, vm := .none } : Cell)) (funext fun j => h j.val j.isLt)
/-- the outer array when i of its rows are made, b the address behind it -/
def mnO (cA : ClassId) (a i : Nat) : Cell := arrV cA 8 (fun j => if j < i then .ref (a + 1 + j) else .null)
def mnI (cI : ClassId) : Cell := arrV cI 3 (fun _ => .int 0)
theorem mnO_put (cA : ClassId) (a i : Nat) (hi : i < 8) : (mnO cA a i).setSlot i (.ref (a + 1 + i)) = mnO cA a (i + 1) := by
  refine arr_put fun q => ?_
  by_cases e : q = i
  · subst e
    rw [if_pos (Nat.lt_succ_self _), if_pos rfl]
  · rw [if_neg e]
    by_cases hq : q < i
    · rw [if_pos (Nat.lt_succ_of_lt hq), if_pos hq]
    · rw [if_neg (by omega), if_neg hq]
def mnS (s : State) (cA cI : ClassId) : Nat → State
  | 0 => s.pushCell (mnO cA s.heap.size 0)
  | i + 1 => ((mnS s cA cI i).pushCell (mnI cI)).setCell s.heap.size (mnO cA s.heap.size (i + 1))
/-- what i steps have made -/
def mnF (s : State) (cA cI : ClassId) (t : State) (i : Nat) : Prop := t.heap.size = s.heap.size + 1 + i ∧ t.heap[s.heap.size]? = some (mnO cA s.heap.size i) ∧ t.vm = s.vm ∧ t.slotsUsed = s.slotsUsed + 8 + i * 3 ∧
  (∀ q : Nat, q < s.heap.size → t.heap[q]? = s.heap[q]?) ∧ ∀ j, j < i → t.heap[s.heap.size + 1 + j]? = some (mnI cI)
theorem mnS_at (s : State) (cA cI : ClassId) : ∀ i, mnF s cA cI (mnS s cA cI i) i
  | 0 => ⟨by simp [mnS], by simp [mnS], rfl, by simp [mnS, mnO, arrV], fun q hq => State.heap_pushCell_of_lt _ _ hq, fun j h => absurd h (Nat.not_lt_zero _)⟩
  | i + 1 => by
    obtain ⟨a, b, c, d, o, w⟩ := mnS_at s cA cI i
    have hlt : s.heap.size < (mnS s cA cI i).heap.size := by omega
    have hb' : ((mnS s cA cI i).pushCell (mnI cI)).heap[s.heap.size]? = some (mnO cA s.heap.size i) := by rw [State.heap_pushCell_of_lt (h := hlt)]; exact b
    refine ⟨by simp [mnS, State.setCell, a]; omega, State.heap_setCell_self hb', by simp [mnS, c], by simp [mnS, d, mnI, arrV, Nat.succ_mul]; omega, fun q hq => ?_, fun j hj => ?_⟩
    · show (((mnS s cA cI i).pushCell (mnI cI)).setCell s.heap.size _).heap[q]? = _
      have hq2 : q < (mnS s cA cI i).heap.size := by omega
      rw [State.heap_setCell_other (Nat.ne_of_gt hq), State.heap_pushCell_of_lt (h := hq2)]
      exact o q hq
    · show (((mnS s cA cI i).pushCell (mnI cI)).setCell s.heap.size _).heap[s.heap.size + 1 + j]? = _
      rw [State.heap_setCell_other (show s.heap.size ≠ s.heap.size + 1 + j by omega)]
      rcases Nat.lt_or_ge j i with q | q
      · have hq2 : s.heap.size + 1 + j < (mnS s cA cI i).heap.size := by omega
        rw [State.heap_pushCell_of_lt (h := hq2)]
        exact w j q
      · have e : j = i := by omega
        subst e
        rw [← a]
        exact State.heap_pushCell_size _ _
theorem mnS_setTop (s : State) (f : JFrame) (cA cI : ClassId) : ∀ i, mnS (s.setTop f) cA cI i = (mnS s cA cI i).setTop f
  | 0 => rfl
  | i + 1 => by simp only [mnS, mnS_setTop s f cA cI i, State.heap_setTop, State.pushCell_setTop, State.setCell_setTop]
section MNW
variable {E : CtlPost} {e : Env} {d : Bool} {acts : List Action} {s : State}
theorem mn_new {c comp : ClassId} {k : Class} {type : FieldType} {len : Nat} {init : Value} (hk : s.vm.classes[c]? = some k) (hkind : k.kind = .array comp type) (hl : len ≤ 8) (hcb : componentBytes type ≤ 8)
    (hlimit : e.platform.arrayLengthLimit = 2147483645) (hheap : e.platform.maxHeapBytes = 536870912) (hfit : fits type init = true) (hdef : init.isDefault = true) {Q : Addr → Pre}
    (h1 : s.heap.size < e.platform.maxCells) (h2 : s.slotsUsed + len ≤ e.platform.maxSlots)
    (hq : Q s.heap.size d acts (s.pushCell { cls := c, slots := Array.replicate len init, vm := .none })) : Sem.wp (Jvm.newArray c len init) Q E e d acts s := by
  have hm : len * componentBytes type ≤ 8 * 8 := Nat.mul_le_mul hl hcb
  have w1 : ¬ len > e.platform.arrayLengthLimit := by rw [hlimit]; omega
  have w2 : ¬ len * componentBytes type > e.platform.maxHeapBytes := by rw [hheap]; omega
  have w3 : ∀ i v, (Array.replicate len init)[i]? = some v → s.fitsSlot c .none i v = true := by
    intro i v hv
    simp only [Array.getElem?_replicate] at hv
    split at hv
    · cases hv; simp [State.fitsSlot, State.slotType?, hk, hkind, hfit]
    · cases hv
  have w4 : allocActs (Array.replicate len init) s.heap.size acts = acts := by
    unfold allocActs
    rw [if_pos (by rw [Array.all_replicate]; split <;> simp [hdef])]
  simp only [Jvm.newArray, Jvm.arrayFits, wp_bind', W.ask, W.ite, w1, if_false, wp_pure', W.theClass, hk, hkind, w2, W.alloc, W.stop, Option.some.injEq, exists_eq_left', Array.size_replicate, w4]
  rw [if_neg (by omega)]
  exact ⟨h1, h2, w3, hq⟩
theorem mn_make {cA cI cc : ClassId} {k kc : Class} (hk : s.vm.classes[cA]? = some k) (hkind : k.kind = .array cI (.array .int)) (hkc : s.vm.classes[cI]? = some kc) (hkindc : kc.kind = .array cc .int)
    (hlimit : e.platform.arrayLengthLimit = 2147483645) (hheap : e.platform.maxHeapBytes = 536870912) (hc : s.heap.size + 9 ≤ e.platform.maxCells) (hs : s.slotsUsed + 32 ≤ e.platform.maxSlots)
    {Q : Addr → Pre} (hq : ∀ d' acts', Q s.heap.size d' acts' (mnS s cA cI 8)) : Sem.wp (multianewarray.make cA [8, 3]) Q E e d acts s := by
  have n8 : ¬ (8 : Int32) < 0 := by decide
  have e8 : Int32.toNatClampNeg 8 = 8 := by decide
  have n3 : ¬ (3 : Int32) < 0 := by decide
  have e3 : Int32.toNatClampNeg 3 = 3 := by decide
  rw [Jvm.Op.multianewarray.make]
  simp only [wp_bind', W.ite, n8, if_false, wp_pure', W.theClass, hk, hkind, Option.some.injEq, exists_eq_left', e8]
  refine mn_new hk hkind (Nat.le_refl _) (by decide) hlimit hheap rfl rfl (by omega) (by omega) ?_
  have n0 : ((8 : Int32) == 0) = false := by decide
  simp only [n0, Bool.false_eq_true, if_false]
  rw [wp_bind', Std.Legacy.Range.forIn_eq_forIn_range']
  have hsz : ([:8] : Std.Legacy.Range).size = 8 := by simp [Std.Legacy.Range.size]
  rw [hsz]
  show Sem.wp (forIn (List.range' 0 8 1) PUnit.unit _) _ E e d acts _
  have eO : s.pushCell { cls := cA, slots := Array.replicate 8 .null, vm := .none } = mnS s cA cI 0 := by
    show _ = s.pushCell (mnO cA s.heap.size 0)
    congr 1
  rw [eO]
  refine wp_forIn_inv (fun rest s' => ∃ i, i ≤ 8 ∧ rest = List.range' i (8 - i) ∧ s' = mnS s cA cI i) _ _ ⟨0, Nat.zero_le _, rfl, rfl⟩ ?_ ?_
  · rintro x rest s' d' acts' Q' ⟨i, hi, hl, rfl⟩ hnext
    have hlt : i < 8 := by
      rcases Nat.lt_or_ge i 8 with h | h
      · exact h
      · rw [show 8 - i = 0 from by omega] at hl; simp at hl
    obtain ⟨rfl, hrest⟩ : x = i ∧ rest = List.range' (i + 1) (8 - (i + 1)) := by
      rw [show 8 - i = (8 - (i + 1)) + 1 from by omega, List.range'_succ] at hl
      exact ⟨(List.cons.inj hl).1, (List.cons.inj hl).2⟩
    obtain ⟨f1, f2, f3, f4, -, -⟩ := mnS_at s cA cI x
    simp only [wp_bind']
    rw [Jvm.Op.multianewarray.make]
    simp only [wp_bind', W.ite, n3, if_false, wp_pure', W.theClass, f3, hkc, hkindc, Option.some.injEq, exists_eq_left', e3]
    refine mn_new (by rw [f3]; exact hkc) hkindc (by decide) (by decide) hlimit hheap rfl rfl (by rw [f1]; omega) (by rw [f4]; omega) ?_
    have eI : ({ cls := cI, slots := Array.replicate 3 (defaultValue .int), vm := .none } : Cell) = mnI cI := arrV_new _ _ _
    rw [eI]
    have hlt0 : s.heap.size < (mnS s cA cI x).heap.size := by rw [f1]; omega
    simp only [wp_bind', W.writeLoc, wp_pure']
    refine ⟨mnO cA s.heap.size x, by rw [State.heap_pushCell_of_lt (h := hlt0)]; exact f2, by simp [mnO, arrV], by simp [mnO, arrV]; exact hlt, ?_, hnext _ _ _ ⟨x + 1, hlt, hrest, ?_⟩⟩
    · simp [mnO, arrV, State.fitsSlot, State.slotType?, f3, hk, hkind, fits]
    · rw [f1, mnO_put _ _ _ hlt]; rfl
  · rintro s' d' acts' ⟨i, hi, hl, rfl⟩
    have hiN : i = 8 := by
      rcases Nat.lt_or_ge i 8 with h | h
      · rw [show 8 - i = (8 - (i + 1)) + 1 from by omega, List.range'_succ] at hl; cases hl
      · omega
    subst hiN
    simp only [wp_pure']
    exact hq _ _
end MNW
section MNR
variable {p : Program} {l : Launch} {e : Env} {R : Room} {s : State} {m : MethodId} {args : Array Value} {below : List Frame} {meth : Method} {c : Code} {T : State} {locs : List Loc} {cells slots : Nat} {Q : State → Prop} {H : Heap}
theorem mn_stand (X : Stand p l e R s m args below meth c T locs cells slots) (cA cI : ClassId) : ∀ i, i ≤ 8 → Stand p l e R s m args below meth c (mnS T cA cI i) (locs ++ (List.range i).map fun j => ⟨T.heap.size, j⟩) (cells + 1 + i) (slots + 8 + i * 3)
  | 0, _ => by
    have h := X.pushed (mnO cA T.heap.size 0)
    rw [show (mnO cA T.heap.size 0).slots.size = 8 from by simp [mnO, arrV]] at h
    simpa [mnS] using h
  | i + 1, hi => by
    have Xi := mn_stand X cA cI i (by omega)
    obtain ⟨f1, f2, -⟩ := mnS_at T cA cI i
    have hlt : T.heap.size < (mnS T cA cI i).heap.size := by omega
    have hcell : ((mnS T cA cI i).pushCell (mnI cI)).heap[T.heap.size]? = some (mnO cA T.heap.size i) := by rw [State.heap_pushCell_of_lt (h := hlt)]; exact f2
    have h := (Xi.pushed (mnI cI)).stored hcell i (.ref (T.heap.size + 1 + i))
    rw [show (mnI cI).slots.size = 3 from by simp [mnI, arrV]] at h
    have e2 : (locs ++ (List.range (i + 1)).map fun j => (⟨T.heap.size, j⟩ : Loc)) = (locs ++ (List.range i).map fun j => (⟨T.heap.size, j⟩ : Loc)) ++ [⟨T.heap.size, i⟩] := by simp [List.range_succ, List.append_assoc]
    have e3 : slots + 8 + (i + 1) * 3 = slots + 8 + i * 3 + 3 := by omega
    rw [e2, e3]
    rw [mnO_put _ _ _ (by omega)] at h
    exact h
theorem W.mnew {cc : ByteArray} (hexec : p.tables.exec = Jvm.exec) (hb : c.code = cc) {own : String} {index : Nat} (hown : s.vm.findClass own = some m.cls) (hclink : (Cond.classLink own index "[[I").before args s = true) (hover : aoA s) (harr : (Cond.arrayClass .int).before args s = true)
    {g : JFrame} (hg : g.method = m) (hdg : decode cc g.pc = .ok (.multianewarray index 2, 4)) {rest : List Value} (hstack : g.stack = .int 3 :: .int 8 :: rest) (hcells : cells + 9 ≤ R.cells) (hslots : slots + 32 ≤ R.slots)
    (kk : ∀ (H' : Heap) (cA cI : ClassId), H'.size = H.size + 9 → H'[H.size]? = some (mnO cA H.size 8) → (∀ j, j < 8 → H'[H.size + 1 + j]? = some (mnI cI)) → (∀ q : Nat, q < H.size → H'[q]? = H[q]?) → ArrOfT s cA (.array .int) → s.vm.findClass ("[" ++ (FieldType.array .int).toString) = some cA → ArrOfT s cI .int → s.vm.findClass ("[" ++ FieldType.int.toString) = some cI →
      W p l e R s m args below meth c H' (locs ++ (List.range 8).map fun j => ⟨H.size, j⟩) (cells + 9) (slots + 32) Q { g with pc := g.pc + 4, stack := .ref H.size :: rest }) : W p l e R s m args below meth c H locs cells slots Q g := by
  intro T hT X
  subst hT; subst hb; subst hg
  have hpl : e.platform.magicAccessors = ({} : Platform).magicAccessors := by rw [X.admits.platform]
  obtain ⟨comp, cA, kA, hcomp, -, hkA, hkindA, hnameA⟩ := hover.spec
  obtain ⟨cI, kC, cc, hcI, hkC, hkindC⟩ := Cond.arrayClass_spec harr
  have ecomp : cI = comp := Option.some.inj (hcI.symm.trans hcomp)
  subst ecomp
  obtain ⟨c0, hfc0, hcl⟩ := Cond.classLink_spec hown hclink e.platform hpl
  have e0 : c0 = cA := Option.some.inj (hfc0.symm.trans hnameA)
  subst e0
  obtain ⟨hg₁, hwarm₁, hready₁⟩ := State.classEntry (e := e) X.warmed hcl
  generalize T.vm.noted g.method.cls index (.cls c0) = vm₁ at hg₁ hwarm₁ hready₁
  have hal : s.vm.Alike vm₁ := hwarm₁.alike
  obtain ⟨kA₁, hkA₁, heA⟩ := hal.2.2 _ _ hkA
  obtain ⟨kC₁, hkC₁, heC⟩ := hal.2.2 _ _ hkC
  have hkindA₁ : kA₁.kind = .array cI (.array .int) := by rw [heA]; exact hkindA
  have hkindC₁ : kC₁.kind = .array cc .int := by rw [heC]; exact hkindC
  have X₁ := X.noted hwarm₁
  have XF := mn_stand X₁ c0 cI 8 (Nat.le_refl _)
  obtain ⟨m1, m2, -, -, m5, m6⟩ := mnS_at (T.setVm vm₁) c0 cI 8
  obtain ⟨hr1, hr2⟩ := X.roomAbove hcells hslots
  obtain ⟨t, a1, b1⟩ := kk (mnS (T.setVm vm₁) c0 cI 8).heap c0 cI m1 m2 m6 m5 (fun n z => ⟨fun k h => (by cases h), kA, hkA, _, hkindA⟩) hnameA (fun n z => ⟨fun k h => (by cases h), kC, hkC, _, hkindC⟩) hcI _ rfl XF
  refine ⟨t, ?_, b1⟩
  have hl1 : e.platform.arrayLengthLimit = 2147483645 := Launch.admits_arrayLengthLimit X.admits
  have hh1 : e.platform.maxHeapBytes = 536870912 := Launch.admits_maxHeapBytes X.admits
  jvm_step X.here [hexec, hdg]
  simp only [multianewarray.sem, wp_bind', W.resolveClassAt_links (State.method?_setTop g X.here.top) hg₁]
  rw [W.popN, if_neg (by decide)]
  refine ⟨g, State.topJava?_setTop' (s := T.setVm vm₁) g X.here.top, [.int 8, .int 3], rest, rfl, hstack, ?_⟩
  simp only [List.mapM_cons, List.mapM_nil, wp_bind', wp_pure']
  refine mn_make (k := kA₁) (kc := kC₁) hkA₁ hkindA₁ hkC₁ hkindC₁ hl1 hh1 (by show T.heap.size + 9 ≤ _; omega) (by show T.slotsUsed + 32 ≤ _; omega) (fun d' acts' => ?_)
  have eS : ((T.setTop g).setVm vm₁).setTop { g with stack := rest } = (T.setVm vm₁).setTop { g with stack := rest } := by
    show ((T.setVm vm₁).setTop g).setTop _ = _
    rw [State.setTop_setTop]
  rw [eS, mnS_setTop]
  simp only [wp_bind', W.mark, W.pushRef, State.topJava?_setTop' _ XF.here.top, Option.some.injEq, exists_eq_left', State.setTop_setTop, State.heap_setTop]
  intro acts
  simp [jvm, XF.here.top]
  exact a1
end MNR
/-- more regions, each of one cell, at addresses one behind the other -/
def sgG (σ : Nat → Nat → Nat) (N a : Nat) : Nat → Nat → Nat := fun r o => if r < N then σ r o else a + (r - N)
theorem Rep.pushL {D : va_G} {σ η : Nat → Nat → Nat} {κ : Nat → Nat} {h : AHp} {U : State} {H H1 : Heap} {A : Nat → Prop} {m : List ACell} {a : Nat} (R : Rep D σ η κ h U H A) (hb : bdH h.length h = true) (hsb : ∀ j c, hnth m j = some c → isSb c = false) (hk : ∀ q : Nat, q < H.size → H1[q]? = H[q]?) (hsz : H.size ≤ a) (hA : ∀ j, A (a + j))
    (hc : ∀ j c, hnth m j = some c → atC D (sgG σ h.length a) η κ U H1 (h.length + j) 0 c) : Rep D (sgG σ h.length a) η κ (h ++ m.map (fun c => [c])) U H1 A := by
  have hs : ∀ r, r < h.length → ∀ o, sgG σ h.length a r o = σ r o := fun r hr o => if_pos hr
  have one : ∀ {r o : Nat} {c : ACell}, hget (m.map (fun c => [c])) r o = some c → o = 0 ∧ hnth m r = some c := by
    intro r o c e
    obtain ⟨g, q3, q4⟩ := hget_some e
    rw [hnth_eq, List.getElem?_map] at q3
    cases hm : m[r]? with
    | none => rw [hm] at q3; cases q3
    | some x =>
      rw [hm] at q3
      cases q3
      have ho : o = 0 := by have := hnth_lt q4; simp at this; omega
      subst ho
      cases q4
      exact ⟨rfl, by rw [hnth_eq]; exact hm⟩
  have place : ∀ {p : Pl}, pdom (h ++ m.map (fun c => [c])) p → (p.1 < h.length ∧ pdom h p) ∨ (h.length ≤ p.1 ∧ p.2 = (0, false)) := by
    rintro ⟨r, o, b⟩ ⟨c2, h1, h2⟩
    rcases hget_app h1 with ⟨q1, q2⟩ | ⟨q1, q2⟩
    · exact Or.inl ⟨q1, c2, q2, h2⟩
    · obtain ⟨rfl, q3⟩ := one q2
      cases b with
      | true =>
        have := h2 rfl
        rw [hsb _ _ q3] at this
        cases this
      | false => exact Or.inr ⟨q1, rfl⟩
  have padL : ∀ {p : Pl}, p.1 < h.length → pad (sgG σ h.length a) η p = pad σ η p := by
    rintro ⟨r, o, b⟩ hp
    cases b with
    | true => rfl
    | false => exact if_pos hp
  have padN : ∀ {p : Pl}, h.length ≤ p.1 → p.2 = (0, false) → pad (sgG σ h.length a) η p = a + (p.1 - h.length) := by
    rintro ⟨r, o, b⟩ hp hq
    cases hq
    exact if_neg (Nat.not_lt.mpr hp)
  refine ⟨fun r o c2 e => ?_, fun p q hp hq he => ?_, fun p hp => ?_⟩
  · rcases hget_app e with ⟨q1, q2⟩ | ⟨q1, q2⟩
    · refine bdC_at hs (fun _ _ _ => rfl) q1 (bdH_get hb q2) ?_
      exact (R.1 r o c2 q2).kept (hk _ (R.size (hget_pl q2))) fun hq => hk _ (R.size (p := (r, o, true)) ⟨c2, q2, fun _ => hq⟩)
    · obtain ⟨rfl, q3⟩ := one q2
      have := hc _ _ q3
      rw [Nat.add_sub_cancel' q1] at this
      exact this
  · rcases place hp with ⟨p1, p2⟩ | ⟨p1, p2⟩ <;> rcases place hq with ⟨q1, q2⟩ | ⟨q1, q2⟩
    · rw [padL p1, padL q1] at he
      exact R.2.1 _ _ p2 q2 he
    · rw [padL p1, padN q1 q2] at he
      have := R.size p2
      omega
    · rw [padN p1 p2, padL q1] at he
      have := R.size q2
      omega
    · rw [padN p1 p2, padN q1 q2] at he
      exact Prod.ext (by omega) (p2.trans q2.symm)
  · rcases place hp with ⟨p1, p2⟩ | ⟨p1, p2⟩
    · rw [padL p1]
      exact R.2.2 _ p2
    · rw [padN p1 p2]
      exact hA _
abbrev mnL (N : Nat) : List ACell := [aA (.array .int) 8 [vR (N + 1) 0, vR (N + 2) 0, vR (N + 3) 0, vR (N + 4) 0, vR (N + 5) 0, vR (N + 6) 0, vR (N + 7) 0, vR (N + 8) 0], aI 3 (fun _ => 0), aI 3 (fun _ => 0), aI 3 (fun _ => 0), aI 3 (fun _ => 0), aI 3 (fun _ => 0), aI 3 (fun _ => 0), aI 3 (fun _ => 0), aI 3 (fun _ => 0)]
section AM
variable {γ : CX} {own : String} {cc : ByteArray} {σ : Nat → Nat → Nat} {k n pc : Nat} {ls : List (Nat × AV)} {st rest : List AV} {h : AHp}
theorem At.newM (O : OK γ own cc) {ix : Nat} (hl : Cond.classLink own ix "[[I" ∈ GT) (har : Cond.arrayClass .int ∈ GT) (hk : k + 9 ≤ (cR γ).cells) (hn : n + 32 ≤ (cR γ).slots) (d : decode cc pc = .ok (.multianewarray ix 2, 4)) (hb : bdH h.length h = true) (hbl : ls.all (fun q => bdV h.length q.2) = true) (hbs : st.all (bdV h.length) = true)
    (g : ∀ σ2, grown σ σ2 h.length → At γ σ2 (k + 9) (n + 32) (pc + 4) ls (vR h.length 0 :: st) (h ++ (mnL h.length).map (fun c => [c]))) : At γ σ k n pc ls (vI 3 :: vI 8 :: st) h := fun η H locs lsA a b c => by
  refine W.mnew O.1 O.2.1 O.2.2.1 (O.2.2.2.1 _ hl) (sx O).2.2.2.2.2 (O.2.2.2.1 _ har) rfl d rfl hk hn fun H1 cA cI z1 e1 e2 o1 t1 t2 t3 t4 => ?_
  have hs : grown σ (sgG σ h.length H.size) h.length := fun r hr o => if_pos hr
  have hA : ∀ j, cF γ (H.size + j) := fun j => O.2.2.2.2.2.2.1 _ (Nat.le_trans b.1 (Nat.le_add_right _ _))
  have hrow : ∀ j, j < 8 → atC (cD γ) (sgG σ h.length H.size) η (cκ γ) (cS γ) H1 (h.length + (j + 1)) 0 (aI 3 (fun _ => 0)) := fun j hj => ⟨cI, by
    show H1[sgG σ h.length H.size (h.length + (j + 1)) 0]? = _
    rw [show sgG σ h.length H.size (h.length + (j + 1)) 0 = H.size + 1 + j from (if_neg (by omega)).trans (by omega)]
    exact e2 j hj, t3, t4⟩
  have R1 := a.pushL (m := mnL h.length) (a := H.size) (H1 := H1) hb (fun j c hc => by
    rcases j with _ | _ | _ | _ | _ | _ | _ | _ | _ | j
    all_goals first
      | (cases hc; rfl)
      | (cases hc)) o1 (Nat.le_refl _) hA (fun j c hc => by
    rcases j with _ | _ | _ | _ | _ | _ | _ | _ | _ | j
    · cases hc
      refine ⟨cA, ?_, t1, t2⟩
      show H1[sgG σ h.length H.size (h.length + 0) 0]? = _
      rw [show sgG σ h.length H.size (h.length + 0) 0 = H.size from (if_neg (by omega)).trans (by omega), e1]
      refine congrArg some ?_
      unfold mnO
      refine arr_ext fun j hj => ?_
      have ad : ∀ i, sgG σ h.length H.size (h.length + (i + 1)) 0 = H.size + 1 + i := fun i => (if_neg (by omega)).trans (by omega)
      rw [if_pos hj]
      rcases j with _ | _ | _ | _ | _ | _ | _ | _ | j
      · exact congrArg Value.ref (ad 0).symm
      · exact congrArg Value.ref (ad 1).symm
      · exact congrArg Value.ref (ad 2).symm
      · exact congrArg Value.ref (ad 3).symm
      · exact congrArg Value.ref (ad 4).symm
      · exact congrArg Value.ref (ad 5).symm
      · exact congrArg Value.ref (ad 6).symm
      · exact congrArg Value.ref (ad 7).symm
      · omega
    · cases hc; exact hrow 0 (by decide)
    · cases hc; exact hrow 1 (by decide)
    · cases hc; exact hrow 2 (by decide)
    · cases hc; exact hrow 3 (by decide)
    · cases hc; exact hrow 4 (by decide)
    · cases hc; exact hrow 5 (by decide)
    · cases hc; exact hrow 6 (by decide)
    · cases hc; exact hrow 7 (by decide)
    · cases hc)
  have g2 := g _ hs η H1 (locs ++ (List.range 8).map fun j => (⟨H.size, j⟩ : Loc)) lsA R1 ⟨Nat.le_trans b.1 (by omega), fun x h1 h2 => (o1 x (Nat.lt_of_lt_of_le h1 b.1)).trans (b.2.1 x h1 h2), fun l hl => by
    rcases List.mem_append.mp hl with q | q
    · exact b.2.2 l q
    · obtain ⟨j, -, rfl⟩ := List.mem_map.mp q
      show cF γ H.size
      exact hA 0⟩ (by rw [trL_bd hs hbl]; exact c)
  have e3 : (vR h.length 0 :: st).map (tr (sgG σ h.length H.size) (cκ γ)) = .ref H.size :: st.map (tr σ (cκ γ)) := by
    rw [List.map_cons, bdV_trL hs hbs]
    show Value.ref (sgG σ h.length H.size h.length 0) :: _ = _
    rw [show sgG σ h.length H.size h.length 0 = H.size from (if_neg (by omega)).trans (by omega)]
  rw [e3] at g2
  exact g2
end AM
