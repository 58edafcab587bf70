/-! ===== WHAT IS GIVEN OF THE STATICS: the constants of Fault, nest links, the texts of exceptions, face words ===== -/
def exL : List (String × Nat × String) := [(RX10, 136, "no transfer makes the moment smaller"), (RX10, 160, "limit out of range"), (RX10, 225, "no such rank"), (RX10, 228, "never full"), (RX10, 233, "no such position"), (RX10, 248, "no piece on board"), (RX10, 283, "transfers do not balance the ship"), (RX10, 288, "number of minutes out of range"), (RX10, 295, "no storm is scheduled"), (RX10, 360, "the line has no such index"), (RX10, 443, "no such compartment"), (RX10, 445, "argument out of range"), (RX10, 450, "not possible now"), (RX10, 455, "no such piece"), (RX10, 462, "no compartments"), (RX10, 469, "no such storm"), (RX10, 474, "no transfer is possible"), (RX10, 479, "no piece can be moved")]
def FT : List Cond := lw_tbl.filter (fun w => w.onTables && w.keepsFace)
/-! what is given beside: the keywords, their texts, the tables that nobody writes -/
def kwNm : List String := ["TANK"]
def kwF : List (String × String × String × List Int32) := [("java/lang/Enum", "ordinal", "I", [0])]
/-- texts: the law's ten, six that nobody reads, three of the line -/
def sxB : Nat → List Nat
  | 0 => []
  | 1 => [44]
  | 2 => [42]
  | 3 => [67]
  | 4 => [32, 97]
  | 5 => [32]
  | 6 => [47]
  | 7 => [32, 43]
  | 8 => [32, 108]
  | 9 => [33]
  | 10 => []
  | 11 => []
  | 12 => []
  | 13 => []
  | 14 => []
  | 15 => []
  | 16 => [32, 97]
  | 17 => [32, 43]
  | 18 => [32, 108]
  | _ => []
def strAt (tx : List Nat) (a b : Nat) (A : Nat → Prop) (U : State) (H : Heap) : Prop := va_O "java/lang/String" a A U H ∧ va_OF "java/lang/String" "coder" "B" (.int 0) a A U H ∧ va_OF "java/lang/String" "value" "[B" (.ref b) a A U H ∧ va_T .byte b tx.length (fun j => .int (nI (tx.getD j 0))) A U H
theorem strAt.kept {tx : List Nat} {a b : Nat} {A : Nat → Prop} {U : State} {H H1 : Heap} (h : strAt tx a b A U H) (hq : ∀ a : Nat, a < H.size → ¬ A a → H1[a]? = H[a]?) : strAt tx a b A U H1 := by
  obtain ⟨h1, h2, h3, h4⟩ := h
  exact ⟨h1.kept hq, h2.kept hq, h3.kept hq, h4.kept hq⟩
theorem strAt.narrow {tx : List Nat} {a b : Nat} {A B : Nat → Prop} {U : State} {H : Heap} (h : strAt tx a b A U H) (hAB : ∀ q, B q → A q) : strAt tx a b B U H := by
  obtain ⟨h1, h2, h3, h4⟩ := h
  exact ⟨h1.narrow hAB, h2.narrow hAB, h3.narrow hAB, h4.narrow hAB⟩
theorem strAt.moved {tx : List Nat} {a b : Nat} {A : Nat → Prop} {u U : State} {H : Heap} (hvm : u.vm.Alike U.vm) (h : strAt tx a b A u H) : strAt tx a b A U H := by
  obtain ⟨h1, h2, h3, h4⟩ := h
  exact ⟨va_O.moved hvm h1, va_OF.moved hvm h2, va_OF.moved hvm h3, va_T.moved hvm h4⟩
def ldL : List (Nat × String × Nat) := [(341, " a", 31), (346, " +", 32), (351, " l", 33)]
/-- 60 the script, 5 the keyword, 15 to 33 the texts, 36 and 37 the digits', 40 to 58 the texts' bytes -/
def lwL : List (Nat × String × Nat) := [(175, "", 15), (204, ",", 16), (209, "*", 17), (218, "C", 18), (220, " a", 19), (225, " ", 20), (227, "/", 21), (229, " +", 22), (231, " l", 23), (242, "!", 24)]
def SX1 (κ : Nat → Nat) (A : Nat → Prop) (U : State) (H : Heap) : Prop :=
  va_En RX6 "LBallastControl$Keyword;" kwNm kwF (fun i => κ (5 + i)) A U H ∧
  (∃ (L : Nat) (f : Nat → Int32), L < 2 ^ 31 ∧ va_T .int (κ 60) L (fun i => .int (f i)) A U H) ∧
  True ∧
  (∀ j : Nat, j < 19 → strAt (sxB j) (κ (15 + j)) (κ (40 + j)) A U H) ∧
  True ∧
  True ∧
  (va_Z RJ6 "DigitOnes" "[B" (.ref (κ 36)) A U H ∧ va_T .byte (κ 36) 100 (fun i => .int (nI (48 + i % 10))) A U H) ∧
  (va_Z RJ6 "DigitTens" "[B" (.ref (κ 37)) A U H ∧ va_T .byte (κ 37) 100 (fun i => .int (nI (48 + i / 10))) A U H) ∧
  va_Z RJ0 "COMPACT_STRINGS" "Z" (.int 1) A U H ∧
  va_Zq RJ3 "SIOOBE_FORMATTER" "Ljava/util/function/BiFunction;" A U H
theorem SX1.kept {κ : Nat → Nat} {A : Nat → Prop} {U : State} {H H1 : Heap} (h : SX1 κ A U H) (hq : ∀ a : Nat, a < H.size → ¬ A a → H1[a]? = H[a]?) : SX1 κ A U H1 := by
  obtain ⟨h1, h2, h3, h4, h5, h6, ⟨h9, h10⟩, ⟨h11, h12⟩, h13, h14⟩ := h
  exact ⟨h1.kept hq, (by obtain ⟨L, f, q1, q2⟩ := h2; exact ⟨L, f, q1, q2.kept hq⟩), h3, fun j hj => (h4 j hj).kept hq, h5, h6, ⟨h9.kept hq, h10.kept hq⟩, ⟨h11.kept hq, h12.kept hq⟩, h13.kept hq, h14.kept hq⟩
theorem SX1.narrow {κ : Nat → Nat} {A B : Nat → Prop} {U : State} {H : Heap} (h : SX1 κ A U H) (hAB : ∀ q, B q → A q) : SX1 κ B U H := by
  obtain ⟨h1, h2, h3, h4, h5, h6, ⟨h9, h10⟩, ⟨h11, h12⟩, h13, h14⟩ := h
  exact ⟨h1.narrow hAB, (by obtain ⟨L, f, q1, q2⟩ := h2; exact ⟨L, f, q1, q2.narrow hAB⟩), h3, fun j hj => (h4 j hj).narrow hAB, h5, h6, ⟨h9.narrow hAB, h10.narrow hAB⟩, ⟨h11.narrow hAB, h12.narrow hAB⟩, h13.narrow hAB, h14.narrow hAB⟩
theorem SX1.moved {κ : Nat → Nat} {A : Nat → Prop} {u U : State} {H : Heap} (hvm : u.vm.Alike U.vm) (h : SX1 κ A u H) : SX1 κ A U H := by
  obtain ⟨h1, h2, h3, h4, h5, h6, ⟨h9, h10⟩, ⟨h11, h12⟩, h13, h14⟩ := h
  exact ⟨va_En.moved hvm h1, (by obtain ⟨L, f, q1, q2⟩ := h2; exact ⟨L, f, q1, va_T.moved hvm q2⟩), h3, fun j hj => (h4 j hj).moved hvm, h5, h6, ⟨va_Z.moved hvm h9, va_T.moved hvm h10⟩, ⟨va_Z.moved hvm h11, va_T.moved hvm h12⟩, va_Z.moved hvm h13, va_Zq.moved hvm h14⟩
/-- an exception that an earlier handler doesn't take -/
def ncL : List (String × String) := [("java/util/NoSuchElementException", "java/lang/IndexOutOfBoundsException"), ("java/util/NoSuchElementException", "java/lang/IllegalArgumentException"), ("java/lang/IllegalStateException", "java/lang/IllegalArgumentException"), ("java/lang/IllegalArgumentException", "java/lang/IndexOutOfBoundsException"), ("java/lang/IllegalStateException", "java/lang/IndexOutOfBoundsException"), ("java/lang/IndexOutOfBoundsException", "java/util/NoSuchElementException"), ("java/lang/IllegalStateException", "java/util/NoSuchElementException")]
/-- arrays of these classes' objects, and of arrays of int, as the tables have them -/
def aoL : List String := [RX8, RX6]
def aoA (U : State) : Prop := (Cond.arrayOver (.array .int)).before #[] U = true
theorem aoA.spec {U : State} (h : aoA U) : ∃ comp c k, U.vm.findClass (FieldType.array .int).toString = some comp ∧ (U.vm.classes.findIdx? fun x => match x.kind with | .array component _ => component == comp | _ => false) = some c ∧ U.vm.classes[c]? = some k ∧ k.kind = .array comp (.array .int) ∧ U.vm.findClass ("[" ++ (FieldType.array .int).toString) = some c := by
  have h : (Cond.arrayOver (.array .int)).holds #[] U none U [] = true := h
  simp only [Cond.holds, Cond.value, beq_iff_eq] at h
  cases hc : U.vm.findClass (FieldType.array .int).toString with
  | none => simp [hc] at h
  | some comp =>
    simp only [hc, Option.bind_some, Option.bind_eq_some_iff, Option.map_eq_some_iff] at h
    obtain ⟨c, hi, k, hk, hb⟩ := h
    obtain ⟨hlt, hp, -⟩ := Array.findIdx?_eq_some_iff_getElem.mp hi
    have hkk : U.vm.classes[c] = k := (Array.getElem?_eq_some_iff.mp hk).2
    rw [hkk] at hp
    cases hkind : k.kind with
    | array component ty =>
      rw [hkind] at hb hp
      simp at hb hp
      exact ⟨comp, c, k, rfl, hi, hk, by rw [hkind, hp, hb.1], hb.2⟩
    | _ => rw [hkind] at hb; simp at hb
theorem aoA.moved {u U : State} (hvm : u.vm.Alike U.vm) (h : aoA u) : aoA U := by
  obtain ⟨comp, c, k, h1, h2, h3, h4, h5⟩ := h.spec
  obtain ⟨k', hk', he⟩ := hvm.2.2 _ _ h3
  have hi : (U.vm.classes.findIdx? fun (x : Class) => match x.kind with | .array component _ => component == comp | _ => false) = some c := by
    have e1 := va_idx_bare U.vm comp
    have e2 := va_idx_bare u.vm comp
    have e3 : U.vm.bare = u.vm.bare := by first | exact hvm.bare_eq | exact hvm.bare_eq.symm
    rw [e3] at e1
    exact (e1.symm.trans e2).trans h2
  have hkind : k'.kind = .array comp (.array .int) := by rw [he]; exact h4
  have f1 : U.vm.findClass (FieldType.array .int).toString = some comp := by rw [hvm.findClass]; exact h1
  have f2 : U.vm.findClass ("[" ++ (FieldType.array .int).toString) = some c := by rw [hvm.findClass]; exact h5
  unfold aoA Cond.before Cond.holds
  simp only [Cond.value]
  rw [f1, Option.bind_some]
  refine (congrArg (fun o : Option Nat => (o.bind (fun c => (U.vm.classes[c]?).map fun (k : Class) => match k.kind with | .array _ ty => decide (ty = FieldType.array .int) && decide (U.vm.findClass ("[" ++ (FieldType.array .int).toString) = some c) | _ => false) == some true)) hi).trans ?_
  simp [hk', hkind, f2]
/-- what speaks of the machine's tables alone -/
def SX2 (κ : Nat → Nat) (U : State) : Prop := (∀ q ∈ ldL, vk_R RX10 q.1 q.2.1 (κ q.2.2) U) ∧ (∀ q ∈ lwL, vk_R RL q.1 q.2.1 (κ q.2.2) U) ∧ (∀ q ∈ ncL, va_Nc q.1 q.2 U) ∧ (∀ C ∈ aoL, va_AO C U) ∧ aoA U
theorem SX2.warm {κ : Nat → Nat} {s U : State} (hW : s.WarmedH U.vm) (h : SX2 κ s) : SX2 κ U := ⟨fun q hq => vk_R.warm hW (h.1 q hq), fun q hq => vk_R.warm hW (h.2.1 q hq), fun q hq => va_Nc.moved hW.alike (h.2.2.1 q hq), fun C hC => va_AO.moved hW.alike (h.2.2.2.1 C hC), aoA.moved hW.alike h.2.2.2.2⟩
theorem SX2.same {κ : Nat → Nat} {s U : State} (hv : U.vm = s.vm) (h : SX2 κ s) : SX2 κ U := ⟨fun q hq => vk_R.same hv (h.1 q hq), fun q hq => vk_R.same hv (h.2.1 q hq), fun q hq => va_Nc.moved (by rw [hv]; exact Vm.Alike.refl s.vm) (h.2.2.1 q hq), fun C hC => va_AO.moved (by rw [hv]; exact Vm.Alike.refl s.vm) (h.2.2.2.1 C hC), aoA.moved (by rw [hv]; exact Vm.Alike.refl s.vm) h.2.2.2.2⟩
def SX (κ : Nat → Nat) (A : Nat → Prop) (U : State) (H : Heap) : Prop := SX1 κ A U H ∧ SX2 κ U
def St (κ : Nat → Nat) (A : Nat → Prop) (U : State) (H : Heap) : Prop :=
  va_En RX3 "LBallastControl$Fault;" ["NONE", "NO_INDEX", "BAD_ARGUMENT", "BAD_STATE", "NO_ELEMENT"] [] κ A U H ∧ (∀ q ∈ NWm, va_Nw (.methodLinkNest q.1 q.2.1 q.2.2 RX10) U) ∧ (∀ q ∈ exL, ∃ sa, vk_R q.1 q.2.1 q.2.2 sa U) ∧ (∀ w ∈ FT, w.before #[] U = true) ∧
  vx_Zq Bundle.tN "UNASSIGNED_STACK" Bundle.steD A U H ∧ vx_Zq Bundle.tN "SUPPRESSED_SENTINEL" Bundle.listD A U H ∧ SX κ A U H
theorem St.kept {κ : Nat → Nat} {A : Nat → Prop} {U : State} {H H1 : Heap} (h : St κ A U H) (hq : ∀ a : Nat, a < H.size → ¬ A a → H1[a]? = H[a]?) : St κ A U H1 := ⟨h.1.kept hq, h.2.1, h.2.2.1, h.2.2.2.1, h.2.2.2.2.1.kept hq, h.2.2.2.2.2.1.kept hq, h.2.2.2.2.2.2.1.kept hq, h.2.2.2.2.2.2.2⟩
theorem St.narrow {κ : Nat → Nat} {A B : Nat → Prop} {U : State} {H : Heap} (h : St κ A U H) (hAB : ∀ q, B q → A q) : St κ B U H := ⟨h.1.narrow hAB, h.2.1, h.2.2.1, h.2.2.2.1, h.2.2.2.2.1.narrow hAB, h.2.2.2.2.2.1.narrow hAB, h.2.2.2.2.2.2.1.narrow hAB, h.2.2.2.2.2.2.2⟩
theorem FT_warm {s U : State} (hW : s.WarmedH U.vm) {w : Cond} (hw : w ∈ FT) (h : w.before #[] s = true) : w.before #[] U = true := by
  have h2 := (List.mem_filter.mp hw).2
  simp only [Bool.and_eq_true] at h2
  exact va_tabs h2.1 (rfl : (s.setVm U.vm).vm = U.vm) (Cond.before_shiftedFace (State.Shifted.of_warmed hW) w h2.2 h)
theorem St.warm {κ : Nat → Nat} {A : Nat → Prop} {s U : State} {H : Heap} (hW : s.WarmedH U.vm) (h : St κ A s H) : St κ A U H :=
  ⟨va_En.moved hW.alike h.1, fun q hq => va_Nw.warmM hW (h.2.1 q hq), fun q hq => by obtain ⟨sa, h9⟩ := h.2.2.1 q hq; exact ⟨sa, vk_R.warm hW h9⟩, fun w hw => FT_warm hW hw (h.2.2.2.1 w hw), vx_Zq.moved hW.alike h.2.2.2.2.1, vx_Zq.moved hW.alike h.2.2.2.2.2.1, SX1.moved hW.alike h.2.2.2.2.2.2.1, SX2.warm hW h.2.2.2.2.2.2.2⟩
theorem St.same {κ : Nat → Nat} {A : Nat → Prop} {s U : State} {H : Heap} (hv : U.vm = s.vm) (h : St κ A s H) : St κ A U H := by
  have ha : s.vm.Alike U.vm := by rw [hv]; exact Vm.Alike.refl s.vm
  exact ⟨va_En.moved ha h.1, fun q hq => va_Nw.same rfl hv.symm (h.2.1 q hq), fun q hq => by obtain ⟨sa, h9⟩ := h.2.2.1 q hq; exact ⟨sa, vk_R.same hv h9⟩,
    fun w hw => by
      have h2 := (List.mem_filter.mp hw).2
      simp only [Bool.and_eq_true] at h2
      exact va_tabs h2.1 hv.symm (h.2.2.2.1 w hw), vx_Zq.moved ha h.2.2.2.2.1, vx_Zq.moved ha h.2.2.2.2.2.1, SX1.moved ha h.2.2.2.2.2.2.1, SX2.same hv h.2.2.2.2.2.2.2⟩
theorem TS_probe1 : ∀ w ∈ vx_atS RX10 138 "java/lang/IllegalStateException" ["java/lang/RuntimeException", "java/lang/Exception"], vx_ot w = true := by decide +kernel
