/-! ===== A METHOD'S FRAME OVER THIS MACHINE: At, and its rows ===== -/
/-- p l e R s m args below meth c Q D κ A -/
abbrev CX : Type := Program × Launch × Env × Room × State × MethodId × Array Value × List Frame × Method × Code × (State → Prop) × va_G × (Nat → Nat) × (Nat → Prop)
abbrev cS (γ : CX) : State := γ.2.2.2.2.1
abbrev cM (γ : CX) : MethodId := γ.2.2.2.2.2.1
abbrev cA (γ : CX) : Array Value := γ.2.2.2.2.2.2.1
abbrev cY (γ : CX) : Method := γ.2.2.2.2.2.2.2.2.1
abbrev cC (γ : CX) : Code := γ.2.2.2.2.2.2.2.2.2.1
abbrev cQ (γ : CX) : State → Prop := γ.2.2.2.2.2.2.2.2.2.2.1
abbrev cD (γ : CX) : va_G := γ.2.2.2.2.2.2.2.2.2.2.2.1
abbrev cκ (γ : CX) : Nat → Nat := γ.2.2.2.2.2.2.2.2.2.2.2.2.1
abbrev cF (γ : CX) : Nat → Prop := γ.2.2.2.2.2.2.2.2.2.2.2.2.2
abbrev cR (γ : CX) : Room := γ.2.2.2.1
abbrev cW (γ : CX) (H : Heap) (locs : List Loc) (k n : Nat) (g : JFrame) : Prop := W γ.1 γ.2.1 γ.2.2.1 (cR γ) (cS γ) (cM γ) (cA γ) γ.2.2.2.2.2.2.2.1 (cY γ) (cC γ) H locs k n (cQ γ) g
def OK (γ : CX) (own : String) (cc : ByteArray) : Prop :=
  γ.1.tables.exec = Jvm.exec ∧ (cC γ).code = cc ∧ (cS γ).vm.findClass own = some (cM γ).cls ∧ (∀ w ∈ GT, w.before (cA γ) (cS γ) = true) ∧ va_K (cD γ) vwCl [] (cS γ) ∧ St (cκ γ) (cF γ) (cS γ) (cS γ).heap ∧ (∀ q : Nat, (cS γ).heap.size ≤ q → cF γ q) ∧ γ.2.1.stackTraces = false ∧ (cY γ).locks = false
abbrev trL (σ : Nat → Nat → Nat) (κ : Nat → Nat) (ls : List (Nat × AV)) : List (Nat × Value) := ls.map (fun q => (q.1, tr σ κ q.2))
def At (γ : CX) (σ : Nat → Nat → Nat) (k n pc : Nat) (ls : List (Nat × AV)) (st : List AV) (h : AHp) : Prop :=
  ∀ (η : Nat → Nat → Nat) (H : Heap) (locs : List Loc) (lsA : Array Slot), Rep (cD γ) σ η (cκ γ) h (cS γ) H (cF γ) → va_S (cF γ) (cS γ).heap H locs → lv_has lsA (cC γ).maxLocals (trL σ (cκ γ) ls) →
    cW γ H locs k n (F0 (cM γ) pc lsA (st.map (tr σ (cκ γ))))
section ATR
variable {γ : CX} {own : String} {cc : ByteArray} {σ : Nat → Nat → Nat} {k n pc : Nat} {ls : List (Nat × AV)} {st : List AV} {h : AHp}
theorem At.iadd (O : OK γ own cc) {x y : Int32} (d : decode cc pc = .ok (.iadd, 1)) (g : At γ σ k n (pc + 1) ls (vI (x + y) :: st) h) : At γ σ k n pc ls (vI y :: vI x :: st) h := fun η H locs lsA a b c => lv_iadd O.1 O.2.1 d (g η H locs lsA a b c)
theorem At.isub (O : OK γ own cc) {x y : Int32} (d : decode cc pc = .ok (.isub, 1)) (g : At γ σ k n (pc + 1) ls (vI (x - y) :: st) h) : At γ σ k n pc ls (vI y :: vI x :: st) h := fun η H locs lsA a b c => lv_isub O.1 O.2.1 d (g η H locs lsA a b c)
theorem At.imul (O : OK γ own cc) {x y : Int32} (d : decode cc pc = .ok (.imul, 1)) (g : At γ σ k n (pc + 1) ls (vI (x * y) :: st) h) : At γ σ k n pc ls (vI y :: vI x :: st) h := fun η H locs lsA a b c => lv_imul O.1 O.2.1 d (g η H locs lsA a b c)
theorem At.iand (O : OK γ own cc) {x y : Int32} (d : decode cc pc = .ok (.iand, 1)) (g : At γ σ k n (pc + 1) ls (vI (x &&& y) :: st) h) : At γ σ k n pc ls (vI y :: vI x :: st) h := fun η H locs lsA a b c => lv_iand O.1 O.2.1 d (g η H locs lsA a b c)
theorem At.ior (O : OK γ own cc) {x y : Int32} (d : decode cc pc = .ok (.ior, 1)) (g : At γ σ k n (pc + 1) ls (vI (x ||| y) :: st) h) : At γ σ k n pc ls (vI y :: vI x :: st) h := fun η H locs lsA a b c => lv_ior O.1 O.2.1 d (g η H locs lsA a b c)
theorem At.ishl (O : OK γ own cc) {x y : Int32} (d : decode cc pc = .ok (.ishl, 1)) (g : At γ σ k n (pc + 1) ls (vI (x <<< (y &&& 31)) :: st) h) : At γ σ k n pc ls (vI y :: vI x :: st) h := fun η H locs lsA a b c => lv_ishl O.1 O.2.1 d (g η H locs lsA a b c)
theorem At.ishr (O : OK γ own cc) {x y : Int32} (d : decode cc pc = .ok (.ishr, 1)) (g : At γ σ k n (pc + 1) ls (vI (x >>> (y &&& 31)) :: st) h) : At γ σ k n pc ls (vI y :: vI x :: st) h := fun η H locs lsA a b c => lv_ishr O.1 O.2.1 d (g η H locs lsA a b c)
theorem At.idiv (O : OK γ own cc) {x y : Int32} (d : decode cc pc = .ok (.idiv, 1)) (hy : ¬ y = 0) (g : At γ σ k n (pc + 1) ls (vI (x / y) :: st) h) : At γ σ k n pc ls (vI y :: vI x :: st) h := fun η H locs lsA a b c => lv_idiv O.1 O.2.1 d hy (g η H locs lsA a b c)
theorem At.irem (O : OK γ own cc) {x y : Int32} (d : decode cc pc = .ok (.irem, 1)) (hy : ¬ y = 0) (g : At γ σ k n (pc + 1) ls (vI (x - x / y * y) :: st) h) : At γ σ k n pc ls (vI y :: vI x :: st) h := fun η H locs lsA a b c => lv_irem O.1 O.2.1 d hy (g η H locs lsA a b c)
theorem At.ineg (O : OK γ own cc) {x : Int32} (d : decode cc pc = .ok (.ineg, 1)) (g : At γ σ k n (pc + 1) ls (vI (-x) :: st) h) : At γ σ k n pc ls (vI x :: st) h := fun η H locs lsA a b c => lv_ineg O.1 O.2.1 d (g η H locs lsA a b c)
theorem At.i2l (O : OK γ own cc) {x : Int32} (d : decode cc pc = .ok (.i2l, 1)) (g : At γ σ k n (pc + 1) ls (vL x.toInt64 :: st) h) : At γ σ k n pc ls (vI x :: st) h := fun η H locs lsA a b c => lv_i2l O.1 O.2.1 d rfl (g η H locs lsA a b c)
theorem At.i2c (O : OK γ own cc) {x : Int32} (d : decode cc pc = .ok (.i2c, 1)) (g : At γ σ k n (pc + 1) ls (vI (x.toUInt32 % 65536).toInt32 :: st) h) : At γ σ k n pc ls (vI x :: st) h := fun η H locs lsA a b c => lv_i2c O.1 O.2.1 d rfl (g η H locs lsA a b c)
theorem At.i2b (O : OK γ own cc) {x : Int32} (d : decode cc pc = .ok (.i2b, 1)) (g : At γ σ k n (pc + 1) ls (vI x.toInt8.toInt32 :: st) h) : At γ σ k n pc ls (vI x :: st) h := fun η H locs lsA a b c => lv_i2b O.1 O.2.1 d rfl (g η H locs lsA a b c)
theorem At.ladd (O : OK γ own cc) {x y : Int64} (d : decode cc pc = .ok (.ladd, 1)) (g : At γ σ k n (pc + 1) ls (vL (x + y) :: st) h) : At γ σ k n pc ls (vL y :: vL x :: st) h := fun η H locs lsA a b c => lv_ladd O.1 O.2.1 d (g η H locs lsA a b c)
theorem At.lcmp (O : OK γ own cc) {x y : Int64} (d : decode cc pc = .ok (.lcmp, 1)) (g : At γ σ k n (pc + 1) ls (vI (lg_cmp x y) :: st) h) : At γ σ k n pc ls (vL y :: vL x :: st) h := fun η H locs lsA a b c => W.lcmp O.1 O.2.1 d (g η H locs lsA a b c)
theorem At.iconst (O : OK γ own cc) {i : Int} {x : Int32} (d : decode cc pc = .ok (.iconst i, 1)) (hx : Int32.ofInt i = x) (g : At γ σ k n (pc + 1) ls (vI x :: st) h) : At γ σ k n pc ls st h := fun η H locs lsA a b c => lv_iconst O.1 O.2.1 d hx (g η H locs lsA a b c)
theorem At.bipush (O : OK γ own cc) {i : Int} {x : Int32} (d : decode cc pc = .ok (.bipush i, 2)) (hx : (Int8.ofInt i).toInt32 = x) (g : At γ σ k n (pc + 2) ls (vI x :: st) h) : At γ σ k n pc ls st h := fun η H locs lsA a b c => lv_bipush O.1 O.2.1 d hx (g η H locs lsA a b c)
theorem At.sipush (O : OK γ own cc) {i : Int} {x : Int32} (d : decode cc pc = .ok (.sipush i, 3)) (hx : (Int16.ofInt i).toInt32 = x) (g : At γ σ k n (pc + 3) ls (vI x :: st) h) : At γ σ k n pc ls st h := fun η H locs lsA a b c => lv_sipush O.1 O.2.1 d hx (g η H locs lsA a b c)
theorem At.lconst (O : OK γ own cc) {i : Fin 2} {x : Int64} (d : decode cc pc = .ok (.lconst i, 1)) (hx : Int64.ofNat (i : Nat) = x) (g : At γ σ k n (pc + 1) ls (vL x :: st) h) : At γ σ k n pc ls st h := fun η H locs lsA a b c => lv_lconst O.1 O.2.1 d hx (g η H locs lsA a b c)
theorem At.goto (O : OK γ own cc) {off : Int} {t : Nat} (d : decode cc pc = .ok (.goto off, 3)) (ht : (pc : Int) + off = (t : Int)) (g : At γ σ k n t ls st h) : At γ σ k n pc ls st h := fun η H locs lsA a b c => lv_goto O.1 O.2.1 d ht (g η H locs lsA a b c)
theorem tr_cat1 {v : AV} {κ : Nat → Nat} (hv : ∀ x, v ≠ vL x) (hv2 : ∀ x, v ≠ vD x) : (tr σ κ v).category = 1 := by
  rcases v with v | q | j
  · cases v with
    | long x => exact absurd rfl (hv x)
    | double x => exact absurd rfl (hv2 x)
    | _ => rfl
  · rfl
  · rfl
theorem At.dup (O : OK γ own cc) {v : AV} (d : decode cc pc = .ok (.dup, 1)) (hv : (tr σ (cκ γ) v).category = 1) (g : At γ σ k n (pc + 1) ls (v :: v :: st) h) : At γ σ k n pc ls (v :: st) h := fun η H locs lsA a b c => lv_dup O.1 O.2.1 d hv (g η H locs lsA a b c)
theorem At.pop (O : OK γ own cc) {v : AV} (d : decode cc pc = .ok (.pop, 1)) (hv : (tr σ (cκ γ) v).category = 1) (g : At γ σ k n (pc + 1) ls st h) : At γ σ k n pc ls (v :: st) h := fun η H locs lsA a b c => lv_pop O.1 O.2.1 d hv (g η H locs lsA a b c)
theorem At.dup_x1 (O : OK γ own cc) {v w : AV} (d : decode cc pc = .ok (.dup_x1, 1)) (hv : (tr σ (cκ γ) v).category = 1) (hw : (tr σ (cκ γ) w).category = 1) (g : At γ σ k n (pc + 1) ls (v :: w :: v :: st) h) : At γ σ k n pc ls (v :: w :: st) h := fun η H locs lsA a b c => lv_dup_x1 O.1 O.2.1 d hv hw (g η H locs lsA a b c)
theorem At.dup2 (O : OK γ own cc) {v w : AV} (d : decode cc pc = .ok (.dup2, 1)) (hv : (tr σ (cκ γ) v).category = 1) (hw : (tr σ (cκ γ) w).category = 1) (g : At γ σ k n (pc + 1) ls (v :: w :: v :: w :: st) h) : At γ σ k n pc ls (v :: w :: st) h := fun η H locs lsA a b c => lv_dup2_11 O.1 O.2.1 d hv hw (g η H locs lsA a b c)
/-- branches -/
theorem At.ifc (O : OK γ own cc) {cd : Jvm.ClassFile.Cond} {off : Int} {t : Nat} {x : Int32} (d : decode cc pc = .ok (.ifCond cd off, 3)) (ht : (pc : Int) + off = (t : Int)) (P : Prop)
    (hP : P = (match cd with | .eq => x = 0 | .ne => ¬ x = 0 | .lt => x < 0 | .ge => 0 ≤ x | .gt => 0 < x | .le => x ≤ 0)) (g : P → At γ σ k n t ls st h) (f : ¬ P → At γ σ k n (pc + 3) ls st h) : At γ σ k n pc ls (vI x :: st) h := by
  subst hP
  cases cd with
  | eq => exact fun η H locs lsA a b c => lv_if_eq O.1 O.2.1 d ht (fun q => g q η H locs lsA a b c) (fun q => f q η H locs lsA a b c)
  | ne => exact fun η H locs lsA a b c => lv_if_ne O.1 O.2.1 d ht (fun q => g q η H locs lsA a b c) (fun q => f (fun z => z q) η H locs lsA a b c)
  | lt => exact fun η H locs lsA a b c => lv_if_lt O.1 O.2.1 d ht (fun q => g q η H locs lsA a b c) (fun q => f q η H locs lsA a b c)
  | ge => exact fun η H locs lsA a b c => lv_if_ge O.1 O.2.1 d ht (fun q => g q η H locs lsA a b c) (fun q => f q η H locs lsA a b c)
  | gt => exact fun η H locs lsA a b c => lv_if_gt O.1 O.2.1 d ht (fun q => g q η H locs lsA a b c) (fun q => f q η H locs lsA a b c)
  | le => exact fun η H locs lsA a b c => lv_if_le O.1 O.2.1 d ht (fun q => g q η H locs lsA a b c) (fun q => f q η H locs lsA a b c)
theorem At.icmp (O : OK γ own cc) {cd : Jvm.ClassFile.Cond} {off : Int} {t : Nat} {x y : Int32} (d : decode cc pc = .ok (.if_icmp cd off, 3)) (ht : (pc : Int) + off = (t : Int)) (P : Prop)
    (hP : P = (match cd with | .eq => x = y | .ne => ¬ x = y | .lt => x < y | .ge => y ≤ x | .gt => y < x | .le => x ≤ y)) (g : P → At γ σ k n t ls st h) (f : ¬ P → At γ σ k n (pc + 3) ls st h) : At γ σ k n pc ls (vI y :: vI x :: st) h := by
  subst hP
  cases cd with
  | eq => exact fun η H locs lsA a b c => lv_icmp_eq O.1 O.2.1 d ht (fun q => g q η H locs lsA a b c) (fun q => f q η H locs lsA a b c)
  | ne => exact fun η H locs lsA a b c => lv_icmp_ne O.1 O.2.1 d ht (fun q => g q η H locs lsA a b c) (fun q => f (fun z => z q) η H locs lsA a b c)
  | lt => exact fun η H locs lsA a b c => lv_icmp_lt O.1 O.2.1 d ht (fun q => g q η H locs lsA a b c) (fun q => f q η H locs lsA a b c)
  | ge => exact fun η H locs lsA a b c => lv_icmp_ge O.1 O.2.1 d ht (fun q => g q η H locs lsA a b c) (fun q => f q η H locs lsA a b c)
  | gt => exact fun η H locs lsA a b c => lv_icmp_gt O.1 O.2.1 d ht (fun q => g q η H locs lsA a b c) (fun q => f q η H locs lsA a b c)
  | le => exact fun η H locs lsA a b c => lv_icmp_le O.1 O.2.1 d ht (fun q => g q η H locs lsA a b c) (fun q => f q η H locs lsA a b c)
end ATR
