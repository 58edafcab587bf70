/-! ===== A RUN OF INSTRUCTIONS AS ONE PREDICATE ===== -/
/-- pc, instruction, two numbers (a jump's end; an object's class and field), a constant -/
abbrev IE : Type := Nat × Instr × Nat × Nat × Int32
def hnK {α : Type} : List α → Nat → (α → Prop) → Prop
  | [], _, _ => False
  | x :: _, 0, K => K x
  | _ :: l, n + 1, K => hnK l n K
def hpK {α : Type} : List α → Nat → α → (List α → Prop) → Prop
  | [], _, _, _ => False
  | _ :: l, 0, y, K => K (y :: l)
  | x :: l, n + 1, y, K => hpK l n y (fun l2 => K (x :: l2))
def hgK (h : AHp) (r o : Nat) (K : ACell → Prop) : Prop := hnK h r (fun g => hnK g o K)
def hsK (h : AHp) (r o : Nat) (c : ACell) (K : AHp → Prop) : Prop := hnK h r (fun g => hpK g o c (fun g2 => hpK h r g2 K))
def lgK : List (Nat × AV) → Nat → (AV → Prop) → Prop
  | [], _, _ => False
  | (m, w) :: l, i, K => match Nat.beq m i with
    | true => K w
    | false => lgK l i K
def lsK1 : List (Nat × AV) → Nat → AV → (List (Nat × AV) → Prop) → Prop
  | [], i, v, K => K [(i, v)]
  | (m, w) :: l, i, v, K => match Nat.beq m i with
    | true => K ((m, v) :: l)
    | false => lsK1 l i v (fun l2 => K ((m, w) :: l2))
def lsK (ls : List (Nat × AV)) (i : Nat) (v : AV) (mL : Nat) (K : List (Nat × AV) → Prop) : Prop := match lvok ls i with
  | true => match Nat.blt i mL with
    | true => lsK1 ls i v K
    | false => False
  | false => False
def pkK : List Nat → List (Nat × AV) → (List (Nat × AV) → Prop) → Prop
  | [], _, K => K []
  | i :: is, ls, K => lgK ls i (fun v => pkK is ls (fun l2 => K ((i, v) :: l2)))
theorem hnK_iff {α : Type} : ∀ {l : List α} {n : Nat} {K : α → Prop}, hnK l n K → ∃ x, hnth l n = some x ∧ K x
  | [], _, _, h => False.elim h
  | x :: _, 0, _, h => ⟨x, rfl, h⟩
  | _ :: l, n + 1, _, h => hnK_iff (l := l) h
theorem hpK_iff {α : Type} : ∀ {l : List α} {n : Nat} {y : α} {K : List α → Prop}, hpK l n y K → K (hput l n y)
  | [], _, _, _, h => False.elim h
  | _ :: _, 0, _, _, h => h
  | _ :: l, n + 1, _, _, h => hpK_iff (l := l) h
theorem hgK_iff {h : AHp} {r o : Nat} {K : ACell → Prop} (e : hgK h r o K) : ∃ c, hget h r o = some c ∧ K c := by
  obtain ⟨g, h1, h2⟩ := hnK_iff e
  obtain ⟨c, h3, h4⟩ := hnK_iff h2
  exact ⟨c, hget_of h1 h3, h4⟩
theorem hsK_iff {h : AHp} {r o : Nat} {c : ACell} {K : AHp → Prop} (e : hsK h r o c K) : K (hset h r o c) := by
  obtain ⟨g, h1, h2⟩ := hnK_iff e
  have h3 := hpK_iff (hpK_iff h2)
  unfold hset
  rw [h1]
  exact h3
theorem lgK_iff : ∀ {ls : List (Nat × AV)} {i : Nat} {K : AV → Prop}, lgK ls i K → ∃ v, lvget ls i = some v ∧ K v
  | [], _, _, h => False.elim h
  | (m, w) :: l, i, K, h => by
    unfold lgK at h
    unfold lvget
    cases e : Nat.beq m i with
    | true =>
      have h : (match Nat.beq m i with | true => K w | false => lgK l i K) := h
      rw [e] at h
      exact ⟨w, rfl, h⟩
    | false =>
      have h : (match Nat.beq m i with | true => K w | false => lgK l i K) := h
      rw [e] at h
      exact lgK_iff h
theorem lsK1_iff : ∀ {ls : List (Nat × AV)} {i : Nat} {v : AV} {K : List (Nat × AV) → Prop}, lsK1 ls i v K → K (lvset ls i v)
  | [], _, _, _, h => h
  | (m, w) :: l, i, v, K, h => by
    unfold lsK1 at h
    unfold lvset
    have h : (match Nat.beq m i with | true => K ((m, v) :: l) | false => lsK1 l i v (fun l2 => K ((m, w) :: l2))) := h
    cases e : Nat.beq m i with
    | true =>
      rw [e] at h
      exact h
    | false =>
      rw [e] at h
      exact lsK1_iff h
theorem lsK_iff {ls : List (Nat × AV)} {i mL : Nat} {v : AV} {K : List (Nat × AV) → Prop} (h : lsK ls i v mL K) : lvok ls i = true ∧ i < mL ∧ K (lvset ls i v) := by
  unfold lsK at h
  cases e : lvok ls i with
  | false => rw [e] at h; exact False.elim h
  | true =>
    rw [e] at h
    have h : (match Nat.blt i mL with | true => lsK1 ls i v K | false => False) := h
    cases e2 : Nat.blt i mL with
    | false => rw [e2] at h; exact False.elim h
    | true =>
      rw [e2] at h
      exact ⟨rfl, Nat.le_of_ble_eq_true e2, lsK1_iff h⟩
theorem pkK_iff : ∀ {is : List Nat} {ls : List (Nat × AV)} {K : List (Nat × AV) → Prop}, pkK is ls K → ∃ l2, K l2 ∧ ∀ q ∈ l2, q ∈ ls
  | [], _, _, h => ⟨[], h, fun _ hq => by cases hq⟩
  | i :: is, ls, K, h => by
    obtain ⟨v, h1, h2⟩ := lgK_iff h
    obtain ⟨l2, h3, h4⟩ := pkK_iff h2
    refine ⟨(i, v) :: l2, h3, fun q hq => ?_⟩
    rcases List.mem_cons.mp hq with rfl | hq
    · exact lvget_mem h1
    · exact h4 q hq
abbrev LK : Type := List (Nat × AV) → List AV → AHp → Prop
def brK (c : Jvm.ClassFile.Cond) (x y : Int32) (A B : Prop) : Prop := match c with
  | .eq => (x = y → A) ∧ (¬ x = y → B)
  | .ne => (x = y → B) ∧ (¬ x = y → A)
  | .lt => (x < y → A) ∧ (¬ x < y → B)
  | .ge => (y ≤ x → A) ∧ (¬ y ≤ x → B)
  | .gt => (y < x → A) ∧ (¬ y < x → B)
  | .le => (x ≤ y → A) ∧ (¬ x ≤ y → B)
def br0 (c : Jvm.ClassFile.Cond) (x : Int32) (A B : Prop) : Prop := match c with
  | .eq => (x = 0 → A) ∧ (¬ x = 0 → B)
  | .ne => (x = 0 → B) ∧ (¬ x = 0 → A)
  | .lt => (x < 0 → A) ∧ (¬ x < 0 → B)
  | .ge => (0 ≤ x → A) ∧ (¬ 0 ≤ x → B)
  | .gt => (0 < x → A) ∧ (¬ 0 < x → B)
  | .le => (x ≤ 0 → A) ∧ (¬ x ≤ 0 → B)
/-- one instruction: C where this row doesn't know it, J at a jump, K behind it -/
def stI (R : Option AV → AHp → Prop) (rt : Option FieldType) (mL : Nat) (i : Instr) (a b : Nat) (x : Int32) (C : LK) (J : LK) (K : LK) (ls : List (Nat × AV)) (st : List AV) (h : AHp) : Prop := match i with
  | .iload j => lgK ls j (fun v => match v with | .inl (.int z) => K ls (vI z :: st) h | _ => False)
  | .iload_n j => lgK ls j (fun v => match v with | .inl (.int z) => K ls (vI z :: st) h | _ => False)
  | .aload j => lgK ls j (fun v => match isRf v with | true => K ls (v :: st) h | false => False)
  | .aload_n j => lgK ls j (fun v => match isRf v with | true => K ls (v :: st) h | false => False)
  | .istore j => match st with | .inl (.int z) :: st => lsK ls j (vI z) mL (fun ls => K ls st h) | _ => False
  | .istore_n j => match st with | .inl (.int z) :: st => lsK ls j (vI z) mL (fun ls => K ls st h) | _ => False
  | .astore j => match st with | v :: st => (match isRf v with | true => lsK ls j v mL (fun ls => K ls st h) | false => False) | _ => False
  | .astore_n j => match st with | v :: st => (match isRf v with | true => lsK ls j v mL (fun ls => K ls st h) | false => False) | _ => False
  | .iinc j _ => lgK ls j (fun v => match v with | .inl (.int z) => lsK ls j (vI (z + x)) mL (fun ls => K ls st h) | _ => False)
  | .iconst _ => K ls (vI x :: st) h
  | .bipush _ => K ls (vI x :: st) h
  | .sipush _ => K ls (vI x :: st) h
  | .lconst j => K ls (vL (Int64.ofNat (j : Nat)) :: st) h
  | .iadd => match st with | .inl (.int y) :: .inl (.int z) :: st => K ls (vI (z + y) :: st) h | _ => False
  | .isub => match st with | .inl (.int y) :: .inl (.int z) :: st => K ls (vI (z - y) :: st) h | _ => False
  | .imul => match st with | .inl (.int y) :: .inl (.int z) :: st => K ls (vI (z * y) :: st) h | _ => False
  | .idiv => match st with | .inl (.int y) :: .inl (.int z) :: st => ¬ y = 0 ∧ K ls (vI (z / y) :: st) h | _ => False
  | .irem => match st with | .inl (.int y) :: .inl (.int z) :: st => ¬ y = 0 ∧ K ls (vI (z - z / y * y) :: st) h | _ => False
  | .ineg => match st with | .inl (.int z) :: st => K ls (vI (-z) :: st) h | _ => False
  | .iand => match st with | .inl (.int y) :: .inl (.int z) :: st => K ls (vI (z &&& y) :: st) h | _ => False
  | .ior => match st with | .inl (.int y) :: .inl (.int z) :: st => K ls (vI (z ||| y) :: st) h | _ => False
  | .ishl => match st with | .inl (.int y) :: .inl (.int z) :: st => K ls (vI (z <<< (y &&& 31)) :: st) h | _ => False
  | .ishr => match st with | .inl (.int y) :: .inl (.int z) :: st => K ls (vI (z >>> (y &&& 31)) :: st) h | _ => False
  | .i2l => match st with | .inl (.int z) :: st => K ls (vL z.toInt64 :: st) h | _ => False
  | .i2c => match st with | .inl (.int z) :: st => K ls (vI (z.toUInt32 % 65536).toInt32 :: st) h | _ => False
  | .i2b => match st with | .inl (.int z) :: st => K ls (vI z.toInt8.toInt32 :: st) h | _ => False
  | .ladd => match st with | .inl (.long y) :: .inl (.long z) :: st => K ls (vL (z + y) :: st) h | _ => False
  | .lcmp => match st with | .inl (.long y) :: .inl (.long z) :: st => K ls (vI (lg_cmp z y) :: st) h | _ => False
  | .dup => match st with | v :: st => (match is2 v with | true => False | false => K ls (v :: v :: st) h) | _ => False
  | .pop => match st with | v :: st => (match is2 v with | true => False | false => K ls st h) | _ => False
  | .dup_x1 => match st with | v :: w :: st => (match is2 v, is2 w with | false, false => K ls (v :: w :: v :: st) h | _, _ => False) | _ => False
  | .dup2 => match st with | v :: w :: st => (match is2 v, is2 w with | false, false => K ls (v :: w :: v :: w :: st) h | _, _ => False) | _ => False
  | .goto _ => J ls st h
  | .ifCond c _ => match st with | .inl (.int z) :: st => br0 c z (J ls st h) (K ls st h) | _ => False
  | .if_icmp c _ => match st with | .inl (.int y) :: .inl (.int z) :: st => brK c z y (J ls st h) (K ls st h) | _ => False
  | .getfield _ => match Nat.beq a 999 with
    | true => C ls st h
    | false => match st with
      | .inr (.inl q) :: st => hgK h q.1 q.2 (fun c => match c with | .inr (.inl o) => (match Nat.beq o.1 a with | true => hnK o.2 b (fun v => K ls (v :: st) h) | false => False) | _ => False)
      | _ => False
  | .putfield _ => match st with
    | v :: .inr (.inl q) :: st => hgK h q.1 q.2 (fun c => match c with | .inr (.inl o) => (match Nat.beq o.1 a with | true => okT (tyOf a b) v ∧ hpK o.2 b v (fun fs => hsK h q.1 q.2 (aO a fs) (fun h => K ls st h)) | false => False) | _ => False)
    | _ => False
  | .iaload => match st with | .inl (.int z) :: .inr (.inl q) :: st => hgK h q.1 q.2 (fun c => match c with | .inl (.int, N, .inl f) => vp_in z N ∧ K ls (vI (f z.toNatClampNeg) :: st) h | _ => False) | _ => C ls st h
  | .baload => match st with | .inl (.int z) :: .inr (.inl q) :: st => hgK h q.1 q.2 (fun c => match c with | .inl (.boolean, N, .inl f) => vp_in z N ∧ K ls (vI (f z.toNatClampNeg) :: st) h | .inl (.byte, N, .inl f) => vp_in z N ∧ K ls (vI (f z.toNatClampNeg) :: st) h | _ => False) | _ => C ls st h
  | .caload => match st with | .inl (.int z) :: .inr (.inl q) :: st => hgK h q.1 q.2 (fun c => match c with | .inl (.char, N, .inl f) => vp_in z N ∧ K ls (vI (f z.toNatClampNeg) :: st) h | _ => False) | _ => False
  | .laload => match st with | .inl (.int z) :: .inr (.inl q) :: st => hgK h q.1 q.2 (fun c => match c with | .inl (.long, N, .inr (.inl f)) => vp_in z N ∧ K ls (vL (f z.toNatClampNeg) :: st) h | _ => False) | _ => False
  | .daload => match st with | .inl (.int z) :: .inr (.inl q) :: st => hgK h q.1 q.2 (fun c => match c with | .inl (.double, N, .inr (.inr (.inl f))) => vp_in z N ∧ K ls (vD (f z.toNatClampNeg) :: st) h | _ => False) | _ => False
  | .aaload => match st with | .inl (.int z) :: .inr (.inl q) :: st => hgK h q.1 q.2 (fun c => match c with | .inl (ty, N, .inr (.inr (.inr f))) => (match ty.isReference with | true => vp_in z N ∧ K ls ((hnth f z.toNatClampNeg).getD vN :: st) h | false => False) | _ => False) | _ => C ls st h
  | .iastore => match st with | .inl (.int y) :: .inl (.int z) :: .inr (.inl q) :: st => hgK h q.1 q.2 (fun c => match c with | .inl (.int, N, .inl f) => vp_in z N ∧ hsK h q.1 q.2 (aI N (upd f z.toNatClampNeg y)) (fun h => K ls st h) | _ => False) | _ => False
  | .bastore => match st with | .inl (.int y) :: .inl (.int z) :: .inr (.inl q) :: st => hgK h q.1 q.2 (fun c => match c with | .inl (.boolean, N, .inl f) => vp_in z N ∧ (y = 0 ∨ y = 1) ∧ hsK h q.1 q.2 (.inl (.boolean, N, .inl (upd f z.toNatClampNeg y))) (fun h => K ls st h) | .inl (.byte, N, .inl f) => vp_in z N ∧ hsK h q.1 q.2 (.inl (.byte, N, .inl (upd f z.toNatClampNeg y.toInt8.toInt32))) (fun h => K ls st h) | _ => False) | _ => False
  | .castore => match st with | .inl (.int y) :: .inl (.int z) :: .inr (.inl q) :: st => hgK h q.1 q.2 (fun c => match c with | .inl (.char, N, .inl f) => vp_in z N ∧ hsK h q.1 q.2 (.inl (.char, N, .inl (upd f z.toNatClampNeg y.toUInt32.toUInt16.toUInt32.toInt32))) (fun h => K ls st h) | _ => False) | _ => False
  | .lastore => match st with | .inl (.long y) :: .inl (.int z) :: .inr (.inl q) :: st => hgK h q.1 q.2 (fun c => match c with | .inl (.long, N, .inr (.inl f)) => vp_in z N ∧ hsK h q.1 q.2 (.inl (.long, N, .inr (.inl (vp_updL f z.toNatClampNeg y)))) (fun h => K ls st h) | _ => False) | _ => False
  | .dastore => match st with | .inl (.double y) :: .inl (.int z) :: .inr (.inl q) :: st => hgK h q.1 q.2 (fun c => match c with | .inl (.double, N, .inr (.inr (.inl f))) => vp_in z N ∧ hsK h q.1 q.2 (.inl (.double, N, .inr (.inr (.inl (vf_upd f z.toNatClampNeg y))))) (fun h => K ls st h) | _ => False) | _ => False
  | .arraylength => match st with | .inr (.inl q) :: st => hgK h q.1 q.2 (fun c => match c with | .inl (_, N, _) => K ls (vI (nI N) :: st) h | _ => False) | _ => C ls st h
  | .ireturn => match st with | [.inl (.int z)] => (match rt with | some .int => R (some (vI z)) h | some .boolean => (z = 0 ∨ z = 1) ∧ R (some (vI z)) h | some .char => narrow .char (.int z) = .int z ∧ R (some (vI z)) h | _ => False) | _ => False
  | .lreturn => match st with | [.inl (.long z)] => (match rt with | some .long => R (some (vL z)) h | _ => False) | _ => False
  | .areturn => match st with | [v] => (match isRf v with | true => (match rt with | some (.object _) => R (some v) h | some (.array _) => R (some v) h | _ => False) | false => False) | _ => False
  | .return_ => match st with | [] => (match rt with | none => R none h | _ => False) | _ => False
  | _ => C ls st h
def ctK : List (Nat × List Nat) → Nat → Option (List Nat)
  | [], _ => none
  | q :: l, t => match Nat.beq q.1 t with
    | true => some q.2
    | false => ctK l t
def seek : List IE → Nat → List IE
  | [], _ => []
  | e :: l, t => match Nat.beq e.1 t with
    | true => e :: l
    | false => seek l t
/-- from the head of the list on: at most f instructions -/
def wp (γ : CX) (σ : Nat → Nat → Nat) (k n : Nat) (R : Option AV → AHp → Prop) (rt : Option FieldType) (mL : Nat) (ct : List (Nat × List Nat)) (code : List IE) : Nat → List IE → LK
  | 0, _, _, _, _ => False
  | _ + 1, [], _, _, _ => False
  | f + 1, (pc, i, a, b, x) :: rest, ls, st, h => stI R rt mL i a b x (fun ls st h => At γ σ k n pc ls st h)
      (fun ls st h => match ctK ct a with
        | some ks => pkK ks ls (fun ls => At γ σ k n a ls st h)
        | none => wp γ σ k n R rt mL ct code f (seek code a) ls st h)
      (fun ls st h => match rest with
        | [] => False
        | (pc2, _) :: _ => (match ctK ct pc2 with
          | some ks => pkK ks ls (fun ls => At γ σ k n pc2 ls st h)
          | none => wp γ σ k n R rt mL ct code f rest ls st h)) ls st h
