/-! ===== the run is the machine's ===== -/
def okX (ini : Bool) (o : Nat) (e : IE) : Bool := match e.2.1 with
  | .ifCond _ off => (e.1 : Int) + off == (e.2.2.1 : Int)
  | .if_icmp _ off => (e.1 : Int) + off == (e.2.2.1 : Int)
  | .goto off => (e.1 : Int) + off == (e.2.2.1 : Int)
  | .iconst i => Int32.ofInt i == e.2.2.2.2
  | .bipush i => (Int8.ofInt i).toInt32 == e.2.2.2.2
  | .sipush i => (Int16.ofInt i).toInt32 == e.2.2.2.2
  | .iinc _ c => Int32.ofInt c == e.2.2.2.2
  | .getfield ix => Nat.beq e.2.2.1 999 || FLq.any (fun q => q.1 == o && q.2.1 == ix && q.2.2.1 == e.2.2.1 && q.2.2.2 == e.2.2.2.1)
  | .putfield ix => FLq.any (fun q => q.1 == o && q.2.1 == ix && q.2.2.1 == e.2.2.1 && q.2.2.2 == e.2.2.2.1) && (match vwCl[e.2.2.1]? with | some z => (z.2.1 e.2.2.2.1).2.2.2 == false || (ini && (z.2.1 e.2.2.2.1).1 == cn o) | none => false)
  | _ => true
def iln : Instr → Nat
  | .iload _ => 2 | .aload _ => 2 | .istore _ => 2 | .astore _ => 2 | .iinc _ _ => 3 | .bipush _ => 2 | .sipush _ => 3 | .goto _ => 3 | .ifCond _ _ => 3 | .if_icmp _ _ => 3 | .getfield _ => 3 | .putfield _ => 3
  | _ => 1
/-- the instruction stands there, its length is that of its kind where the run goes on behind it -/
def okD (cc : ByteArray) (e : IE) : Bool := match decode cc e.1 with
  | .ok (i, len) => decide (i = e.2.1) && (match e.2.1 with
    | .invokevirtual _ => len == 3 | .invokestatic _ => len == 3 | .invokespecial _ => len == 3 | .getstatic _ => len == 3 | .new _ => len == 3 | .ldc _ => len == 2 | .ldc_w _ => len == 3 | .anewarray _ => len == 3 | .newarray _ => len == 2 | .if_acmp _ _ => len == 3 | .ifnull _ => len == 3 | .ifnonnull _ => len == 3
    | .tableswitch .. => true | .lookupswitch .. => true | .multianewarray .. => true | .dload _ => len == 2 | .fload _ => len == 2 | .dstore _ => len == 2 | .fstore _ => len == 2
    | j => len == iln j)
  | _ => false
def nonK : Instr → Bool
  | .goto _ => true | .ireturn => true | .lreturn => true | .areturn => true | .return_ => true | .athrow => true | .invokevirtual _ => true | .invokestatic _ => true | .invokespecial _ => true | .getstatic _ => true | .new _ => true | .ldc _ => true | .ldc_w _ => true | .anewarray _ => true | .newarray _ => true | .if_acmp _ _ => true | .ifnull _ => true | .ifnonnull _ => true | .tableswitch .. => true | .lookupswitch .. => true | .multianewarray .. => true | .dload _ => true | .fload _ => true | .dstore _ => true | .fstore _ => true
  | _ => false
def okL (ini : Bool) (o : Nat) (cc : ByteArray) : List IE → Bool
  | [] => true
  | e :: l => okD cc e && okX ini o e && (match l with | [] => true | e2 :: _ => nonK e.2.1 || e2.1 == e.1 + iln e.2.1) && okL ini o cc l
theorem okL_tail {ini : Bool} {o : Nat} {cc : ByteArray} {e : IE} {l : List IE} (h : okL ini o cc (e :: l) = true) : okL ini o cc l = true := by
  unfold okL at h
  simp only [Bool.and_eq_true] at h
  exact h.2
theorem seek_ok {ini : Bool} {o : Nat} {cc : ByteArray} {t : Nat} : ∀ {l : List IE}, okL ini o cc l = true → okL ini o cc (seek l t) = true ∧ ∀ e l2, seek l t = e :: l2 → e.1 = t
  | [], _ => ⟨rfl, fun _ _ h => by cases h⟩
  | e :: l, h => by
    unfold seek
    cases he : Nat.beq e.1 t with
    | true =>
      refine ⟨h, fun e2 l2 h2 => ?_⟩
      cases h2
      exact Nat.eq_of_beq_eq_true he
    | false => exact seek_ok (okL_tail h)
/-- an entry where a call, a throw or another row of its own stands -/
def dec_of (l : List IE) (pc : Nat) : Option Instr := match seek l pc with
  | [] => none
  | e :: _ => some e.2.1
theorem okL_dec {ini : Bool} {o : Nat} {cc : ByteArray} {l : List IE} (h : okL ini o cc l = true) {pc : Nat} {i : Instr} (hd : dec_of l pc = some i) : ∃ e : IE, e.1 = pc ∧ e.2.1 = i ∧ okD cc e = true ∧ okX ini o e = true := by
  unfold dec_of at hd
  obtain ⟨h1, h2⟩ := seek_ok (t := pc) h
  cases hs : seek l pc with
  | nil => rw [hs] at hd; cases hd
  | cons e l2 =>
    rw [hs] at hd h1
    cases hd
    unfold okL at h1
    simp only [Bool.and_eq_true] at h1
    exact ⟨e, h2 e l2 hs, rfl, h1.1.1.1, h1.1.1.2⟩
theorem okD_spec {cc : ByteArray} {e : IE} (h : okD cc e = true) : ∃ len, decode cc e.1 = .ok (e.2.1, len) ∧ (match e.2.1 with
    | .invokevirtual _ => len == 3 | .invokestatic _ => len == 3 | .invokespecial _ => len == 3 | .getstatic _ => len == 3 | .new _ => len == 3 | .ldc _ => len == 2 | .ldc_w _ => len == 3 | .anewarray _ => len == 3 | .newarray _ => len == 2 | .if_acmp _ _ => len == 3 | .ifnull _ => len == 3 | .ifnonnull _ => len == 3
    | .tableswitch .. => true | .lookupswitch .. => true | .multianewarray .. => true | .dload _ => len == 2 | .fload _ => len == 2 | .dstore _ => len == 2 | .fstore _ => len == 2
    | j => len == iln j) = true := by
  unfold okD at h
  cases hd : decode cc e.1 with
  | error z => rw [hd] at h; cases h
  | ok z =>
    rw [hd] at h
    obtain ⟨i, len⟩ := z
    simp only [Bool.and_eq_true, decide_eq_true_eq] at h
    exact ⟨len, by rw [h.1], h.2⟩
theorem FLq_mem {o ix ci fk : Nat} (h : FLq.any (fun q => q.1 == o && q.2.1 == ix && q.2.2.1 == ci && q.2.2.2 == fk) = true) : (o, ix, ci, fk) ∈ FLq := by
  obtain ⟨q, hq, h2⟩ := List.any_eq_true.mp h
  simp only [Bool.and_eq_true, beq_iff_eq] at h2
  obtain ⟨⟨⟨e1, e2⟩, e3⟩, e4⟩ := h2
  obtain ⟨q1, q2, q3, q4⟩ := q
  simp only at e1 e2 e3 e4
  subst e1; subst e2; subst e3; subst e4
  exact hq
theorem tr_cat1' {v : AV} {σ : Nat → Nat → Nat} {κ : Nat → Nat} (h : is2 v = false) : (tr σ κ v).category = 1 := by
  have h2 := is2_cat (σ := σ) (κ := κ) h
  revert h2
  cases (tr σ κ v) <;> simp [Value.category]
theorem hpK_some {α : Type} : ∀ {l : List α} {n : Nat} {y : α} {K : List α → Prop}, hpK l n y K → ∃ x, hnth l n = some x
  | [], _, _, _, h => False.elim h
  | x :: _, 0, _, _, _ => ⟨x, rfl⟩
  | _ :: l, n + 1, _, _, h => hpK_some (l := l) h
section SND
variable {γ : CX} {o : Nat} {cc : ByteArray} {σ : Nat → Nat → Nat} {k n : Nat} {R : Option AV → AHp → Prop} {rt : Option FieldType} {ini : Bool}
/-- what a return's row needs -/
def RK (γ : CX) (σ : Nat → Nat → Nat) (k n : Nat) (cc : ByteArray) (rt : Option FieldType) (R : Option AV → AHp → Prop) : Prop :=
  (∀ pc ls h x ty, decode cc pc = .ok (.ireturn, 1) → rt = some ty → narrow ty (.int x) = .int x → R (some (vI x)) h → At γ σ k n pc ls [vI x] h) ∧
  (∀ pc ls h x, decode cc pc = .ok (.lreturn, 1) → rt = some .long → R (some (vL x)) h → At γ σ k n pc ls [vL x] h) ∧
  (∀ pc ls h v ty, decode cc pc = .ok (.areturn, 1) → rt = some ty → ((∃ n, ty = .object n) ∨ ∃ t, ty = .array t) → isRf v = true → R (some v) h → At γ σ k n pc ls [v] h) ∧
  (∀ pc ls h, decode cc pc = .ok (.return_, 1) → rt = none → R none h → At γ σ k n pc ls [] h)
theorem stI_ok (O : OK γ (cn o) cc) (hin : ini = true → (cY γ).name = "<init>") (hRK : RK γ σ k n cc rt R) {e : IE} {C J K : LK} {ls : List (Nat × AV)} {st : List AV} {h : AHp} (hd : okD cc e = true) (hx : okX ini o e = true)
    (hC : ∀ ls st h, C ls st h → At γ σ k n e.1 ls st h) (hJ : (∃ off, (e.1 : Int) + off = (e.2.2.1 : Int)) → ∀ ls st h, J ls st h → At γ σ k n e.2.2.1 ls st h) (hK : ∀ ls st h, K ls st h → At γ σ k n (e.1 + iln e.2.1) ls st h)
    (hw : stI R rt (cC γ).maxLocals e.2.1 e.2.2.1 e.2.2.2.1 e.2.2.2.2 C J K ls st h) : At γ σ k n e.1 ls st h := by
  obtain ⟨pc, i, a, b, x⟩ := e
  obtain ⟨len, hdc, hlen⟩ := okD_spec hd
  dsimp only at hdc hlen hC hJ hK hw hx
  unfold stI at hw
  cases i
  case iload j =>
    obtain ⟨v, h1, h2⟩ := lgK_iff hw
    rcases v with v | v
    · cases v with
      | int z => exact At.iload O (by rw [hdc, beq_iff_eq.mp hlen]; rfl) h1 (hK _ _ _ h2)
      | _ => exact False.elim h2
    · exact False.elim h2
  case iload_n j =>
    obtain ⟨v, h1, h2⟩ := lgK_iff hw
    rcases v with v | v
    · cases v with
      | int z => exact At.iload_n O (by rw [hdc, beq_iff_eq.mp hlen]; rfl) h1 (hK _ _ _ h2)
      | _ => exact False.elim h2
    · exact False.elim h2
  case aload j =>
    obtain ⟨v, h1, h2⟩ := lgK_iff hw
    cases hr : isRf v with
    | true => rw [hr] at h2; exact At.aload O (by rw [hdc, beq_iff_eq.mp hlen]; rfl) h1 hr (hK _ _ _ h2)
    | false => rw [hr] at h2; exact False.elim h2
  case aload_n j =>
    obtain ⟨v, h1, h2⟩ := lgK_iff hw
    cases hr : isRf v with
    | true => rw [hr] at h2; exact At.aload_n O (by rw [hdc, beq_iff_eq.mp hlen]; rfl) h1 hr (hK _ _ _ h2)
    | false => rw [hr] at h2; exact False.elim h2
  case istore j =>
    dsimp only at hw
    split at hw
    · obtain ⟨h1, h2, h3⟩ := lsK_iff hw
      exact At.istore O (by rw [hdc, beq_iff_eq.mp hlen]; rfl) h2 h1 (hK _ _ _ h3)
    · exact False.elim hw
  case istore_n j =>
    dsimp only at hw
    split at hw
    · obtain ⟨h1, h2, h3⟩ := lsK_iff hw
      exact At.istore_n O (by rw [hdc, beq_iff_eq.mp hlen]; rfl) h2 h1 (hK _ _ _ h3)
    · exact False.elim hw
  case astore j =>
    dsimp only at hw
    split at hw
    · rename_i v st
      cases hr : isRf v with
      | true =>
        rw [hr] at hw
        obtain ⟨h1, h2, h3⟩ := lsK_iff hw
        exact At.astore O (by rw [hdc, beq_iff_eq.mp hlen]; rfl) hr h2 h1 (hK _ _ _ h3)
      | false => rw [hr] at hw; exact False.elim hw
    · exact False.elim hw
  case astore_n j =>
    dsimp only at hw
    split at hw
    · rename_i v st
      cases hr : isRf v with
      | true =>
        rw [hr] at hw
        obtain ⟨h1, h2, h3⟩ := lsK_iff hw
        exact At.astore_n O (by rw [hdc, beq_iff_eq.mp hlen]; rfl) hr h2 h1 (hK _ _ _ h3)
      | false => rw [hr] at hw; exact False.elim hw
    · exact False.elim hw
  case iinc j c =>
    dsimp only at hw
    obtain ⟨v, h1, h2⟩ := lgK_iff hw
    rcases v with v | v
    · cases v with
      | int z =>
        obtain ⟨h3, h4, h5⟩ := lsK_iff h2
        exact At.iinc O (by rw [hdc, beq_iff_eq.mp hlen]; rfl) (beq_iff_eq.mp hx) h1 h4 h3 (hK _ _ _ h5)
      | _ => exact False.elim h2
    · exact False.elim h2
  case iconst j =>
    dsimp only at hw
    exact At.iconst O (by rw [hdc, beq_iff_eq.mp hlen]; rfl) (beq_iff_eq.mp hx) (hK _ _ _ hw)
  case bipush j =>
    dsimp only at hw
    exact At.bipush O (by rw [hdc, beq_iff_eq.mp hlen]; rfl) (beq_iff_eq.mp hx) (hK _ _ _ hw)
  case sipush j =>
    dsimp only at hw
    exact At.sipush O (by rw [hdc, beq_iff_eq.mp hlen]; rfl) (beq_iff_eq.mp hx) (hK _ _ _ hw)
  case lconst j =>
    dsimp only at hw
    exact At.lconst O (by rw [hdc, beq_iff_eq.mp hlen]; rfl) rfl (hK _ _ _ hw)
  case iadd =>
    dsimp only at hw
    split at hw
    · exact At.iadd O (by rw [hdc, beq_iff_eq.mp hlen]; rfl) (hK _ _ _ hw)
    · exact False.elim hw
  case isub =>
    dsimp only at hw
    split at hw
    · exact At.isub O (by rw [hdc, beq_iff_eq.mp hlen]; rfl) (hK _ _ _ hw)
    · exact False.elim hw
  case imul =>
    dsimp only at hw
    split at hw
    · exact At.imul O (by rw [hdc, beq_iff_eq.mp hlen]; rfl) (hK _ _ _ hw)
    · exact False.elim hw
  case iand =>
    dsimp only at hw
    split at hw
    · exact At.iand O (by rw [hdc, beq_iff_eq.mp hlen]; rfl) (hK _ _ _ hw)
    · exact False.elim hw
  case ior =>
    dsimp only at hw
    split at hw
    · exact At.ior O (by rw [hdc, beq_iff_eq.mp hlen]; rfl) (hK _ _ _ hw)
    · exact False.elim hw
  case ishl =>
    dsimp only at hw
    split at hw
    · exact At.ishl O (by rw [hdc, beq_iff_eq.mp hlen]; rfl) (hK _ _ _ hw)
    · exact False.elim hw
  case ishr =>
    dsimp only at hw
    split at hw
    · exact At.ishr O (by rw [hdc, beq_iff_eq.mp hlen]; rfl) (hK _ _ _ hw)
    · exact False.elim hw
  case ladd =>
    dsimp only at hw
    split at hw
    · exact At.ladd O (by rw [hdc, beq_iff_eq.mp hlen]; rfl) (hK _ _ _ hw)
    · exact False.elim hw
  case lcmp =>
    dsimp only at hw
    split at hw
    · exact At.lcmp O (by rw [hdc, beq_iff_eq.mp hlen]; rfl) (hK _ _ _ hw)
    · exact False.elim hw
  case ineg =>
    dsimp only at hw
    split at hw
    · exact At.ineg O (by rw [hdc, beq_iff_eq.mp hlen]; rfl) (hK _ _ _ hw)
    · exact False.elim hw
  case i2l =>
    dsimp only at hw
    split at hw
    · exact At.i2l O (by rw [hdc, beq_iff_eq.mp hlen]; rfl) (hK _ _ _ hw)
    · exact False.elim hw
  case i2c =>
    dsimp only at hw
    split at hw
    · exact At.i2c O (by rw [hdc, beq_iff_eq.mp hlen]; rfl) (hK _ _ _ hw)
    · exact False.elim hw
  case i2b =>
    dsimp only at hw
    split at hw
    · exact At.i2b O (by rw [hdc, beq_iff_eq.mp hlen]; rfl) (hK _ _ _ hw)
    · exact False.elim hw
  case idiv =>
    dsimp only at hw
    split at hw
    · exact At.idiv O (by rw [hdc, beq_iff_eq.mp hlen]; rfl) hw.1 (hK _ _ _ hw.2)
    · exact False.elim hw
  case irem =>
    dsimp only at hw
    split at hw
    · exact At.irem O (by rw [hdc, beq_iff_eq.mp hlen]; rfl) hw.1 (hK _ _ _ hw.2)
    · exact False.elim hw
  case dup =>
    dsimp only at hw
    split at hw
    · rename_i v st
      cases hr : is2 v with
      | true => rw [hr] at hw; exact False.elim hw
      | false =>
        rw [hr] at hw
        have h2 := tr_cat1' (σ := σ) (κ := cκ γ) hr
        exact At.dup O (by rw [hdc, beq_iff_eq.mp hlen]; rfl) h2 (hK _ _ _ hw)
    · exact False.elim hw
  case pop =>
    dsimp only at hw
    split at hw
    · rename_i v st
      cases hr : is2 v with
      | true => rw [hr] at hw; exact False.elim hw
      | false =>
        rw [hr] at hw
        have h2 := tr_cat1' (σ := σ) (κ := cκ γ) hr
        exact At.pop O (by rw [hdc, beq_iff_eq.mp hlen]; rfl) h2 (hK _ _ _ hw)
    · exact False.elim hw
  case dup_x1 =>
    dsimp only at hw
    split at hw
    · rename_i v w st
      cases hr : is2 v with
      | true => rw [hr] at hw; exact False.elim hw
      | false =>
        cases hr2 : is2 w with
        | true => rw [hr, hr2] at hw; exact False.elim hw
        | false =>
          rw [hr, hr2] at hw
          exact At.dup_x1 O (by rw [hdc, beq_iff_eq.mp hlen]; rfl) (tr_cat1' hr) (tr_cat1' hr2) (hK _ _ _ hw)
    · exact False.elim hw
  case dup2 =>
    dsimp only at hw
    split at hw
    · rename_i v w st
      cases hr : is2 v with
      | true => rw [hr] at hw; exact False.elim hw
      | false =>
        cases hr2 : is2 w with
        | true => rw [hr, hr2] at hw; exact False.elim hw
        | false =>
          rw [hr, hr2] at hw
          exact At.dup2 O (by rw [hdc, beq_iff_eq.mp hlen]; rfl) (tr_cat1' hr) (tr_cat1' hr2) (hK _ _ _ hw)
    · exact False.elim hw
  case goto off =>
    dsimp only at hw
    have h1 : (pc : Int) + off = (a : Int) := beq_iff_eq.mp hx
    exact At.goto O (by rw [hdc, beq_iff_eq.mp hlen]; rfl) h1 (hJ ⟨off, h1⟩ _ _ _ hw)
  case ifCond c off =>
    dsimp only at hw
    have h1 : (pc : Int) + off = (a : Int) := beq_iff_eq.mp hx
    split at hw
    · refine At.ifc O (by rw [hdc, beq_iff_eq.mp hlen]; rfl) h1 _ rfl (fun q => ?_) (fun q => ?_)
      · refine hJ ⟨off, h1⟩ _ _ _ ?_
        cases c <;> first | exact hw.1 q | exact hw.2 q
      · refine hK _ _ _ ?_
        cases c <;> first | exact hw.2 q | exact hw.1 (Decidable.not_not.mp q)
    · exact False.elim hw
  case if_icmp c off =>
    dsimp only at hw
    have h1 : (pc : Int) + off = (a : Int) := beq_iff_eq.mp hx
    split at hw
    · refine At.icmp O (by rw [hdc, beq_iff_eq.mp hlen]; rfl) h1 _ rfl (fun q => ?_) (fun q => ?_)
      · refine hJ ⟨off, h1⟩ _ _ _ ?_
        cases c <;> first | exact hw.1 q | exact hw.2 q
      · refine hK _ _ _ ?_
        cases c <;> first | exact hw.2 q | exact hw.1 (Decidable.not_not.mp q)
    · exact False.elim hw
  case getfield ix =>
    dsimp only at hw
    have hx : (Nat.beq a 999 || FLq.any (fun q => q.1 == o && q.2.1 == ix && q.2.2.1 == a && q.2.2.2 == b)) = true := hx
    cases h9 : Nat.beq a 999 with
    | true => rw [h9] at hw; exact hC _ _ _ hw
    | false =>
      rw [h9] at hw hx
      dsimp only at hw
      have hF := FLq_mem (by simpa using hx)
      split at hw
      · rename_i q st
        obtain ⟨c, h1, h2⟩ := hgK_iff hw
        rcases c with c | c | c
        · exact False.elim h2
        · have h2 : (match Nat.beq c.1 a with | true => hnK c.2 b (fun v => K ls (v :: st) h) | false => False) := h2
          cases hb : Nat.beq c.1 a with
          | false => rw [hb] at h2; exact False.elim h2
          | true =>
            rw [hb] at h2
            obtain ⟨v, h3, h4⟩ := hnK_iff h2
            obtain ⟨ci, fs⟩ := c
            have := Nat.eq_of_beq_eq_true hb
            simp only at this h3
            subst this
            exact At.getf O (by rw [hdc, beq_iff_eq.mp hlen]; rfl) hF h1 h3 (hK _ _ _ h4)
        · exact False.elim h2
      · exact False.elim hw
  case putfield ix =>
    dsimp only at hw
    have hx : (FLq.any (fun q => q.1 == o && q.2.1 == ix && q.2.2.1 == a && q.2.2.2 == b) && (match vwCl[a]? with | some z => (z.2.1 b).2.2.2 == false || (ini && (z.2.1 b).1 == cn o) | none => false)) = true := hx
    rw [Bool.and_eq_true] at hx
    have hF := FLq_mem hx.1
    have hfin : ∀ C T N, vwCl[a]? = some (C, T, N) → (T b).2.2.2 = false ∨ ((cY γ).name = "<init>" ∧ (T b).1 = cn o) := by
      intro C T N hc
      have h9 := hx.2
      rw [hc] at h9
      simp only [Bool.or_eq_true, Bool.and_eq_true, beq_iff_eq] at h9
      rcases h9 with h9 | h9
      · exact Or.inl h9
      · exact Or.inr ⟨hin h9.1, h9.2⟩
    split at hw
    · rename_i v q st
      obtain ⟨c, h1, h2⟩ := hgK_iff hw
      rcases c with c | c | c
      · exact False.elim h2
      · have h2 : (match Nat.beq c.1 a with | true => okT (tyOf a b) v ∧ hpK c.2 b v (fun fs => hsK h q.1 q.2 (aO a fs) (fun h => K ls st h)) | false => False) := h2
        cases hb : Nat.beq c.1 a with
        | false => rw [hb] at h2; exact False.elim h2
        | true =>
          rw [hb] at h2
          obtain ⟨h3, h4⟩ := h2
          obtain ⟨ci, fs⟩ := c
          have := Nat.eq_of_beq_eq_true hb
          simp only at this h4
          subst this
          have h5 := hpK_iff h4
          have h6 := hsK_iff h5
          obtain ⟨v0, hv0⟩ := hpK_some h4
          exact At.putf O (by rw [hdc, beq_iff_eq.mp hlen]; rfl) hF h1 hv0 h3 hfin (hK _ _ _ h6)
      · exact False.elim h2
    · exact False.elim hw
  case iaload =>
    dsimp only at hw
    split at hw
    · rename_i z q st
      obtain ⟨c, h1, h2⟩ := hgK_iff hw
      rcases c with ⟨ty, N, f | f | f | f⟩ | c | c
      · cases ty with
        | int => exact At.iald O (by rw [hdc, beq_iff_eq.mp hlen]; rfl) h1 h2.1 (hK _ _ _ h2.2)
        | _ => exact False.elim h2
      · cases ty <;> exact False.elim h2
      · cases ty <;> exact False.elim h2
      · cases ty <;> exact False.elim h2
      · exact False.elim h2
      · exact False.elim h2
    · exact hC _ _ _ hw
  case caload =>
    dsimp only at hw
    split at hw
    · rename_i z q st
      obtain ⟨c, h1, h2⟩ := hgK_iff hw
      rcases c with ⟨ty, N, f | f | f | f⟩ | c | c
      · cases ty with
        | char => exact At.cald O (by rw [hdc, beq_iff_eq.mp hlen]; rfl) h1 h2.1 (hK _ _ _ h2.2)
        | _ => exact False.elim h2
      · cases ty <;> exact False.elim h2
      · cases ty <;> exact False.elim h2
      · cases ty <;> exact False.elim h2
      · exact False.elim h2
      · exact False.elim h2
    · exact False.elim hw
  case laload =>
    dsimp only at hw
    split at hw
    · rename_i z q st
      obtain ⟨c, h1, h2⟩ := hgK_iff hw
      rcases c with ⟨ty, N, f | f | f | f⟩ | c | c
      · cases ty <;> exact False.elim h2
      · cases ty with
        | long => exact At.lald O (by rw [hdc, beq_iff_eq.mp hlen]; rfl) h1 h2.1 (hK _ _ _ h2.2)
        | _ => exact False.elim h2
      · cases ty <;> exact False.elim h2
      · cases ty <;> exact False.elim h2
      · exact False.elim h2
      · exact False.elim h2
    · exact False.elim hw
  case daload =>
    dsimp only at hw
    split at hw
    · rename_i z q st
      obtain ⟨c, h1, h2⟩ := hgK_iff hw
      rcases c with ⟨ty, N, f | f | f | f⟩ | c | c
      · cases ty <;> exact False.elim h2
      · cases ty <;> exact False.elim h2
      · cases ty with
        | double => exact At.dald O (by rw [hdc, beq_iff_eq.mp hlen]; rfl) h1 h2.1 (hK _ _ _ h2.2)
        | _ => exact False.elim h2
      · cases ty <;> exact False.elim h2
      · exact False.elim h2
      · exact False.elim h2
    · exact False.elim hw
  case baload =>
    dsimp only at hw
    split at hw
    · rename_i z q st
      obtain ⟨c, h1, h2⟩ := hgK_iff hw
      rcases c with ⟨ty, N, f | f | f | f⟩ | c | c
      · cases ty with
        | boolean => exact At.zald O (by rw [hdc, beq_iff_eq.mp hlen]; rfl) h1 h2.1 (hK _ _ _ h2.2)
        | byte => exact At.bald O (by rw [hdc, beq_iff_eq.mp hlen]; rfl) h1 h2.1 (hK _ _ _ h2.2)
        | _ => exact False.elim h2
      · cases ty <;> exact False.elim h2
      · cases ty <;> exact False.elim h2
      · cases ty <;> exact False.elim h2
      · exact False.elim h2
      · exact False.elim h2
    · exact hC _ _ _ hw
  case aaload =>
    dsimp only at hw
    split at hw
    · rename_i z q st
      obtain ⟨c, h1, h2⟩ := hgK_iff hw
      rcases c with ⟨ty, N, f | f | f | f⟩ | c | c
      · exact False.elim h2
      · exact False.elim h2
      · exact False.elim h2
      · have h2 : (match ty.isReference with | true => vp_in z N ∧ K ls ((hnth f z.toNatClampNeg).getD vN :: st) h | false => False) := h2
        cases hr : ty.isReference with
        | false => rw [hr] at h2; exact False.elim h2
        | true =>
          rw [hr] at h2
          exact At.aald O hr (by rw [hdc, beq_iff_eq.mp hlen]; rfl) h1 h2.1 (hK _ _ _ h2.2)
      · exact False.elim h2
      · exact False.elim h2
    · exact hC _ _ _ hw
  case iastore =>
    dsimp only at hw
    split at hw
    · rename_i y z q st
      obtain ⟨c, h1, h2⟩ := hgK_iff hw
      rcases c with ⟨ty, N, f | f | f | f⟩ | c | c
      · cases ty with
        | int => exact At.iast O (by rw [hdc, beq_iff_eq.mp hlen]; rfl) h1 h2.1 (hK _ _ _ (hsK_iff h2.2))
        | _ => exact False.elim h2
      · cases ty <;> exact False.elim h2
      · cases ty <;> exact False.elim h2
      · cases ty <;> exact False.elim h2
      · exact False.elim h2
      · exact False.elim h2
    · exact False.elim hw
  case castore =>
    dsimp only at hw
    split at hw
    · rename_i y z q st
      obtain ⟨c, h1, h2⟩ := hgK_iff hw
      rcases c with ⟨ty, N, f | f | f | f⟩ | c | c
      · cases ty with
        | char => exact At.cast O (by rw [hdc, beq_iff_eq.mp hlen]; rfl) h1 h2.1 (hK _ _ _ (hsK_iff h2.2))
        | _ => exact False.elim h2
      · cases ty <;> exact False.elim h2
      · cases ty <;> exact False.elim h2
      · cases ty <;> exact False.elim h2
      · exact False.elim h2
      · exact False.elim h2
    · exact False.elim hw
  case lastore =>
    dsimp only at hw
    split at hw
    · rename_i y z q st
      obtain ⟨c, h1, h2⟩ := hgK_iff hw
      rcases c with ⟨ty, N, f | f | f | f⟩ | c | c
      · cases ty <;> exact False.elim h2
      · cases ty with
        | long => exact At.last O (by rw [hdc, beq_iff_eq.mp hlen]; rfl) h1 h2.1 (hK _ _ _ (hsK_iff h2.2))
        | _ => exact False.elim h2
      · cases ty <;> exact False.elim h2
      · cases ty <;> exact False.elim h2
      · exact False.elim h2
      · exact False.elim h2
    · exact False.elim hw
  case dastore =>
    dsimp only at hw
    split at hw
    · rename_i y z q st
      obtain ⟨c, h1, h2⟩ := hgK_iff hw
      rcases c with ⟨ty, N, f | f | f | f⟩ | c | c
      · cases ty <;> exact False.elim h2
      · cases ty <;> exact False.elim h2
      · cases ty with
        | double => exact At.dast O (by rw [hdc, beq_iff_eq.mp hlen]; rfl) h1 h2.1 (hK _ _ _ (hsK_iff h2.2))
        | _ => exact False.elim h2
      · cases ty <;> exact False.elim h2
      · exact False.elim h2
      · exact False.elim h2
    · exact False.elim hw
  case bastore =>
    dsimp only at hw
    split at hw
    · rename_i y z q st
      obtain ⟨c, h1, h2⟩ := hgK_iff hw
      rcases c with ⟨ty, N, f | f | f | f⟩ | c | c
      · cases ty with
        | boolean => exact At.zast O h2.2.1 (by rw [hdc, beq_iff_eq.mp hlen]; rfl) h1 h2.1 (hK _ _ _ (hsK_iff h2.2.2))
        | byte => exact At.bast O (by rw [hdc, beq_iff_eq.mp hlen]; rfl) h1 h2.1 (hK _ _ _ (hsK_iff h2.2))
        | _ => exact False.elim h2
      · cases ty <;> exact False.elim h2
      · cases ty <;> exact False.elim h2
      · cases ty <;> exact False.elim h2
      · exact False.elim h2
      · exact False.elim h2
    · exact False.elim hw
  case arraylength =>
    dsimp only at hw
    split at hw
    · rename_i q st
      obtain ⟨c, h1, h2⟩ := hgK_iff hw
      rcases c with ⟨ty, N, f⟩ | c | c
      · exact At.alen O (by rw [hdc, beq_iff_eq.mp hlen]; rfl) h1 (hK _ _ _ h2)
      · exact False.elim h2
      · exact False.elim h2
    · exact hC _ _ _ hw
  case ireturn =>
    dsimp only at hw
    split at hw
    · split at hw
      · exact hRK.1 _ _ _ _ .int (by rw [hdc, beq_iff_eq.mp hlen]; rfl) rfl rfl hw
      · obtain ⟨h1, h2⟩ := hw
        exact hRK.1 _ _ _ _ .boolean (by rw [hdc, beq_iff_eq.mp hlen]; rfl) rfl (by rcases h1 with rfl | rfl <;> rfl) h2
      · exact hRK.1 _ _ _ _ .char (by rw [hdc, beq_iff_eq.mp hlen]; rfl) rfl hw.1 hw.2
      · exact False.elim hw
    · exact False.elim hw
  case lreturn =>
    dsimp only at hw
    split at hw
    · split at hw
      · exact hRK.2.1 _ _ _ _ (by rw [hdc, beq_iff_eq.mp hlen]; rfl) rfl hw
      · exact False.elim hw
    · exact False.elim hw
  case areturn =>
    dsimp only at hw
    split at hw
    · rename_i v
      cases hr : isRf v with
      | false => rw [hr] at hw; exact False.elim hw
      | true =>
        rw [hr] at hw
        simp only at hw
        split at hw
        · exact hRK.2.2.1 _ _ _ _ _ (by rw [hdc, beq_iff_eq.mp hlen]; rfl) rfl (Or.inl ⟨_, rfl⟩) hr hw
        · exact hRK.2.2.1 _ _ _ _ _ (by rw [hdc, beq_iff_eq.mp hlen]; rfl) rfl (Or.inr ⟨_, rfl⟩) hr hw
        · exact False.elim hw
    · exact False.elim hw
  case return_ =>
    dsimp only at hw
    split at hw
    · split at hw
      · exact hRK.2.2.2 _ _ _ (by rw [hdc, beq_iff_eq.mp hlen]; rfl) rfl hw
      · exact False.elim hw
    · exact False.elim hw
  all_goals exact hC _ _ _ hw
theorem stI_K {mL : Nat} {i : Instr} {a b : Nat} {x : Int32} {C J K : LK} {ls : List (Nat × AV)} {st : List AV} {h : AHp} (hn : nonK i = true) (hw : stI R rt mL i a b x C J K ls st h) : stI R rt mL i a b x C J (fun _ _ _ => False) ls st h := by
  cases i <;> first
    | exact hw
    | cases hn
theorem wp_ok (O : OK γ (cn o) cc) (hin : ini = true → (cY γ).name = "<init>") (hRK : RK γ σ k n cc rt R) {code : List IE} {ct : List (Nat × List Nat)} {mL : Nat} (hmL : (cC γ).maxLocals = mL) (hcode : okL ini o cc code = true) :
    ∀ (f : Nat) (e : IE) (rest : List IE) (ls : List (Nat × AV)) (st : List AV) (h : AHp), okL ini o cc (e :: rest) = true → wp γ σ k n R rt mL ct code f (e :: rest) ls st h → At γ σ k n e.1 ls st h := by
  subst hmL
  intro f
  induction f with
  | zero => exact fun _ _ _ _ _ _ hw => False.elim hw
  | succ f ih =>
    intro e rest ls st h hok hw
    obtain ⟨pc, i, a, b, x⟩ := e
    have hok2 := hok
    unfold okL at hok2
    simp only [Bool.and_eq_true] at hok2
    obtain ⟨⟨⟨hd, hx⟩, hnx⟩, hrest⟩ := hok2
    have hJ : (∃ off, (pc : Int) + off = (a : Int)) → ∀ ls st h, (match ctK ct a with | some ks => pkK ks ls (fun ls => At γ σ k n a ls st h) | none => wp γ σ k n R rt (cC γ).maxLocals ct code f (seek code a) ls st h) → At γ σ k n a ls st h := by
      intro _ ls st h hj
      cases hc : ctK ct a with
      | some ks =>
        rw [hc] at hj
        obtain ⟨l2, h1, h2⟩ := pkK_iff hj
        exact At.drop h2 h1
      | none =>
        rw [hc] at hj
        obtain ⟨q1, q2⟩ := seek_ok (t := a) hcode
        cases hs : seek code a with
        | nil =>
          have hj : wp γ σ k n R rt (cC γ).maxLocals ct code f (seek code a) ls st h := hj
          rw [hs] at hj
          cases f <;> exact False.elim hj
        | cons e2 l2 =>
          have hj : wp γ σ k n R rt (cC γ).maxLocals ct code f (seek code a) ls st h := hj
          rw [hs] at hj q1
          have := ih e2 l2 ls st h q1 hj
          rw [q2 e2 l2 hs] at this
          exact this
    cases hk : nonK i with
    | true => exact stI_ok (e := (pc, i, a, b, x)) O hin hRK hd hx (fun _ _ _ h => h) hJ (fun _ _ _ h => False.elim h) (stI_K hk hw)
    | false =>
      refine stI_ok (e := (pc, i, a, b, x)) O hin hRK hd hx (fun _ _ _ h => h) hJ (fun ls st h hj => ?_) hw
      cases rest with
      | nil => exact False.elim hj
      | cons e2 l2 =>
        have he : e2.1 = pc + iln i := by
          have h9 : (nonK i || e2.1 == pc + iln i) = true := hnx
          rw [hk] at h9
          exact beq_iff_eq.mp h9
        obtain ⟨pc2, i2, a2, b2, x2⟩ := e2
        show At γ σ k n (pc + iln i) ls st h
        rw [← he]
        have hj : (match ctK ct pc2 with | some ks => pkK ks ls (fun ls => At γ σ k n pc2 ls st h) | none => wp γ σ k n R rt (cC γ).maxLocals ct code f ((pc2, i2, a2, b2, x2) :: l2) ls st h) := hj
        cases hc : ctK ct pc2 with
        | some ks =>
          rw [hc] at hj
          obtain ⟨l3, h1, h2⟩ := pkK_iff hj
          exact At.drop h2 h1
        | none =>
          rw [hc] at hj
          exact ih (pc2, i2, a2, b2, x2) l2 ls st h hrest hj
end SND
/-! ===== A METHOD'S BODY, as its proof has it ===== -/
/-- M with its instructions; the returns' predicate from Fin -/
def Bd (γ : CX) (σ : Nat → Nat → Nat) (ini : Bool) (M : MR) (d mc ms N0 : Nat) (Po : Out → AHp → Prop) : Prop :=
  OK γ (cn (mO M)) (mB M) ∧ Fin γ σ N0 mc ms (mZ M) Po ∧ (cC γ).maxLocals = mL M ∧ cR γ = rmD d mc ms ∧ (ini = true → (cY γ).name = "<init>")
def RF (k n mc ms : Nat) (Po : Out → AHp → Prop) : Option AV → AHp → Prop := fun v h => Po (.inl v) h ∧ k ≤ mc ∧ n ≤ ms
theorem RK_of {γ : CX} {σ : Nat → Nat → Nat} {own : String} {cc : ByteArray} {N0 mc ms k n : Nat} {rt : Option FieldType} {Po : Out → AHp → Prop} (O : OK γ own cc) (F : Fin γ σ N0 mc ms rt Po) : RK γ σ k n cc rt (RF k n mc ms Po) :=
  ⟨fun pc ls h x ty d hr hn hp => At.iret O F d hr hn hp.2.1 hp.2.2 (Or.inl rfl) hp.1, fun pc ls h x d hr hp => At.lret O F d hr hp.2.1 hp.2.2 (Or.inl rfl) hp.1,
   fun pc ls h v ty d hr ht hv hp => At.aret O F d hr ht (Or.inl hv) hp.2.1 hp.2.2 (Or.inl rfl) hp.1, fun pc ls h d hr hp => At.vret O F d hr hp.2.1 hp.2.2 (Or.inl rfl) hp.1⟩
/-- from a place of the code on -/
theorem Bd.run {γ : CX} {σ : Nat → Nat → Nat} {ini : Bool} {M : MR} {d mc ms N0 k n : Nat} {Po : Out → AHp → Prop} (B : Bd γ σ ini M d mc ms N0 Po) {code : List IE} (hc : okL ini (mO M) (mB M) code = true) (ct : List (Nat × List Nat)) (f : Nat) {pc : Nat} {ls : List (Nat × AV)} {st : List AV} {h : AHp}
    (hw : wp γ σ k n (RF k n mc ms Po) (mZ M) (mL M) ct code f (seek code pc) ls st h) : At γ σ k n pc ls st h := by
  obtain ⟨O, F, hml, hR, hin⟩ := B
  obtain ⟨q1, q2⟩ := seek_ok (t := pc) hc
  cases hs : seek code pc with
  | nil =>
    rw [hs] at hw
    cases f <;> exact False.elim hw
  | cons e l =>
    rw [hs] at hw q1
    have := wp_ok O hin (RK_of O F) hml hc f e l ls st h q1 hw
    rw [q2 e l hs] at this
    exact this
theorem Sp.of' {M : MR} {d mc ms : Nat} {args : List AV} {h : AHp} {Po : Out → AHp → Prop} (ini : Bool) (hi : ini = true → (mY M).name = "<init>") (hpl : plainName (mY M).cls = true) (hcls : (mY M).cls = cn (mO M)) (h2 : args.all (fun v => !(is2 v)) = true) (hlen : args.length ≤ mL M)
    (body : ∀ (γ : CX) (σ : Nat → Nat → Nat), Bd γ σ ini M d mc ms h.length Po → At γ σ 0 0 0 (avargs 0 args) [] h) : Sp d mc ms M args h Po :=
  Sp.of hpl hcls (fun v hv => by simpa using List.all_eq_true.mp h2 v hv) hlen fun γ σ O F hml hR hn => body γ σ ⟨O, F, hml, hR, fun z => hn.trans (hi z)⟩
