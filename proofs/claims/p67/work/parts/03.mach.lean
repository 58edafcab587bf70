/-! ===== THE MACHINE OF THIS WORK: values, cells and heaps by region and offset; what they are of the real heap ===== -/
abbrev AV : Type := Value ⊕ (Nat × Nat) ⊕ Nat
abbrev vI (x : Int32) : AV := .inl (.int x)
abbrev vL (x : Int64) : AV := .inl (.long x)
abbrev vF (x : UInt32) : AV := .inl (.float x)
abbrev vD (x : UInt64) : AV := .inl (.double x)
abbrev vN : AV := .inl .null
abbrev vR (r o : Nat) : AV := .inr (.inl (r, o))
abbrev vK (k : Nat) : AV := .inr (.inr k)
abbrev AArr : Type := (Nat → Int32) ⊕ (Nat → Int64) ⊕ (Nat → UInt64) ⊕ List AV
/-- an array (its type, length, contents), an object (its class in vwCl, its fields), a StringBuilder (its length, capacity, text) -/
abbrev ACell : Type := (FieldType × Nat × AArr) ⊕ (Nat × List AV) ⊕ (Nat × Nat × (Nat → Nat))
abbrev AHp : Type := List (List ACell)
abbrev aI (n : Nat) (f : Nat → Int32) : ACell := .inl (.int, n, .inl f)
abbrev aO (ci : Nat) (fs : List AV) : ACell := .inr (.inl (ci, fs))
abbrev aB (n m : Nat) (t : Nat → Nat) : ACell := .inr (.inr (n, m, t))
def tr (σ : Nat → Nat → Nat) (κ : Nat → Nat) : AV → Value
  | .inl v => v
  | .inr (.inl q) => .ref (σ q.1 q.2)
  | .inr (.inr k) => .ref (κ k)
/-- where a cell stands -/
def hnth {α : Type} : List α → Nat → Option α
  | [], _ => none
  | x :: _, 0 => some x
  | _ :: l, n + 1 => hnth l n
def hput {α : Type} : List α → Nat → α → List α
  | [], _, _ => []
  | _ :: l, 0, y => y :: l
  | x :: l, n + 1, y => x :: hput l n y
def ael (σ : Nat → Nat → Nat) (κ : Nat → Nat) : AArr → Nat → Value
  | .inl f, j => .int (f j)
  | .inr (.inl f), j => .long (f j)
  | .inr (.inr (.inl f)), j => .double (f j)
  | .inr (.inr (.inr f)), j => tr σ κ ((hnth f j).getD vN)
def hget (h : AHp) (r o : Nat) : Option ACell := (hnth h r).bind (fun g => hnth g o)
def hset (h : AHp) (r o : Nat) (c : ACell) : AHp := match hnth h r with
  | none => h
  | some g => hput h r (hput g o c)
theorem hnth_put_self {α : Type} : ∀ (l : List α) (n : Nat) (x y : α), hnth l n = some x → hnth (hput l n y) n = some y
  | [], _, _, _, h => by cases h
  | _ :: _, 0, _, _, _ => rfl
  | _ :: l, n + 1, x, y, h => hnth_put_self l n x y h
theorem hnth_put_ne {α : Type} : ∀ (l : List α) (n m : Nat) (y : α), n ≠ m → hnth (hput l n y) m = hnth l m
  | [], _, _, _, _ => rfl
  | _ :: _, 0, 0, _, h => absurd rfl h
  | _ :: _, 0, _ + 1, _, _ => rfl
  | _ :: _, _ + 1, 0, _, _ => rfl
  | _ :: l, n + 1, m + 1, y, h => hnth_put_ne l n m y (fun e => h (by rw [e]))
theorem hnth_eq {α : Type} : ∀ (l : List α) (n : Nat), hnth l n = l[n]?
  | [], n => by simp [hnth]
  | x :: l, 0 => by simp [hnth]
  | x :: l, n + 1 => by simp [hnth, hnth_eq l n]
theorem hput_eq {α : Type} : ∀ (l : List α) (n : Nat) (x : α), hput l n x = l.set n x
  | [], n, _ => by simp [hput]
  | _ :: l, 0, _ => by simp [hput]
  | _ :: l, n + 1, x => by simp [hput, hput_eq l n x]
theorem hput_length {α : Type} (l : List α) (n : Nat) (x : α) : (hput l n x).length = l.length := by rw [hput_eq]; simp
theorem hset_length (h : AHp) (r o : Nat) (c : ACell) : (hset h r o c).length = h.length := by
  unfold hset
  cases hnth h r with
  | none => rfl
  | some g => exact hput_length _ _ _
theorem hget_set {h : AHp} {r o : Nat} {c0 c : ACell} (hg : hget h r o = some c0) (r2 o2 : Nat) : hget (hset h r o c) r2 o2 = if r2 = r ∧ o2 = o then some c else hget h r2 o2 := by
  unfold hget at hg
  unfold hset
  cases hr : hnth h r with
  | none => rw [hr] at hg; cases hg
  | some g =>
    rw [hr] at hg
    have hg : hnth g o = some c0 := hg
    dsimp only
    unfold hget
    by_cases e : r2 = r
    · subst e
      rw [hnth_put_self h r2 g _ hr, hr]
      show hnth (hput g o c) o2 = _
      by_cases e2 : o2 = o
      · subst e2
        rw [hnth_put_self g o2 c0 c hg]; simp
      · rw [hnth_put_ne g o o2 c (Ne.symm e2)]; simp [e2]
    · rw [hnth_put_ne h r r2 _ (Ne.symm e)]; simp [e]
/-- the cell of the real heap -/
def atC (D : va_G) (σ η : Nat → Nat → Nat) (κ : Nat → Nat) (U : State) (H : Heap) (r o : Nat) : ACell → Prop
  | .inl (ty, n, x) => ∃ cA, H[σ r o]? = some (arrV cA n (ael σ κ x)) ∧ ArrOfT U cA ty ∧ va_RA U cA ty
  | .inr (.inl (ci, fs)) => ∃ q : vw_C, vwCl[ci]? = some q ∧ t_OB (σ r o) (D.1 ci) q.2.2 (D.2 ci) H (vp_V (fs.map (tr σ κ)))
  | .inr (.inr (n, m, t)) => (∃ ml : Int32, t_OB (σ r o) (D.1 1) 4 (D.2 1) H (vp_V [.ref (η r o), .int 0, .int ml, .int (nI n)])) ∧ (∃ (cA : ClassId) (a : Nat → Int32), H[η r o]? = some (arrV cA m (fun j => .int (a j))) ∧ ArrOfT U cA .byte ∧ va_RA U cA .byte ∧ sb_Lat t n a ∧ sb_Fit a) ∧ n ≤ m ∧ m ≤ 65536
def isSb : ACell → Bool
  | .inr (.inr _) => true
  | _ => false
abbrev Pl : Type := Nat × Nat × Bool
def pad (σ η : Nat → Nat → Nat) (p : Pl) : Nat := match p.2.2 with
  | true => η p.1 p.2.1
  | false => σ p.1 p.2.1
def pdom (h : AHp) (p : Pl) : Prop := ∃ c, hget h p.1 p.2.1 = some c ∧ (p.2.2 = true → isSb c = true)
def Rep (D : va_G) (σ η : Nat → Nat → Nat) (κ : Nat → Nat) (h : AHp) (U : State) (H : Heap) (A : Nat → Prop) : Prop :=
  (∀ r o c, hget h r o = some c → atC D σ η κ U H r o c) ∧ (∀ p q, pdom h p → pdom h q → pad σ η p = pad σ η q → p = q) ∧ ∀ p, pdom h p → A (pad σ η p)
theorem atC.kept {D : va_G} {σ η : Nat → Nat → Nat} {κ : Nat → Nat} {U : State} {H H1 : Heap} {r o : Nat} {c : ACell} (h : atC D σ η κ U H r o c) (h1 : H1[σ r o]? = H[σ r o]?) (h2 : isSb c = true → H1[η r o]? = H[η r o]?) : atC D σ η κ U H1 r o c := by
  rcases c with ⟨ty, n, x⟩ | ⟨ci, fs⟩ | ⟨n, m, t⟩
  · obtain ⟨cA, q1, q2⟩ := h
    exact ⟨cA, h1.trans q1, q2⟩
  · obtain ⟨q, q1, q2⟩ := h
    exact ⟨q, q1, q2.kept h1⟩
  · obtain ⟨⟨ml, q1⟩, ⟨cA, a, q2, q3⟩, q4⟩ := h
    exact ⟨⟨ml, q1.kept h1⟩, ⟨cA, a, (h2 rfl).trans q2, q3⟩, q4⟩
theorem atC.moved {D : va_G} {σ η : Nat → Nat → Nat} {κ : Nat → Nat} {u U : State} {H : Heap} {r o : Nat} {c : ACell} (hvm : u.vm.Alike U.vm) (h : atC D σ η κ u H r o c) : atC D σ η κ U H r o c := by
  rcases c with ⟨ty, n, x⟩ | ⟨ci, fs⟩ | ⟨n, m, t⟩
  · obtain ⟨cA, q1, q2, q3⟩ := h
    exact ⟨cA, q1, arrOfT_moved hvm q2, q3.moved hvm⟩
  · exact h
  · obtain ⟨q1, ⟨cA, a, q2, q3, q4, q5⟩, q6⟩ := h
    exact ⟨q1, ⟨cA, a, q2, arrOfT_moved hvm q3, q4.moved hvm, q5⟩, q6⟩
theorem Rep.moved {D : va_G} {σ η : Nat → Nat → Nat} {κ : Nat → Nat} {h : AHp} {u U : State} {H : Heap} {A : Nat → Prop} (hvm : u.vm.Alike U.vm) (R : Rep D σ η κ h u H A) : Rep D σ η κ h U H A := ⟨fun r o c hc => (R.1 r o c hc).moved hvm, R.2⟩
theorem Rep.weaken {D : va_G} {σ η : Nat → Nat → Nat} {κ : Nat → Nat} {h : AHp} {U : State} {H : Heap} {A B : Nat → Prop} (R : Rep D σ η κ h U H A) (hAB : ∀ p, pdom h p → A (pad σ η p) → B (pad σ η p)) : Rep D σ η κ h U H B := ⟨R.1, R.2.1, fun p hp => hAB p hp (R.2.2 p hp)⟩
theorem Rep.size {D : va_G} {σ η : Nat → Nat → Nat} {κ : Nat → Nat} {h : AHp} {U : State} {H : Heap} {A : Nat → Prop} (R : Rep D σ η κ h U H A) {p : Pl} (hp : pdom h p) : pad σ η p < H.size := by
  obtain ⟨r, o, b⟩ := p
  obtain ⟨c, hc, hb⟩ := hp
  have := R.1 r o c hc
  rcases c with ⟨ty, n, x⟩ | ⟨ci, fs⟩ | ⟨n, m, t⟩
  · cases b with
    | true => cases hb rfl
    | false =>
      obtain ⟨cA, q1, -⟩ := this
      exact (Array.getElem?_eq_some_iff.mp q1).1
  · cases b with
    | true => cases hb rfl
    | false =>
      obtain ⟨q, -, cell, q2, -⟩ := this
      exact (Array.getElem?_eq_some_iff.mp q2).1
  · obtain ⟨⟨ml, cell, q1, -⟩, ⟨cA, a, q2, -⟩, -⟩ := this
    cases b with
    | true => exact (Array.getElem?_eq_some_iff.mp q2).1
    | false => exact (Array.getElem?_eq_some_iff.mp q1).1
/-- one cell written, all others as they were -/
theorem Rep.set {D : va_G} {σ η : Nat → Nat → Nat} {κ : Nat → Nat} {h : AHp} {U : State} {H H1 : Heap} {A : Nat → Prop} {r o : Nat} {c0 c : ACell} (R : Rep D σ η κ h U H A) (hg : hget h r o = some c0) (h0 : isSb c0 = false) (h1 : isSb c = false)
    (hc : atC D σ η κ U H1 r o c) (oq : ∀ q : Nat, q ≠ σ r o → H1[q]? = H[q]?) : Rep D σ η κ (hset h r o c) U H1 A := by
  have key : ∀ p, pdom (hset h r o c) p → pdom h p := by
    rintro ⟨r2, o2, b⟩ ⟨c2, q1, q2⟩
    rw [hget_set hg] at q1
    by_cases e : r2 = r ∧ o2 = o
    · obtain ⟨rfl, rfl⟩ := e
      rw [if_pos ⟨rfl, rfl⟩] at q1
      cases q1
      cases b with
      | true => exact absurd (q2 rfl) (by rw [h1]; decide)
      | false => exact ⟨c0, hg, fun z => by cases z⟩
    · rw [if_neg e] at q1
      exact ⟨c2, q1, q2⟩
  refine ⟨fun r2 o2 c2 q1 => ?_, fun p q hp hq => R.2.1 p q (key p hp) (key q hq), fun p hp => R.2.2 p (key p hp)⟩
  rw [hget_set hg] at q1
  by_cases e : r2 = r ∧ o2 = o
  · obtain ⟨rfl, rfl⟩ := e
    rw [if_pos ⟨rfl, rfl⟩] at q1
    cases q1
    exact hc
  · rw [if_neg e] at q1
    have hne : ∀ b, pdom h (r2, o2, b) → pad σ η (r2, o2, b) ≠ σ r o := fun b hb he => e (by
      have := R.2.1 (r2, o2, b) (r, o, false) hb ⟨c0, hg, fun z => by cases z⟩ he
      cases this
      exact ⟨rfl, rfl⟩)
    exact (R.1 r2 o2 c2 q1).kept (oq _ (hne false ⟨c2, q1, fun z => by cases z⟩)) (fun hs => oq _ (hne true ⟨c2, q1, fun _ => hs⟩))
