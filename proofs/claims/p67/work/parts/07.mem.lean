/-! ===== rows of locals and of the heap ===== -/
def lvget : List (Nat × AV) → Nat → Option AV
  | [], _ => none
  | (m, v) :: l, i => match Nat.beq m i with
    | true => some v
    | false => lvget l i
/-- v at place i, where a value stood (in its place), else at the end -/
def lvset : List (Nat × AV) → Nat → AV → List (Nat × AV)
  | [], i, v => [(i, v)]
  | (m, w) :: l, i, v => match Nat.beq m i with
    | true => (m, v) :: l
    | false => (m, w) :: lvset l i v
/-- no place twice, none of two words but far from i -/
def is2 : AV → Bool
  | .inl (.long _) => true
  | .inl (.double _) => true
  | _ => false
def lvok : List (Nat × AV) → Nat → Bool
  | [], _ => true
  | (m, w) :: l, i => match Nat.beq m i with
    | true => !(is2 w) && lvok1 l i
    | false => !(is2 w) && lvok l i
where lvok1 : List (Nat × AV) → Nat → Bool
  | [], _ => true
  | (m, w) :: l, i => !(Nat.beq m i) && !(is2 w) && lvok1 l i
theorem lvget_mem : ∀ {ls : List (Nat × AV)} {i : Nat} {v : AV}, lvget ls i = some v → (i, v) ∈ ls
  | [], _, _, h => by cases h
  | (m, w) :: l, i, v, h => by
    unfold lvget at h
    cases e : Nat.beq m i with
    | true =>
      rw [e] at h
      cases h
      rw [Nat.eq_of_beq_eq_true e]
      exact List.mem_cons_self
    | false =>
      rw [e] at h
      exact List.mem_cons_of_mem _ (lvget_mem h)
theorem lvok1_mem : ∀ {ls : List (Nat × AV)} {i : Nat}, lvok.lvok1 ls i = true → ∀ q ∈ ls, q.1 ≠ i ∧ is2 q.2 = false
  | [], _, _, q, hq => by cases hq
  | (m, w) :: l, i, h, q, hq => by
    simp only [lvok.lvok1, Bool.and_eq_true, Bool.not_eq_true'] at h
    rcases List.mem_cons.mp hq with rfl | hq
    · refine ⟨fun e => ?_, h.1.2⟩
      have := h.1.1
      rw [show m = i from e, Nat.beq_refl] at this
      cases this
    · exact lvok1_mem h.2 q hq
theorem lvset_mem : ∀ {ls : List (Nat × AV)} {i : Nat} {v : AV}, lvok ls i = true → ∀ q ∈ lvset ls i v, q = (i, v) ∨ (q ∈ ls ∧ q.1 ≠ i ∧ is2 q.2 = false)
  | [], i, v, _, q, hq => by
    simp only [lvset, List.mem_singleton] at hq
    exact Or.inl hq
  | (m, w) :: l, i, v, h, q, hq => by
    unfold lvset at hq
    unfold lvok at h
    cases e : Nat.beq m i with
    | true =>
      rw [e] at h hq
      simp only [Bool.and_eq_true, Bool.not_eq_true'] at h
      rcases List.mem_cons.mp hq with rfl | hq
      · exact Or.inl (by rw [Nat.eq_of_beq_eq_true e])
      · exact Or.inr ⟨List.mem_cons_of_mem _ hq, lvok1_mem h.2 q hq⟩
    | false =>
      rw [e] at h hq
      simp only [Bool.and_eq_true, Bool.not_eq_true'] at h
      rcases List.mem_cons.mp hq with rfl | hq
      · refine Or.inr ⟨List.mem_cons_self, fun e2 => ?_, h.1⟩
        rw [show m = i from e2, Nat.beq_refl] at e
        cases e
      · rcases lvset_mem h.2 q hq with h1 | h1
        · exact Or.inl h1
        · exact Or.inr ⟨List.mem_cons_of_mem _ h1.1, h1.2⟩
theorem lv_mono {lsA : Array Slot} {nL : Nat} {l l' : List (Nat × Value)} (h : lv_has lsA nL l) (hs : ∀ q ∈ l', q ∈ l) : lv_has lsA nL l' := ⟨h.1, h.2.1, fun q hq => h.2.2 q (hs q hq)⟩
theorem tr_cat2 {σ : Nat → Nat → Nat} {κ : Nat → Nat} {v : AV} (h : is2 v = false) : ((tr σ κ v).category == 2) = false := by
  rcases v with v | q | j
  · cases v <;> first | rfl | (simp [is2] at h)
  · rfl
  · rfl
theorem lvset_has {lsA : Array Slot} {nL i : Nat} {σ : Nat → Nat → Nat} {κ : Nat → Nat} {ls : List (Nat × AV)} {v : AV} (hok : lvok ls i = true)
    (h : lv_has lsA nL ((i, tr σ κ v) :: (trL σ κ ls).filter (fun q => !(q.1 == i) && !(q.1 + 1 == i && q.2.category == 2)))) : lv_has lsA nL (trL σ κ (lvset ls i v)) := by
  refine lv_mono h fun q hq => ?_
  obtain ⟨z, hz, rfl⟩ := List.mem_map.mp hq
  rcases lvset_mem hok z hz with rfl | ⟨h1, h2, h3⟩
  · exact List.mem_cons_self
  · refine List.mem_cons_of_mem _ (List.mem_filter.mpr ⟨List.mem_map.mpr ⟨z, h1, rfl⟩, ?_⟩)
    have e1 : (z.1 == i) = false := by simpa using h2
    have e2 : ((tr σ κ z.2).category == 2) = false := tr_cat2 h3
    dsimp only
    rw [e1, e2]
    simp
section ATL
variable {γ : CX} {own : String} {cc : ByteArray} {σ : Nat → Nat → Nat} {k n pc : Nat} {ls : List (Nat × AV)} {st : List AV} {h : AHp}
theorem At.lv {ls : List (Nat × AV)} {lsA : Array Slot} {i : Nat} {v : AV} {nL : Nat} {κ : Nat → Nat} (c : lv_has lsA nL (trL σ κ ls)) (hv : lvget ls i = some v) : lsA[i]? = some (.val (tr σ κ v)) := c.2.2 (i, tr σ κ v) (List.mem_map.mpr ⟨(i, v), lvget_mem hv, rfl⟩)
theorem At.iload (O : OK γ own cc) {i : Nat} {x : Int32} (d : decode cc pc = .ok (.iload i, 2)) (hv : lvget ls i = some (vI x)) (g : At γ σ k n (pc + 2) ls (vI x :: st) h) : At γ σ k n pc ls st h := fun η H locs lsA a b c => lv_iload O.1 O.2.1 d (At.lv c hv) (g η H locs lsA a b c)
theorem At.iload_n (O : OK γ own cc) {i : Fin 4} {x : Int32} (d : decode cc pc = .ok (.iload_n i, 1)) (hv : lvget ls i = some (vI x)) (g : At γ σ k n (pc + 1) ls (vI x :: st) h) : At γ σ k n pc ls st h := fun η H locs lsA a b c => lv_iload_n O.1 O.2.1 d rfl (At.lv c hv) (g η H locs lsA a b c)
def isRf : AV → Bool
  | .inl (.ref _) => true
  | .inl _ => false
  | _ => true
theorem tr_rf {κ : Nat → Nat} {v : AV} (hv : isRf v = true) : ∃ a, tr σ κ v = .ref a := by
  rcases v with v | q | j
  · cases v with
    | ref a => exact ⟨a, rfl⟩
    | _ => cases hv
  · exact ⟨_, rfl⟩
  · exact ⟨_, rfl⟩
theorem At.aload (O : OK γ own cc) {i : Nat} {v : AV} (d : decode cc pc = .ok (.aload i, 2)) (hv : lvget ls i = some v) (hr : isRf v = true) (g : At γ σ k n (pc + 2) ls (v :: st) h) : At γ σ k n pc ls st h := fun η H locs lsA a b c => by
  have h1 := At.lv c hv
  have h2 := g η H locs lsA a b c
  obtain ⟨x, e⟩ := tr_rf (σ := σ) (κ := cκ γ) hr
  simp only [List.map_cons] at h2
  rw [e] at h1 h2
  exact lv_aload O.1 O.2.1 d h1 h2
theorem At.aload_n (O : OK γ own cc) {i : Fin 4} {v : AV} (d : decode cc pc = .ok (.aload_n i, 1)) (hv : lvget ls i = some v) (hr : isRf v = true) (g : At γ σ k n (pc + 1) ls (v :: st) h) : At γ σ k n pc ls st h := fun η H locs lsA a b c => by
  have h1 := At.lv c hv
  have h2 := g η H locs lsA a b c
  obtain ⟨x, e⟩ := tr_rf (σ := σ) (κ := cκ γ) hr
  simp only [List.map_cons] at h2
  rw [e] at h1 h2
  exact lv_aload_n O.1 O.2.1 d rfl h1 h2
theorem At.aload_nN (O : OK γ own cc) {i : Fin 4} (d : decode cc pc = .ok (.aload_n i, 1)) (hv : lvget ls i = some vN) (g : At γ σ k n (pc + 1) ls (vN :: st) h) : At γ σ k n pc ls st h := fun η H locs lsA a b c => lv_aload_nN O.1 O.2.1 d rfl (At.lv c hv) (g η H locs lsA a b c)
theorem At.istore (O : OK γ own cc) {i : Nat} {x : Int32} (d : decode cc pc = .ok (.istore i, 2)) (hn : i < (cC γ).maxLocals) (ho : lvok ls i = true) (g : At γ σ k n (pc + 2) (lvset ls i (vI x)) st h) : At γ σ k n pc ls (vI x :: st) h := fun η H locs lsA a b c => lv_istore O.1 O.2.1 d c hn rfl (fun lsB cB => g η H locs lsB a b (lvset_has ho cB))
theorem At.istore_n (O : OK γ own cc) {i : Fin 4} {x : Int32} (d : decode cc pc = .ok (.istore_n i, 1)) (hn : i < (cC γ).maxLocals) (ho : lvok ls i = true) (g : At γ σ k n (pc + 1) (lvset ls i (vI x)) st h) : At γ σ k n pc ls (vI x :: st) h := fun η H locs lsA a b c => lv_istore_n O.1 O.2.1 d rfl c hn rfl (fun lsB cB => g η H locs lsB a b (lvset_has ho cB))
theorem At.astore (O : OK γ own cc) {i : Nat} {v : AV} (d : decode cc pc = .ok (.astore i, 2)) (hr : isRf v = true) (hn : i < (cC γ).maxLocals) (ho : lvok ls i = true) (g : At γ σ k n (pc + 2) (lvset ls i v) st h) : At γ σ k n pc ls (v :: st) h := fun η H locs lsA a b c => by
  have h2 := fun lsB cB => g η H locs lsB a b (lvset_has (v := v) ho cB)
  obtain ⟨x, e⟩ := tr_rf (σ := σ) (κ := cκ γ) hr
  simp only [List.map_cons]
  rw [e] at h2 ⊢
  exact lv_astore O.1 O.2.1 d c hn rfl h2
theorem At.astore_n (O : OK γ own cc) {i : Fin 4} {v : AV} (d : decode cc pc = .ok (.astore_n i, 1)) (hr : isRf v = true) (hn : i < (cC γ).maxLocals) (ho : lvok ls i = true) (g : At γ σ k n (pc + 1) (lvset ls i v) st h) : At γ σ k n pc ls (v :: st) h := fun η H locs lsA a b c => by
  have h2 := fun lsB cB => g η H locs lsB a b (lvset_has (v := v) ho cB)
  obtain ⟨x, e⟩ := tr_rf (σ := σ) (κ := cκ γ) hr
  simp only [List.map_cons]
  rw [e] at h2 ⊢
  exact lv_astore_n O.1 O.2.1 d rfl c hn rfl h2
theorem At.iinc (O : OK γ own cc) {i : Nat} {cn : Int} {x y : Int32} (d : decode cc pc = .ok (.iinc i cn, 3)) (hy : Int32.ofInt cn = y) (hv : lvget ls i = some (vI x)) (hn : i < (cC γ).maxLocals) (ho : lvok ls i = true) (g : At γ σ k n (pc + 3) (lvset ls i (vI (x + y))) st h) : At γ σ k n pc ls st h := fun η H locs lsA a b c => by
  obtain ⟨j, hj⟩ := List.getElem?_of_mem (List.mem_map.mpr ⟨(i, vI x), lvget_mem hv, rfl⟩ : (i, Value.int x) ∈ trL σ (cκ γ) ls)
  exact lv_iinc O.1 O.2.1 d c hj (by rw [hy]) hn rfl (fun lsB cB => g η H locs lsB a b (lvset_has ho cB))
/-- fewer locals -/
theorem At.drop {ls' : List (Nat × AV)} (hs : ∀ q ∈ ls', q ∈ ls) (g : At γ σ k n pc ls' st h) : At γ σ k n pc ls st h := fun η H locs lsA a b c => g η H locs lsA a b (lv_mono c fun q hq => by
  obtain ⟨z, hz, rfl⟩ := List.mem_map.mp hq
  exact List.mem_map.mpr ⟨z, hs z hz, rfl⟩)
end ATL
