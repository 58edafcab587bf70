/-! ===== the same world in regions ===== -/
/-- where cell o of region r stands among all cells -/
def ofs (h : AHp) (r : Nat) : Nat := ((h.map List.length).take r).sum
def frV (g : Nat → Nat → Nat) : AV → AV
  | .inr (.inl q) => .inr (.inl (g q.1 q.2, 0))
  | v => v
def frC (g : Nat → Nat → Nat) : ACell → ACell
  | .inl (ty, n, .inr (.inr (.inr f))) => .inl (ty, n, .inr (.inr (.inr (f.map (frV g)))))
  | .inr (.inl (ci, fs)) => .inr (.inl (ci, fs.map (frV g)))
  | c => c
abbrev oF (h : AHp) : Nat → Nat → Nat := fun r o => ofs h r + o
def flat (h : AHp) : AHp := h.flatten.map (fun c => [frC (oF h) c])
theorem ofs_s {h : AHp} {r : Nat} {g : List ACell} (e : h[r]? = some g) : ofs h (r + 1) = ofs h r + g.length := by
  unfold ofs
  have hlt : r < h.length := by
    rcases Nat.lt_or_ge r h.length with z | z
    · exact z
    · rw [List.getElem?_eq_none z] at e; cases e
  have e2 : (h.map List.length)[r]? = some g.length := by rw [List.getElem?_map, e]; rfl
  rw [List.take_succ, e2]
  simp
theorem ofs_mono {h : AHp} {r s : Nat} (hrs : r ≤ s) : ofs h r ≤ ofs h s := by
  induction s with
  | zero => rw [show r = 0 by omega]; exact Nat.le_refl _
  | succ s ih =>
    rcases Nat.lt_or_ge r (s + 1) with z | z
    · refine Nat.le_trans (ih (by omega)) ?_
      cases e : h[s]? with
      | some g => rw [ofs_s e]; exact Nat.le_add_right _ _
      | none =>
        unfold ofs
        rw [List.take_succ, List.getElem?_map, e]
        simp
    · rw [show r = s + 1 by omega]; exact Nat.le_refl _
theorem flat_get : ∀ {h : AHp} {r o : Nat} {g : List ACell} {c : ACell}, h[r]? = some g → g[o]? = some c → h.flatten[ofs h r + o]? = some c
  | [], r, o, g, c, e, _ => by simp at e
  | x :: h, 0, o, g, c, e, e2 => by
    simp at e
    subst e
    have hlt : o < x.length := by
      rcases Nat.lt_or_ge o x.length with z | z
      · exact z
      · rw [List.getElem?_eq_none z] at e2; cases e2
    show (x ++ h.flatten)[0 + o]? = some c
    rw [Nat.zero_add, List.getElem?_append_left hlt]
    exact e2
  | x :: h, r + 1, o, g, c, e, e2 => by
    have e : h[r]? = some g := by simpa using e
    have ih := flat_get e e2
    have eo : ofs (x :: h) (r + 1) = x.length + ofs h r := by
      unfold ofs
      simp
    show (x ++ h.flatten)[ofs (x :: h) (r + 1) + o]? = some c
    rw [eo, List.getElem?_append_right (by omega), show x.length + ofs h r + o - x.length = ofs h r + o by omega]
    exact ih
theorem hget_ix {h : AHp} {r o : Nat} {c : ACell} (e : hget h r o = some c) : ∃ g, h[r]? = some g ∧ g[o]? = some c := by
  obtain ⟨g, h1, h2⟩ := hget_some e
  rw [hnth_eq] at h1 h2
  exact ⟨g, h1, h2⟩
theorem hget_flat {h : AHp} {r o : Nat} {c : ACell} (e : hget h r o = some c) : hget (flat h) (oF h r o) 0 = some (frC (oF h) c) := by
  obtain ⟨g, h1, h2⟩ := hget_ix e
  have z := flat_get h1 h2
  refine hget_of (g := [frC (oF h) c]) ?_ rfl
  rw [hnth_eq]
  unfold flat
  rw [List.getElem?_map]
  show (h.flatten[ofs h r + o]?).map _ = _
  rw [z]; rfl
theorem oF_inj {h : AHp} {r o r2 o2 : Nat} {c c2 : ACell} (e : hget h r o = some c) (e2 : hget h r2 o2 = some c2) (q : oF h r o = oF h r2 o2) : r = r2 ∧ o = o2 := by
  obtain ⟨g, h1, h2⟩ := hget_ix e
  obtain ⟨g2, h3, h4⟩ := hget_ix e2
  have q : ofs h r + o = ofs h r2 + o2 := q
  have l1 : o < g.length := by
    rcases Nat.lt_or_ge o g.length with z | z
    · exact z
    · rw [List.getElem?_eq_none z] at h2; cases h2
  have l2 : o2 < g2.length := by
    rcases Nat.lt_or_ge o2 g2.length with z | z
    · exact z
    · rw [List.getElem?_eq_none z] at h4; cases h4
  have s1 := ofs_s h1
  have s2 := ofs_s h3
  rcases Nat.lt_trichotomy r r2 with z | z | z
  · have := ofs_mono (h := h) (r := r + 1) (s := r2) z
    omega
  · subst z
    exact ⟨rfl, by omega⟩
  · have := ofs_mono (h := h) (r := r2 + 1) (s := r) z
    omega
theorem frV_tr {σ : Nat → Nat → Nat} {κ : Nat → Nat} {g : Nat → Nat → Nat} (v : AV) : tr σ κ (frV g v) = tr (fun r o => σ (g r o) 0) κ v := by
  rcases v with v | q | j <;> rfl
theorem frC_sb (g : Nat → Nat → Nat) (c : ACell) : isSb (frC g c) = isSb c := by
  rcases c with ⟨ty, n, x⟩ | ⟨ci, fs⟩ | ⟨n, m, t⟩
  · rcases x with f | f | f | f <;> rfl
  · rfl
  · rfl
theorem frC_at {D : va_G} {σ η : Nat → Nat → Nat} {κ : Nat → Nat} {U : State} {H : Heap} {g : Nat → Nat → Nat} {r o : Nat} {c : ACell} (h : atC D σ η κ U H (g r o) 0 (frC g c)) : atC D (fun r o => σ (g r o) 0) (fun r o => η (g r o) 0) κ U H r o c := by
  rcases c with ⟨ty, n, x⟩ | ⟨ci, fs⟩ | ⟨n, m, t⟩
  · rcases x with f | f | f | f
    · exact h
    · exact h
    · exact h
    · obtain ⟨cA, h1, h2⟩ := h
      have e : ael (fun r o => σ (g r o) 0) κ (.inr (.inr (.inr f))) = ael σ κ (.inr (.inr (.inr (f.map (frV g))))) := by
        funext j
        show tr (fun r o => σ (g r o) 0) κ ((hnth f j).getD vN) = tr σ κ ((hnth (f.map (frV g)) j).getD vN)
        rw [hnth_eq, hnth_eq, List.getElem?_map]
        cases f[j]? with
        | none => rfl
        | some v => exact (frV_tr v).symm
      exact ⟨cA, by rw [e]; exact h1, h2⟩
  · obtain ⟨q, h1, h2⟩ := h
    have e : fs.map (tr (fun r o => σ (g r o) 0) κ) = (fs.map (frV g)).map (tr σ κ) := by
      rw [List.map_map]
      exact List.map_congr_left fun v _ => (frV_tr v).symm
    exact ⟨q, h1, by rw [e]; exact h2⟩
  · exact h
theorem Rep.unflat {D : va_G} {σ η : Nat → Nat → Nat} {κ : Nat → Nat} {h : AHp} {U : State} {H : Heap} {A : Nat → Prop} (R : Rep D σ η κ (flat h) U H A) : Rep D (fun r o => σ (oF h r o) 0) (fun r o => η (oF h r o) 0) κ h U H A := by
  have padE : ∀ p : Pl, pad (fun r o => σ (oF h r o) 0) (fun r o => η (oF h r o) 0) p = pad σ η (oF h p.1 p.2.1, 0, p.2.2) := by
    rintro ⟨r, o, b⟩
    cases b <;> rfl
  have dom : ∀ p : Pl, pdom h p → pdom (flat h) (oF h p.1 p.2.1, 0, p.2.2) := by
    rintro ⟨r, o, b⟩ ⟨c, h1, h2⟩
    exact ⟨_, hget_flat h1, fun w => by rw [frC_sb]; exact h2 w⟩
  refine ⟨fun r o c e => frC_at (R.1 _ _ _ (hget_flat e)), fun p q hp hq he => ?_, fun p hp => ?_⟩
  · rw [padE, padE] at he
    have z := R.2.1 _ _ (dom p hp) (dom q hq) he
    obtain ⟨c1, p1, -⟩ := hp
    obtain ⟨c2, q1, -⟩ := hq
    have z1 : oF h p.1 p.2.1 = oF h q.1 q.2.1 := congrArg Prod.fst z
    have z2 : p.2.2 = q.2.2 := congrArg (fun x => x.2.2) z
    obtain ⟨w1, w2⟩ := oF_inj p1 q1 z1
    exact Prod.ext w1 (Prod.ext w2 z2)
  · rw [padE]
    exact R.2.2 _ (dom p hp)
def zI0 : FI := fun _ => 0
/-- the first ship -/
def S00 : SH := ((0, zI0, zI0, zI0, zI0, zI0, zI0), (0, 0, zI0, zI0, zI0), (0, zI0, zI0, 0, zI0), (0, 2, 5, 0, 0))
def K00 : KS' := ((S00, S00, S00, S00), (0, 0, fun _ => S00), (0, 0, 0, 0), (0, 16, z0), (0, 16, z0), (0, 0, 0, fun _ => 0, fun _ => zI0), (0, 0, 0, 0, 0))
set_option maxRecDepth 20000 in
theorem wFl_eq : wFl = flat (world K00) := by
  rfl
