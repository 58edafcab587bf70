/-! ===== a StringBuilder opened into its object and its bytes, and closed; copies of bytes ===== -/
theorem atC_eta {D : va_G} {σ η η2 : Nat → Nat → Nat} {κ : Nat → Nat} {U : State} {H : Heap} {r o : Nat} {c : ACell} (he : η2 r o = η r o) (h : atC D σ η κ U H r o c) : atC D σ η2 κ U H r o c := by
  rcases c with ⟨ty, n, x⟩ | ⟨ci, fs⟩ | ⟨n, m, t⟩
  · exact h
  · exact h
  · obtain ⟨⟨ml, h1⟩, h2, h3⟩ := h
    exact ⟨⟨ml, by rw [he]; exact h1⟩, by rw [he]; exact h2, h3⟩
section AS
variable {γ : CX} {own : String} {cc : ByteArray} {σ σ2 : Nat → Nat → Nat} {k n pc : Nat} {ls : List (Nat × AV)} {st : List AV} {h : AHp}
theorem At.opn {r o nn m : Nat} {t : Nat → Nat} (hg : hget h r o = some (aB nn m t)) (hb : bdH h.length h = true) (hbl : ls.all (fun q => bdV h.length q.2) = true) (hbs : st.all (bdV h.length) = true)
    (g : ∀ (σ2 : Nat → Nat → Nat) (ml : Int32) (a : Nat → Int32), grown σ σ2 h.length → sb_Lat t nn a → sb_Fit a → nn ≤ m → m ≤ 65536 → At γ σ2 k n pc ls st (hset h r o (aO 1 [vR h.length 0, vI 0, vI ml, vI (nI nn)]) ++ [[.inl (.byte, m, .inl a)]])) : At γ σ k n pc ls st h := fun η H locs lsA a b c => by
  obtain ⟨⟨ml, h1⟩, ⟨cA, x, h2, h3, h4, h5, h6⟩, h7, h8⟩ := a.1 r o _ hg
  have hr := hget_lt hg
  have hs : grown σ (fun r' o' => if r' < h.length then σ r' o' else η r o) h.length := fun r hr o => if_pos hr
  have hnew : ∀ o', (fun r' o' => if r' < h.length then σ r' o' else η r o) h.length o' = η r o := fun o' => if_neg (Nat.lt_irrefl _)
  have hlen : (hset h r o (aO 1 [vR h.length 0, vI 0, vI ml, vI (nI nn)])).length = h.length := hset_length _ _ _ _
  have hd1 : pdom h (r, o, true) := ⟨_, hg, fun _ => rfl⟩
  have cell : ∀ {r' o' : Nat} {c' : ACell}, hget (hset h r o (aO 1 [vR h.length 0, vI 0, vI ml, vI (nI nn)]) ++ [[.inl (.byte, m, .inl x)]]) r' o' = some c' → (r' = r ∧ o' = o ∧ c' = aO 1 [vR h.length 0, vI 0, vI ml, vI (nI nn)]) ∨ (¬ (r' = r ∧ o' = o) ∧ hget h r' o' = some c') ∨ (r' = h.length ∧ o' = 0 ∧ c' = .inl (.byte, m, .inl x)) := by
    intro r' o' c' e
    rcases hget_app e with ⟨q1, q2⟩ | ⟨q1, q2⟩
    · rw [hget_set hg] at q2
      by_cases z : r' = r ∧ o' = o
      · rw [if_pos z] at q2
        cases q2
        exact Or.inl ⟨z.1, z.2, rfl⟩
      · rw [if_neg z] at q2
        exact Or.inr (Or.inl ⟨z, q2⟩)
    · obtain ⟨gg, q3, q4⟩ := hget_some q2
      rw [hlen] at q1 q3
      have hr : r' - h.length = 0 := by have := hnth_lt q3; simp at this; omega
      have hr : r' = h.length := by omega
      subst hr
      rw [Nat.sub_self] at q3
      cases q3
      have ho : o' = 0 := by have := hnth_lt q4; simp at this; omega
      subst ho
      cases q4
      exact Or.inr (Or.inr ⟨rfl, rfl, rfl⟩)
  have place : ∀ {p : Pl}, pdom (hset h r o (aO 1 [vR h.length 0, vI 0, vI ml, vI (nI nn)]) ++ [[.inl (.byte, m, .inl x)]]) p → (p.1 < h.length ∧ pdom h p ∧ p ≠ (r, o, true)) ∨ (p = (h.length, 0, false)) := by
    rintro ⟨r', o', b'⟩ ⟨c2, q1, q2⟩
    rcases cell q1 with ⟨rfl, rfl, rfl⟩ | ⟨z, q3⟩ | ⟨rfl, rfl, rfl⟩
    · cases b' with
      | true => cases q2 rfl
      | false => exact Or.inl ⟨hr, hget_pl hg, fun z => by cases z⟩
    · exact Or.inl ⟨hget_lt q3, ⟨c2, q3, q2⟩, fun z9 => z (by cases z9; exact ⟨rfl, rfl⟩)⟩
    · cases b' with
      | true => cases q2 rfl
      | false => exact Or.inr rfl
  have padL : ∀ {p : Pl}, p.1 < h.length → pad (fun r' o' => if r' < h.length then σ r' o' else η r o) η p = pad σ η p := by
    rintro ⟨r', o', b'⟩ hp
    cases b' with
    | true => rfl
    | false => exact if_pos hp
  have padN : pad (fun r' o' => if r' < h.length then σ r' o' else η r o) η (h.length, 0, false) = pad σ η (r, o, true) := if_neg (Nat.lt_irrefl _)
  have g2 := g _ ml x hs h5 h6 h7 h8 η H locs lsA ⟨fun r' o' c' e => ?_, fun p q hp hq he => ?_, fun p hp => ?_⟩ b (by rw [trL_bd hs hbl]; exact c)
  · rw [bdV_trL hs hbs] at g2
    exact g2
  · rcases cell e with ⟨rfl, rfl, rfl⟩ | ⟨z, q3⟩ | ⟨rfl, rfl, rfl⟩
    · refine ⟨(RJ4, TJ4, 4), rfl, ?_⟩
      have e9 : ([vR h.length 0, vI 0, vI ml, vI (nI nn)] : List AV).map (tr (fun r1 o1 => if r1 < h.length then σ r1 o1 else η r' o') (cκ γ)) = [.ref (η r' o'), .int 0, .int ml, .int (nI nn)] := by
        show [Value.ref (if h.length < h.length then σ h.length 0 else η r' o'), _, _, _] = _
        rw [if_neg (Nat.lt_irrefl _)]
        rfl
      rw [e9, hs _ hr]
      exact h1
    · exact bdC_at hs (fun _ _ _ => rfl) (hget_lt q3) (bdH_get hb q3) (a.1 r' o' c' q3)
    · refine ⟨cA, ?_, h3, h4⟩
      rw [hnew]
      exact h2
  · rcases place hp with ⟨p1, p2, p3⟩ | rfl <;> rcases place hq with ⟨q1, q2, q3⟩ | rfl
    · rw [padL p1, padL q1] at he
      exact a.2.1 _ _ p2 q2 he
    · rw [padL p1, padN] at he
      exact absurd (a.2.1 _ _ p2 hd1 he) p3
    · rw [padN, padL q1] at he
      exact absurd (a.2.1 _ _ q2 hd1 he.symm) q3
    · rfl
  · rcases place hp with ⟨p1, p2, p3⟩ | rfl
    · rw [padL p1]
      exact a.2.2 _ p2
    · rw [padN]
      exact a.2.2 _ hd1
theorem hget_take {h : AHp} {N r o : Nat} {c : ACell} (e : hget (h.take N) r o = some c) : r < N ∧ hget h r o = some c := by
  obtain ⟨g, h1, h2⟩ := hget_some e
  rw [hnth_eq] at h1
  obtain ⟨q1, q2⟩ := List.getElem?_eq_some_iff.mp h1
  have hr : r < N := by simp at q1; omega
  refine ⟨hr, hget_of ?_ h2⟩
  rw [hnth_eq, ← h1, List.getElem?_take, if_pos hr]
theorem At.cls {N r o r2 nn m : Nat} {t : Nat → Nat} {ml : Int32} {x : Nat → Int32} (hg : hget h r o = some (aO 1 [vR r2 0, vI 0, vI ml, vI (nI nn)])) (hg2 : hget h r2 0 = some (.inl (.byte, m, .inl x))) (hL : sb_Lat t nn x) (hFt : sb_Fit x) (hnm : nn ≤ m) (hm : m ≤ 65536) (hr : r < N) (hr2 : N ≤ r2)
    (hb : bdH N ((hset h r o (aB nn m t)).take N) = true) (hs : grown σ σ2 N) (hbl : ls.all (fun q => bdV N q.2) = true) (hbs : st.all (bdV N) = true) (g : At γ σ k n pc ls st ((hset h r o (aB nn m t)).take N)) : At γ σ2 k n pc ls st h := fun η H locs lsA a b c => by
  obtain ⟨q, e1, f1⟩ := a.1 r o _ hg
  obtain ⟨cA, e2, e3, e4⟩ := a.1 r2 0 _ hg2
  have hq : q = (RJ4, TJ4, 4) := Option.some.inj (e1.symm.trans rfl)
  subst hq
  let η2 : Nat → Nat → Nat := fun r' o' => if r' = r ∧ o' = o then σ2 r2 0 else η r' o'
  have hη : η2 r o = σ2 r2 0 := if_pos ⟨rfl, rfl⟩
  have hηn : ∀ {r' o' : Nat}, ¬ (r' = r ∧ o' = o) → η2 r' o' = η r' o' := fun z => if_neg z
  have hs2 : grown σ2 σ N := fun r hr o => (hs r hr o).symm
  have cell : ∀ {r' o' : Nat} {c' : ACell}, hget ((hset h r o (aB nn m t)).take N) r' o' = some c' → r' < N ∧ ((r' = r ∧ o' = o ∧ c' = aB nn m t) ∨ (¬ (r' = r ∧ o' = o) ∧ hget h r' o' = some c')) := by
    intro r' o' c' e
    obtain ⟨q1, q2⟩ := hget_take e
    rw [hget_set hg] at q2
    by_cases z : r' = r ∧ o' = o
    · rw [if_pos z] at q2
      cases q2
      exact ⟨q1, Or.inl ⟨z.1, z.2, rfl⟩⟩
    · rw [if_neg z] at q2
      exact ⟨q1, Or.inr ⟨z, q2⟩⟩
  have place : ∀ {p : Pl}, pdom ((hset h r o (aB nn m t)).take N) p → p = (r, o, true) ∨ (p.1 < N ∧ pdom h p ∧ p ≠ (r, o, true)) := by
    rintro ⟨r', o', b'⟩ ⟨c2, q1, q2⟩
    obtain ⟨q0, q1⟩ := cell q1
    rcases q1 with ⟨rfl, rfl, rfl⟩ | ⟨z, q3⟩
    · cases b' with
      | true => exact Or.inl rfl
      | false => exact Or.inr ⟨q0, hget_pl hg, fun z => by cases z⟩
    · exact Or.inr ⟨q0, ⟨c2, q3, q2⟩, fun z9 => z (by cases z9; exact ⟨rfl, rfl⟩)⟩
  have padT : pad σ η2 (r, o, true) = pad σ2 η (r2, 0, false) := hη
  have padL : ∀ {p : Pl}, p.1 < N → p ≠ (r, o, true) → pad σ η2 p = pad σ2 η p := by
    rintro ⟨r', o', b'⟩ hp hne
    cases b' with
    | true =>
      have z0 : ¬ (r' = r ∧ o' = o) := fun z => by
        obtain ⟨rfl, rfl⟩ := z
        exact hne rfl
      exact hηn z0
    | false => exact (hs r' hp o').symm
  have hd2 : pdom h (r2, 0, false) := hget_pl hg2
  have g2 := g η2 H locs lsA ⟨fun r' o' c' e => ?_, fun p q hp hq he => ?_, fun p hp => ?_⟩ b (by rw [← trL_bd hs hbl]; exact c)
  · rw [bdV_trL hs2 hbs] at g2
    exact g2
  · obtain ⟨q0, q1⟩ := cell e
    rcases q1 with ⟨rfl, rfl, rfl⟩ | ⟨z, q3⟩
    · refine ⟨⟨ml, ?_⟩, ⟨cA, x, ?_, e3, e4, hL, hFt⟩, hnm, hm⟩
      · rw [hη, ← hs _ hr]
        exact f1
      · rw [hη]
        exact e2
    · exact atC_eta (hηn z) (bdC_at (η := η) hs2 (fun _ _ _ => rfl) q0 (bdH_get hb e) (a.1 r' o' c' q3))
  · rcases place hp with rfl | ⟨p1, p2, p3⟩ <;> rcases place hq with rfl | ⟨q1, q2, q3⟩
    · rfl
    · rw [padT, padL q1 q3] at he
      have := a.2.1 _ _ hd2 q2 he
      rw [← this] at q1
      exact absurd q1 (by show ¬ r2 < N; omega)
    · rw [padL p1 p3, padT] at he
      have := a.2.1 _ _ p2 hd2 he
      rw [this] at p1
      exact absurd p1 (by show ¬ r2 < N; omega)
    · rw [padL p1 p3, padL q1 q3] at he
      exact a.2.1 _ _ p2 q2 he
  · rcases place hp with rfl | ⟨p1, p2, p3⟩
    · rw [padT]
      exact a.2.2 _ hd2
    · rw [padL p1 p3]
      exact a.2.2 _ p2
theorem nnI {z : Int32} (hz : ¬ z < 0) : z.toInt = (z.toNatClampNeg : Int) := by
  have hz0 : (0 : Int) ≤ z.toInt := by
    have := Int32.not_lt.mp hz
    simpa using Int32.le_iff_toInt_le.mp this
  show z.toInt = ((z.toInt.toNat : Nat) : Int)
  omega
/-- arraycopy of bytes between two cells -/
theorem At.copyb {ix : Nat} (O : OK γ own cc) (w : Cond.methodLink own ix arraycopyName ∈ GT) {r0 o0 r1 o1 n0 n1 : Nat} {f g : Nat → Int32} (hg0 : hget h r0 o0 = some (.inl (.byte, n0, .inl f))) (hg1 : hget h r1 o1 = some (.inl (.byte, n1, .inl g))) (hft : sb_Fit f)
    {sp dp m : Int32} (h1 : ¬ sp < 0) (h2 : ¬ dp < 0) (h3 : ¬ m < 0) (h4 : sp.toNatClampNeg + m.toNatClampNeg ≤ n0) (h5 : dp.toNatClampNeg + m.toNatClampNeg ≤ n1) (hf : Fit γ k n 0 0 0) (hrw : wsum st ≤ 8) (d : decode cc pc = .ok (.invokestatic ix, 3))
    (gg : At γ σ k n (pc + 3) ls st (hset h r1 o1 (.inl (.byte, n1, .inl (va_cpy f g sp.toNatClampNeg dp.toNatClampNeg m.toNatClampNeg))))) : At γ σ k n pc ls (vI m :: vI dp :: vR r1 o1 :: vI sp :: vR r0 o0 :: st) h := by
  intro η H locs lsA a b c T hT X
  have hw := wsum_eq (σ := σ) (κ := cκ γ) st
  obtain ⟨c0, hc0, p0, -⟩ := a.1 r0 o0 _ hg0
  obtain ⟨c1, hc1, p1, p2⟩ := a.1 r1 o1 _ hg1
  have hc0 : H[σ r0 o0]? = some (vp_cell c0 (n0, .inl f)) := hc0
  have hc1 : H[σ r1 o1]? = some (vp_cell c1 (n1, .inl g)) := hc1
  obtain ⟨-, k0, hk0, cm0, hkk0⟩ := p0 n0 (fun j => .int (f j))
  obtain ⟨-, k1, hk1, cm1, hkk1⟩ := p1 n1 (fun j => .int (g j))
  obtain ⟨vm', X', step⟩ := X.arraycopy O.1 O.2.2.1 (O.2.2.2.1 _ w) (O.2.2.2.1 _ ac_na) (O.2.2.2.1 _ ac_st) (O.2.2.2.1 _ ac_in) (src := σ r0 o0) (dst := σ r1 o1) (cs := vp_cell c0 (n0, .inl f)) (cd := vp_cell c1 (n1, .inl g)) (srcPos := sp) (destPos := dp) (n := m) (by rw [hT]; exact hc0) (by rw [hT]; exact hc1)
    (fun _ h => by cases h) (fun _ h => by cases h) (fun h => by cases h) (fun h => by cases h) hk0 hk1 hkk0 hkk1 (by simp [refKind]) h1 h2 h3
    (by rw [nnI h1, nnI h3]; show ¬ _ > ((arrV c0 n0 (fun j => .int (f j))).slots.size : Int); rw [arrV_size]; omega)
    (by rw [nnI h2, nnI h3]; show ¬ _ > ((arrV c1 n1 (fun j => .int (g j))).slots.size : Int); rw [arrV_size]; omega)
    (fun vm₁ _ i hi => by
      have e : (vp_cell c0 (n0, .inl f)).slots.getD (sp.toNatClampNeg + i) .null = .int (f (sp.toNatClampNeg + i)) := by
        show (arrV c0 n0 (fun j => .int (f j))).slots.getD _ _ = _
        rw [Array.getD_eq_getD_getElem?, arrV_read _ _ (by omega)]
        rfl
      refine ⟨?_, ?_⟩
      · rw [e]; exact hft _
      · rw [e]
        exact trivial)
    (g := F0 (cM γ) pc lsA ((vI m :: vI dp :: vR r1 o1 :: vI sp :: vR r0 o0 :: st).map (tr σ (cκ γ)))) rfl c.1 (rest := st.map (tr σ (cκ γ))) rfl (by rw [O.2.1]; exact d) hf.1 (by
      have := hf.2.1
      have e0 : nativeFrameWords "java/lang/System" "arraycopy" 5 + 11 ≤ 40 := by decide
      show 2 * 0 + _ + _ ≤ _
      omega)
  have e1 : copied (vp_cell c0 (n0, .inl f)) (vp_cell c1 (n1, .inl g)) sp dp m = vp_cell c1 (n1, .inl (va_cpy f g sp.toNatClampNeg dp.toNatClampNeg m.toNatClampNeg)) := va_copied (fun z => .int z) c0 c1 f g h4
  rw [e1] at X' step
  have hl : σ r1 o1 < H.size := (Array.getElem?_eq_some_iff.mp hc1).1
  have hheap : ((T.setVm vm').setCell (σ r1 o1) (vp_cell c1 (n1, .inl (va_cpy f g sp.toNatClampNeg dp.toNatClampNeg m.toNatClampNeg)))).heap = H.setIfInBounds (σ r1 o1) (vp_cell c1 (n1, .inl (va_cpy f g sp.toNatClampNeg dp.toNatClampNeg m.toNatClampNeg))) := by rw [← hT]; rfl
  have oq : ∀ q : Nat, q ≠ σ r1 o1 → (H.setIfInBounds (σ r1 o1) (vp_cell c1 (n1, .inl (va_cpy f g sp.toNatClampNeg dp.toNatClampNeg m.toNatClampNeg))))[q]? = H[q]? := fun q hq => by simp [Array.getElem?_setIfInBounds, Ne.symm hq]
  have hFa : cF γ (σ r1 o1) := a.2.2 (r1, o1, false) (hget_pl hg1)
  obtain ⟨t, a1, b1⟩ := gg η _ _ lsA (a.set hg1 rfl rfl ⟨c1, (show (H.setIfInBounds (σ r1 o1) _)[σ r1 o1]? = some _ by (simp [Array.getElem?_setIfInBounds, hl]; rfl)), p1, p2⟩ oq) ⟨by simp; exact b.1, fun q g1 g2 => by
      rw [oq q (fun e => g2 (by rw [e]; exact hFa))]
      exact b.2.1 q g1 g2, fun q hq => by
      rcases List.mem_append.mp hq with h | h
      · exact b.2.2 q h
      · obtain ⟨z, -, hz⟩ := List.mem_map.mp h
        rw [← hz]
        exact hFa⟩ c _ hheap X'
  exact ⟨t, step t a1, b1⟩
/-- arraycopy of bytes out of an array that nobody writes -/
theorem At.copyT {ix : Nat} (O : OK γ own cc) (w : Cond.methodLink own ix arraycopyName ∈ GT) {t0 r1 o1 n0 n1 : Nat} {x : AV} {f g : Nat → Int32} (hT0 : va_T .byte t0 n0 (fun j => .int (f j)) (cF γ) (cS γ) (cS γ).heap) (hx : tr σ (cκ γ) x = .ref t0) (hg1 : hget h r1 o1 = some (.inl (.byte, n1, .inl g))) (hft : sb_Fit f)
    {sp dp m : Int32} (h1 : ¬ sp < 0) (h2 : ¬ dp < 0) (h3 : ¬ m < 0) (h4 : sp.toNatClampNeg + m.toNatClampNeg ≤ n0) (h5 : dp.toNatClampNeg + m.toNatClampNeg ≤ n1) (hf : Fit γ k n 0 0 0) (hrw : wsum st ≤ 8) (d : decode cc pc = .ok (.invokestatic ix, 3))
    (gg : At γ σ k n (pc + 3) ls st (hset h r1 o1 (.inl (.byte, n1, .inl (va_cpy f g sp.toNatClampNeg dp.toNatClampNeg m.toNatClampNeg))))) : At γ σ k n pc ls (vI m :: vI dp :: vR r1 o1 :: vI sp :: x :: st) h := by
  intro η H locs lsA a b c T hT X
  have hw := wsum_eq (σ := σ) (κ := cκ γ) st
  obtain ⟨scr, hs1, hs2, hs3, hs4, -, hs5, hs7⟩ := hT0
  obtain ⟨c1, hc1, p1, p2⟩ := a.1 r1 o1 _ hg1
  have hc0 : H[t0]? = some scr := by rw [b.2.1 t0 (Array.getElem?_eq_some_iff.mp hs1).1 hs7]; exact hs1
  have hc1 : H[σ r1 o1]? = some (vp_cell c1 (n1, .inl g)) := hc1
  obtain ⟨hs6, k0, hk0, cm0, hkk0⟩ := hs2
  obtain ⟨-, k1, hk1, cm1, hkk1⟩ := p1 n1 (fun j => .int (g j))
  obtain ⟨vm', X', step⟩ := X.arraycopy O.1 O.2.2.1 (O.2.2.2.1 _ w) (O.2.2.2.1 _ ac_na) (O.2.2.2.1 _ ac_st) (O.2.2.2.1 _ ac_in) (src := t0) (dst := σ r1 o1) (cs := scr) (cd := vp_cell c1 (n1, .inl g)) (srcPos := sp) (destPos := dp) (n := m) (by rw [hT]; exact hc0) (by rw [hT]; exact hc1)
    hs6 (fun _ h => by cases h) hs3 (fun h => by cases h) hk0 hk1 hkk0 hkk1 (by simp [refKind]) h1 h2 h3
    (by rw [nnI h1, nnI h3]; omega)
    (by rw [nnI h2, nnI h3]; show ¬ _ > ((arrV c1 n1 (fun j => .int (g j))).slots.size : Int); rw [arrV_size]; omega)
    (fun vm₁ _ i hi => by
      have e : scr.slots.getD (sp.toNatClampNeg + i) .null = .int (f (sp.toNatClampNeg + i)) := by
        rw [Array.getD_eq_getD_getElem?, hs5 _ (by omega)]
        rfl
      refine ⟨?_, ?_⟩
      · rw [e]; exact hft _
      · rw [e]
        exact trivial)
    (g := F0 (cM γ) pc lsA (.int m :: .int dp :: .ref (σ r1 o1) :: .int sp :: .ref t0 :: st.map (tr σ (cκ γ)))) rfl c.1 (rest := st.map (tr σ (cκ γ))) rfl (by rw [O.2.1]; exact d) hf.1 (by
      have := hf.2.1
      have e0 : nativeFrameWords "java/lang/System" "arraycopy" 5 + 11 ≤ 40 := by decide
      show 2 * 0 + _ + _ ≤ _
      omega)
  have e1 : copied scr (vp_cell c1 (n1, .inl g)) sp dp m = vp_cell c1 (n1, .inl (va_cpy f g sp.toNatClampNeg dp.toNatClampNeg m.toNatClampNeg)) := va_copiedX (fun z => .int z) scr c1 f g hs5 h4
  rw [e1] at X' step
  have hl : σ r1 o1 < H.size := (Array.getElem?_eq_some_iff.mp hc1).1
  have hheap : ((T.setVm vm').setCell (σ r1 o1) (vp_cell c1 (n1, .inl (va_cpy f g sp.toNatClampNeg dp.toNatClampNeg m.toNatClampNeg)))).heap = H.setIfInBounds (σ r1 o1) (vp_cell c1 (n1, .inl (va_cpy f g sp.toNatClampNeg dp.toNatClampNeg m.toNatClampNeg))) := by rw [← hT]; rfl
  have oq : ∀ q : Nat, q ≠ σ r1 o1 → (H.setIfInBounds (σ r1 o1) (vp_cell c1 (n1, .inl (va_cpy f g sp.toNatClampNeg dp.toNatClampNeg m.toNatClampNeg))))[q]? = H[q]? := fun q hq => by simp [Array.getElem?_setIfInBounds, Ne.symm hq]
  have hFa : cF γ (σ r1 o1) := a.2.2 (r1, o1, false) (hget_pl hg1)
  obtain ⟨t, a1, b1⟩ := gg η _ _ lsA (a.set hg1 rfl rfl ⟨c1, (show (H.setIfInBounds (σ r1 o1) _)[σ r1 o1]? = some _ by (simp [Array.getElem?_setIfInBounds, hl]; rfl)), p1, p2⟩ oq) ⟨by simp; exact b.1, fun q g1 g2 => by
      rw [oq q (fun e => g2 (by rw [e]; exact hFa))]
      exact b.2.1 q g1 g2, fun q hq => by
      rcases List.mem_append.mp hq with h | h
      · exact b.2.2 q h
      · obtain ⟨z, -, hz⟩ := List.mem_map.mp h
        rw [← hz]
        exact hFa⟩ c _ hheap X'
  refine ⟨t, ?_, b1⟩
  have := step t a1
  simp only [List.map_cons]
  rw [hx]
  exact this
end AS
