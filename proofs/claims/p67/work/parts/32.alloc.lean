/-! ===== new cells: a world with more regions ===== -/
/-- refers to regions below N alone -/
def bdV (N : Nat) : AV → Bool
  | .inr (.inl q) => Nat.blt q.1 N
  | _ => true
def bdC (N : Nat) : ACell → Bool
  | .inl (_, _, .inr (.inr (.inr f))) => f.all (bdV N)
  | .inr (.inl (_, fs)) => fs.all (bdV N)
  | _ => true
def bdH (N : Nat) (h : AHp) : Bool := h.all (fun g => g.all (bdC N))
theorem bdV_tr {σ σ2 : Nat → Nat → Nat} {κ : Nat → Nat} {N : Nat} (hs : ∀ r, r < N → ∀ o, σ2 r o = σ r o) {v : AV} (hv : bdV N v = true) : tr σ2 κ v = tr σ κ v := by
  rcases v with v | q | j
  · rfl
  · exact congrArg Value.ref (hs _ (Nat.le_of_ble_eq_true hv) _)
  · rfl
theorem bdV_trL {σ σ2 : Nat → Nat → Nat} {κ : Nat → Nat} {N : Nat} (hs : ∀ r, r < N → ∀ o, σ2 r o = σ r o) {l : List AV} (hv : l.all (bdV N) = true) : l.map (tr σ2 κ) = l.map (tr σ κ) :=
  List.map_congr_left fun v h => bdV_tr hs (List.all_eq_true.mp hv v h)
theorem bdC_at {D : va_G} {σ σ2 η η2 : Nat → Nat → Nat} {κ : Nat → Nat} {U : State} {H : Heap} {r o N : Nat} {c : ACell} (hs : ∀ r, r < N → ∀ o, σ2 r o = σ r o) (he : ∀ r, r < N → ∀ o, η2 r o = η r o) (hr : r < N) (hc : bdC N c = true) (h : atC D σ η κ U H r o c) : atC D σ2 η2 κ U H r o c := by
  rcases c with ⟨ty, n, x⟩ | ⟨ci, fs⟩ | ⟨n, m, t⟩
  · obtain ⟨cA, h1, h2⟩ := h
    have e : ael σ2 κ x = ael σ κ x := by
      funext j
      rcases x with f | f | f | f
      · rfl
      · rfl
      · rfl
      · show tr σ2 κ ((hnth f j).getD vN) = tr σ κ ((hnth f j).getD vN)
        cases hj : hnth f j with
        | none => rfl
        | some v =>
          rw [hnth_eq] at hj
          exact bdV_tr hs (List.all_eq_true.mp hc v (List.mem_of_getElem? hj))
    exact ⟨cA, by rw [e, hs r hr]; exact h1, h2⟩
  · obtain ⟨q, h1, h2⟩ := h
    have e : fs.map (tr σ2 κ) = fs.map (tr σ κ) := bdV_trL hs hc
    exact ⟨q, h1, by rw [e, hs r hr]; exact h2⟩
  · obtain ⟨⟨ml, h1⟩, h2, h3⟩ := h
    exact ⟨⟨ml, by rw [hs r hr, he r hr]; exact h1⟩, by rw [he r hr]; exact h2, h3⟩
theorem hnth_app_lt {α : Type} {l m : List α} {i : Nat} (h : i < l.length) : hnth (l ++ m) i = hnth l i := by rw [hnth_eq, hnth_eq, List.getElem?_append_left h]
theorem hnth_app_ge {α : Type} {l m : List α} {i : Nat} (h : l.length ≤ i) : hnth (l ++ m) i = hnth m (i - l.length) := by rw [hnth_eq, hnth_eq, List.getElem?_append_right h]
theorem hget_app {h m : AHp} {r o : Nat} {c : ACell} (e : hget (h ++ m) r o = some c) : (r < h.length ∧ hget h r o = some c) ∨ (h.length ≤ r ∧ hget m (r - h.length) o = some c) := by
  obtain ⟨g, h1, h2⟩ := hget_some e
  rcases Nat.lt_or_ge r h.length with q | q
  · rw [hnth_app_lt q] at h1
    exact Or.inl ⟨q, hget_of h1 h2⟩
  · rw [hnth_app_ge q] at h1
    exact Or.inr ⟨q, hget_of h1 h2⟩
theorem bdH_get {N : Nat} {h : AHp} (hb : bdH N h = true) {r o : Nat} {c : ACell} (e : hget h r o = some c) : bdC N c = true := by
  obtain ⟨g, h1, h2⟩ := hget_some e
  rw [hnth_eq] at h1 h2
  exact List.all_eq_true.mp (List.all_eq_true.mp hb g (List.mem_of_getElem? h1)) c (List.mem_of_getElem? h2)
theorem hget_lt {h : AHp} {r o : Nat} {c : ACell} (e : hget h r o = some c) : r < h.length := by
  obtain ⟨g, h1, h2⟩ := hget_some e
  exact hnth_lt h1
/-- one more region of one cell -/
theorem Rep.push {D : va_G} {σ η : Nat → Nat → Nat} {κ : Nat → Nat} {h : AHp} {U : State} {H H1 : Heap} {A : Nat → Prop} {c : ACell} {a : Nat} (R : Rep D σ η κ h U H A) (hb : bdH h.length h = true) (hsb : isSb c = false) (hk : ∀ q : Nat, q < H.size → H1[q]? = H[q]?) (hsz : H.size ≤ a) (hA : A a)
    (hc : atC D (fun r o => if r < h.length then σ r o else a) η κ U H1 h.length 0 c) : Rep D (fun r o => if r < h.length then σ r o else a) η κ (h ++ [[c]]) U H1 A := by
  have hs : ∀ r, r < h.length → ∀ o, (fun r o => if r < h.length then σ r o else a) r o = σ r o := fun r hr o => if_pos hr
  have place : ∀ {p : Pl}, pdom (h ++ [[c]]) p → (p.1 < h.length ∧ pdom h p) ∨ (p = (h.length, 0, false)) := by
    rintro ⟨r, o, b⟩ ⟨c2, h1, h2⟩
    rcases hget_app h1 with ⟨q1, q2⟩ | ⟨q1, q2⟩
    · exact Or.inl ⟨q1, c2, q2, h2⟩
    · obtain ⟨g, q3, q4⟩ := hget_some q2
      have hr : r - h.length = 0 := by have := hnth_lt q3; simp at this; omega
      have hr : r = h.length := by omega
      subst hr
      rw [Nat.sub_self] at q3
      cases q3
      have ho : o = 0 := by have := hnth_lt q4; simp at this; omega
      subst ho
      cases q4
      cases b with
      | true =>
        have := h2 rfl
        rw [hsb] at this
        cases this
      | false => exact Or.inr rfl
  have padL : ∀ {p : Pl}, p.1 < h.length → pad (fun r o => if r < h.length then σ r o else a) η p = pad σ η p := by
    rintro ⟨r, o, b⟩ hp
    cases b with
    | true => rfl
    | false => exact if_pos hp
  have padN : pad (fun r o => if r < h.length then σ r o else a) η (h.length, 0, false) = a := if_neg (Nat.lt_irrefl _)
  refine ⟨fun r o c2 e => ?_, fun p q hp hq he => ?_, fun p hp => ?_⟩
  · rcases hget_app e with ⟨q1, q2⟩ | ⟨q1, q2⟩
    · refine bdC_at hs (fun _ _ _ => rfl) q1 (bdH_get hb q2) ?_
      exact (R.1 r o c2 q2).kept (hk _ (R.size (hget_pl q2))) fun hq => hk _ (R.size (p := (r, o, true)) ⟨c2, q2, fun _ => hq⟩)
    · obtain ⟨g, q3, q4⟩ := hget_some q2
      have hr : r - h.length = 0 := by have := hnth_lt q3; simp at this; omega
      have hr : r = h.length := by omega
      subst hr
      rw [Nat.sub_self] at q3
      cases q3
      have ho : o = 0 := by have := hnth_lt q4; simp at this; omega
      subst ho
      cases q4
      exact hc
  · rcases place hp with ⟨p1, p2⟩ | rfl <;> rcases place hq with ⟨q1, q2⟩ | rfl
    · rw [padL p1, padL q1] at he
      exact R.2.1 _ _ p2 q2 he
    · rw [padL p1, padN] at he
      have := R.size p2
      omega
    · rw [padN, padL q1] at he
      have := R.size q2
      omega
    · rfl
  · rcases place hp with ⟨p1, p2⟩ | rfl
    · rw [padL p1]
      exact R.2.2 _ p2
    · rw [padN]
      exact hA
section AL
variable {γ : CX} {own : String} {cc : ByteArray} {σ : Nat → Nat → Nat} {k n pc : Nat} {ls : List (Nat × AV)} {st rest : List AV} {h : AHp}
abbrev grown (σ σ2 : Nat → Nat → Nat) (N : Nat) : Prop := ∀ r, r < N → ∀ o, σ2 r o = σ r o
theorem trL_bd {σ σ2 : Nat → Nat → Nat} {κ : Nat → Nat} {N : Nat} {ls : List (Nat × AV)} (hs : grown σ σ2 N) (hb : ls.all (fun q => bdV N q.2) = true) : trL σ2 κ ls = trL σ κ ls :=
  List.map_congr_left fun q hq => by rw [bdV_tr hs (List.all_eq_true.mp hb q hq)]
/-- new: an object -/
theorem At.newO (O : OK γ own cc) {ix ci : Nat} {C : String} {T : u_T} {N : Nat} (hc : vwCl[ci]? = some (C, T, N)) (hl : Cond.classLink own ix C ∈ GT) (hi : Cond.instantiable C N ∈ GT) (hin : Cond.initialized C ∈ GT) {fs : List AV} (hfs : ∀ j, j < N → defaultValue (tyOf ci j) = vp_V (fs.map (tr σ (cκ γ))) j) (hnr : fs.all (bdV 0) = true)
    (hk : k + 1 ≤ (cR γ).cells) (hn : n + N ≤ (cR γ).slots) (d : decode cc pc = .ok (.new ix, 3)) (hb : bdH h.length h = true) (hbl : ls.all (fun q => bdV h.length q.2) = true) (hbs : st.all (bdV h.length) = true)
    (g : ∀ σ2, grown σ σ2 h.length → At γ σ2 (k + 1) (n + N) (pc + 3) ls (vR h.length 0 :: st) (h ++ [[aO ci fs]])) : At γ σ k n pc ls st h := fun η H locs lsA a b c => by
  obtain ⟨q1, q2, q3⟩ := CL_ok ci C T N hc
  have hKn := O.2.2.2.2.1.1 ci _ hc
  refine W.newcK O.1 O.2.1 O.2.2.1 (O.2.2.2.1 _ hl) (O.2.2.2.1 _ hi) (O.2.2.2.1 _ hin) rfl d hk hn hKn.2.1 rfl fun H1 kC hkC e1 z1 o1 => ?_
  have hs : grown σ (fun r o => if r < h.length then σ r o else H.size) h.length := fun r hr o => if_pos hr
  have hA : cF γ H.size := O.2.2.2.2.2.2.1 _ b.1
  have hob : t_OB H.size ((cD γ).1 ci) N ((cD γ).2 ci) H1 (vp_V (fs.map (tr σ (cκ γ)))) := (u_born (tyOf ci) O.2.2.2.1 q1 hKn hkC e1 q2).to hfs
  have R1 := a.push (c := aO ci fs) (a := H.size) (H1 := H1) hb rfl o1 (Nat.le_refl _) hA ⟨_, hc, by
    have e : fs.map (tr (fun r o => if r < h.length then σ r o else H.size) (cκ γ)) = fs.map (tr σ (cκ γ)) := bdV_trL (N := 0) (fun r hr => absurd hr (Nat.not_lt_zero _)) hnr
    show t_OB (if h.length < h.length then σ h.length 0 else H.size) _ _ _ _ _
    rw [if_neg (Nat.lt_irrefl _), e]
    exact hob⟩
  have g2 := g _ hs η H1 locs lsA R1 ⟨Nat.le_trans b.1 (by omega), fun x h1 h2 => (o1 x (Nat.lt_of_lt_of_le h1 b.1)).trans (b.2.1 x h1 h2), b.2.2⟩ (by rw [trL_bd hs hbl]; exact c)
  have e2 : (vR h.length 0 :: st).map (tr (fun r o => if r < h.length then σ r o else H.size) (cκ γ)) = .ref H.size :: st.map (tr σ (cκ γ)) := by
    rw [List.map_cons, bdV_trL hs hbs]
    show Value.ref (if h.length < h.length then σ h.length 0 else H.size) :: _ = _
    rw [if_neg (Nat.lt_irrefl _)]
  rw [e2] at g2
  exact g2
/-- newarray: numbers -/
def zeroA : FieldType → AArr
  | .long => .inr (.inl fun _ => 0)
  | .double => .inr (.inr (.inl fun _ => 0))
  | _ => .inl fun _ => 0
theorem At.newA (O : OK γ own cc) {atype : ArrayType} {ty : FieldType} (hty : newarray.typeOf atype = ty) (hdef : ∀ σ κ j, ael σ κ (zeroA ty) j = defaultValue ty) (har : Cond.arrayClass ty ∈ GT) {x : Int32} {N : Nat} (hx : ¬ x < 0) (hN : x.toNatClampNeg = N) (hbytes : N * componentBytes ty ≤ 536870912)
    (hk : k + 1 ≤ (cR γ).cells) (hn : n + N ≤ (cR γ).slots) (d : decode cc pc = .ok (.newarray atype, 2)) (hb : bdH h.length h = true) (hbl : ls.all (fun q => bdV h.length q.2) = true) (hbs : st.all (bdV h.length) = true)
    (g : ∀ σ2, grown σ σ2 h.length → At γ σ2 (k + 1) (n + N) (pc + 2) ls (vR h.length 0 :: st) (h ++ [[.inl (ty, N, zeroA ty)]])) : At γ σ k n pc ls (vI x :: st) h := fun η H locs lsA a b c => by
  subst hty
  refine va_newaK O.1 O.2.1 (O.2.2.2.1 _ har) rfl d rfl hx hN hbytes hk hn rfl fun H1 cA e1 z1 o1 hAr hNm => ?_
  have hs : grown σ (fun r o => if r < h.length then σ r o else H.size) h.length := fun r hr o => if_pos hr
  have hA : cF γ H.size := O.2.2.2.2.2.2.1 _ b.1
  have R1 := a.push (c := .inl (newarray.typeOf atype, N, zeroA (newarray.typeOf atype))) (a := H.size) (H1 := H1) hb rfl o1 (Nat.le_refl _) hA ⟨cA, by
    show H1[if h.length < h.length then σ h.length 0 else H.size]? = _
    rw [if_neg (Nat.lt_irrefl _), e1]
    congr 2
    funext j
    exact (hdef _ _ j).symm, hAr, by cases atype <;> exact hNm⟩
  have g2 := g _ hs η H1 locs lsA R1 ⟨Nat.le_trans b.1 (by omega), fun x h1 h2 => (o1 x (Nat.lt_of_lt_of_le h1 b.1)).trans (b.2.1 x h1 h2), b.2.2⟩ (by rw [trL_bd hs hbl]; exact c)
  have e2 : (vR h.length 0 :: st).map (tr (fun r o => if r < h.length then σ r o else H.size) (cκ γ)) = .ref H.size :: st.map (tr σ (cκ γ)) := by
    rw [List.map_cons, bdV_trL hs hbs]
    show Value.ref (if h.length < h.length then σ h.length 0 else H.size) :: _ = _
    rw [if_neg (Nat.lt_irrefl _)]
  rw [e2] at g2
  exact g2
theorem nulls_ael {σ : Nat → Nat → Nat} {κ : Nat → Nat} (N j : Nat) : ael σ κ (.inr (.inr (.inr (List.replicate N vN)))) j = .null := by
  show tr σ κ ((hnth (List.replicate N vN) j).getD vN) = .null
  cases e : hnth (List.replicate N vN) j with
  | none => rfl
  | some v =>
    rw [hnth_eq] at e
    rw [List.eq_of_mem_replicate (List.mem_of_getElem? e)]
    rfl
/-- anewarray: references to objects -/
theorem At.newQ (O : OK γ own cc) {ix : Nat} {C : String} (hl : Cond.classLink own ix C ∈ GT) (har : (Cond.arrayOver (.object C)).before (cA γ) (cS γ) = true) {x : Int32} {N : Nat} (hx : ¬ x < 0) (hN : x.toNatClampNeg = N) (hbytes : N * 4 ≤ 536870912)
    (hk : k + 1 ≤ (cR γ).cells) (hn : n + N ≤ (cR γ).slots) (d : decode cc pc = .ok (.anewarray ix, 3)) (hb : bdH h.length h = true) (hbl : ls.all (fun q => bdV h.length q.2) = true) (hbs : st.all (bdV h.length) = true)
    (g : ∀ σ2, grown σ σ2 h.length → At γ σ2 (k + 1) (n + N) (pc + 3) ls (vR h.length 0 :: st) (h ++ [[.inl (.object C, N, .inr (.inr (.inr (List.replicate N vN))))]])) : At γ σ k n pc ls (vI x :: st) h := fun η H locs lsA a b c => by
  subst hN
  refine W.anew O.1 O.2.1 O.2.2.1 (O.2.2.2.1 _ hl) har rfl d rfl hx hbytes hk hn fun cA kA comp h1 h2 h3 h4 => ?_
  have hs : grown σ (fun r o => if r < h.length then σ r o else H.size) h.length := fun r hr o => if_pos hr
  have hA : cF γ H.size := O.2.2.2.2.2.2.1 _ b.1
  have o1 : ∀ q : Nat, q < H.size → (H.push { cls := cA, slots := Array.replicate x.toNatClampNeg .null, vm := .none })[q]? = H[q]? := fun q hq => by
    rw [Array.getElem?_push, if_neg (Nat.ne_of_lt hq)]
  have R1 := a.push (c := .inl (.object C, x.toNatClampNeg, .inr (.inr (.inr (List.replicate x.toNatClampNeg vN))))) (a := H.size) (H1 := H.push { cls := cA, slots := Array.replicate x.toNatClampNeg .null, vm := .none }) hb rfl o1 (Nat.le_refl _) hA ⟨cA, by
    show (H.push _)[if h.length < h.length then σ h.length 0 else H.size]? = _
    rw [if_neg (Nat.lt_irrefl _), arrV_new]
    simp only [Array.getElem?_push_size]
    congr 2
    funext j
    exact (nulls_ael _ j).symm, fun n z => ⟨fun k h => (by cases h), kA, h2, comp, h3⟩, ⟨kA, comp, h2, h3, h4, h1⟩⟩
  have g2 := g _ hs η _ locs lsA R1 ⟨Nat.le_trans b.1 (by simp), fun q h1 h2 => (o1 q (Nat.lt_of_lt_of_le h1 b.1)).trans (b.2.1 q h1 h2), b.2.2⟩ (by rw [trL_bd hs hbl]; exact c)
  have e2 : (vR h.length 0 :: st).map (tr (fun r o => if r < h.length then σ r o else H.size) (cκ γ)) = .ref H.size :: st.map (tr σ (cκ γ)) := by
    rw [List.map_cons, bdV_trL hs hbs]
    show Value.ref (if h.length < h.length then σ h.length 0 else H.size) :: _ = _
    rw [if_neg (Nat.lt_irrefl _)]
  rw [e2] at g2
  exact g2
/-- a reference into an array of references -/
theorem arr_putQ {σ : Nat → Nat → Nat} {κ : Nat → Nat} {cA : ClassId} {f : List AV} {i : Nat} {v : AV} (hi : i < f.length) : (arrV cA f.length (ael σ κ (.inr (.inr (.inr f))))).setSlot i (tr σ κ v) = arrV cA f.length (ael σ κ (.inr (.inr (.inr (hput f i v))))) := by
  refine arr_put fun q => ?_
  show tr σ κ ((hnth (hput f i v) q).getD vN) = if q = i then tr σ κ v else tr σ κ ((hnth f q).getD vN)
  by_cases e : q = i
  · subst e
    obtain ⟨w, hw⟩ := hnth_of_lt hi
    rw [if_pos rfl, hnth_put_self f q w v hw]
    rfl
  · rw [if_neg e, hnth_put_ne f i q v (Ne.symm e)]
theorem At.aastO (O : OK γ own cc) {r o r2 o2 N ci Nn : Nat} {C : String} {T : u_T} {f : List AV} {fs : List AV} {i : Int32} (hc : vwCl[ci]? = some (C, T, Nn)) (d : decode cc pc = .ok (.aastore, 1)) (hg : hget h r o = some (.inl (.object C, N, .inr (.inr (.inr f))))) (hv : hget h r2 o2 = some (aO ci fs)) (hfl : f.length = N) (hin : vp_in i N)
    (g : At γ σ k n (pc + 1) ls st (hset h r o (.inl (.object C, N, .inr (.inr (.inr (hput f i.toNatClampNeg (vR r2 o2)))))))) : At γ σ k n pc ls (vR r2 o2 :: vI i :: vR r o :: st) h := fun η H locs lsA a b c => by
  subst hfl
  have hlt : i.toNatClampNeg < f.length := Nat.not_le.mp fun q => hin (Or.inr q)
  have h0 : ¬ i < 0 := fun q => hin (Or.inl q)
  obtain ⟨cA, e1, e2, kA, comp, k1, k2, k3, k4⟩ := a.1 r o _ hg
  obtain ⟨q, e4, cell, f1, f2, f3, -⟩ := a.1 r2 o2 _ hv
  have hcls := (O.2.2.2.2.1.1 ci _ hc).2
  have hcomp : comp = (cD γ).1 ci := Option.some.inj (k3.symm.trans hcls.1)
  subst hcomp
  obtain ⟨kC, hkC, -⟩ := hcls.2
  refine W.aast O.1 O.2.1 e1 (fun q h => by cases h) (fun h => by cases h) k1 k2 rfl hkC ⟨h0, by rw [arrV_size]; exact hlt⟩ f1 (fun q h => by rw [f3] at h; cases h) (by rw [f2]; exact hkC) (by rw [f2]; exact va_assign hcls) rfl rfl d fun H1 z1 z2 z3 => ?_
  refine g η H1 _ lsA (a.set hg rfl rfl ⟨cA, ?_, e2, ⟨kA, _, k1, k2, k3, k4⟩⟩ z3) (b.put z2 z3 (a.2.2 (r, o, false) (hget_pl hg))) c
  rw [z1]
  exact congrArg some (arr_putQ (v := vR r2 o2) hlt)
theorem At.aastK (O : OK γ own cc) {r o N ci q : Nat} {C : String} {f : List AV} {x : AV} {i : Int32} (hO : va_O C q (cF γ) (cS γ) (cS γ).heap) (hx : ∀ σ : Nat → Nat → Nat, tr σ (cκ γ) x = .ref q) (d : decode cc pc = .ok (.aastore, 1)) (hg : hget h r o = some (.inl (.object C, N, .inr (.inr (.inr f))))) (hfl : f.length = N) (hin : vp_in i N)
    (g : At γ σ k n (pc + 1) ls st (hset h r o (.inl (.object C, N, .inr (.inr (.inr (hput f i.toNatClampNeg x))))))) : At γ σ k n pc ls (x :: vI i :: vR r o :: st) h := fun η H locs lsA a b c => by
  subst hfl
  have hlt : i.toNatClampNeg < f.length := Nat.not_le.mp fun q => hin (Or.inr q)
  have h0 : ¬ i < 0 := fun q => hin (Or.inl q)
  obtain ⟨cA, e1, e2, kA, comp, k1, k2, k3, k4⟩ := a.1 r o _ hg
  obtain ⟨cell, f1, f2, f3, -⟩ := hO.kept b.2.1
  have hcomp : comp = cell.cls := Option.some.inj (k3.symm.trans f3)
  subst hcomp
  obtain ⟨kC, hkC, -⟩ := Vm.findClass_spec f3
  simp only [List.map_cons]
  rw [hx]
  refine W.aast O.1 O.2.1 e1 (fun q h => by cases h) (fun h => by cases h) k1 k2 rfl hkC ⟨h0, by rw [arrV_size]; exact hlt⟩ f1 (fun q h => by rw [h] at f2; cases f2) hkC (va_asg _ _) rfl rfl d fun H1 z1 z2 z3 => ?_
  refine g η H1 _ lsA (a.set hg rfl rfl ⟨cA, ?_, e2, ⟨kA, _, k1, k2, k3, k4⟩⟩ z3) (b.put z2 z3 (a.2.2 (r, o, false) (hget_pl hg))) c
  rw [z1, ← hx σ]
  exact congrArg some (arr_putQ (v := x) hlt)
/-- Object's constructor -/
theorem At.objI (O : OK γ own cc) {ix : Nat} {v : AV} (hr : isRf v = true) (hl : Cond.methodLink own ix Lib.objectInit ∈ GT) (hi : Cond.instanceMethod Lib.objectInit ∈ GT) (hco : Cond.code Lib.objectInit ⟨#[0xb1]⟩ 1 none ∈ GT) (hf : Fit γ k n 0 0 0) (hrw : wsum st ≤ 8) (d : decode cc pc = .ok (.invokespecial ix, 3)) (g : At γ σ k n (pc + 3) ls st h) : At γ σ k n pc ls (v :: st) h := fun η H locs lsA a b c => by
  have h2 := g η H locs lsA a b c
  have hw := wsum_eq (σ := σ) (κ := cκ γ) st
  obtain ⟨x, e⟩ := tr_rf (σ := σ) (κ := cκ γ) hr
  simp only [List.map_cons]
  rw [e]
  exact W.objInit O.1 O.2.1 O.2.2.1 (O.2.2.2.1 _ hl) (O.2.2.2.1 _ hi) (O.2.2.2.1 _ hco) rfl c.1 rfl d hf.1 (by
    have := hf.2.1
    show 2 * 0 + _ + 12 ≤ _
    omega) h2
end AL
