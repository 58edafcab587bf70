/-! ===== rows of the heap: fields and arrays ===== -/
theorem hget_pl {h : AHp} {r o : Nat} {c : ACell} (hg : hget h r o = some c) : pdom h (r, o, false) := ⟨c, hg, fun z => by cases z⟩
theorem vpV_get {fs : List AV} {k : Nat} {v : AV} {σ : Nat → Nat → Nat} {κ : Nat → Nat} (h : hnth fs k = some v) : (fs.map (tr σ κ))[k]? = some (tr σ κ v) := by
  rw [hnth_eq] at h
  rw [List.getElem?_map, h]; rfl
/-- what a field of a type takes -/
def okT : FieldType → AV → Prop
  | .int, .inl (.int _) => True
  | .boolean, .inl (.int x) => x = 0 ∨ x = 1
  | .byte, .inl (.int x) => x.toInt8.toInt32 = x
  | .long, .inl (.long _) => True
  | .object _, .inl (.ref _) => True
  | .object _, .inl .null => True
  | .object _, .inr _ => True
  | .array _, .inl (.ref _) => True
  | .array _, .inl .null => True
  | .array _, .inr _ => True
  | _, _ => False
theorem okT_ok {ty : FieldType} {v : AV} {σ : Nat → Nat → Nat} {κ : Nat → Nat} (h : okT ty v) : narrow ty (tr σ κ v) = tr σ κ v ∧ fits ty (tr σ κ v) = true := by
  rcases v with v | q | j
  · cases ty <;> cases v <;> first
      | exact ⟨rfl, rfl⟩
      | exact False.elim h
      | (rcases h with rfl | rfl <;> exact ⟨rfl, rfl⟩)
      | (rename_i x
         have h1 : x.toInt8.toInt32 = x := h
         refine ⟨?_, ?_⟩
         · show Value.int x.toInt8.toInt32 = Value.int x
           rw [h1]
         · have h2 := pk_fb x
           rw [h1] at h2
           exact h2)
  · cases ty <;> first
      | exact ⟨rfl, rfl⟩
      | exact False.elim h
  · cases ty <;> first
      | exact ⟨rfl, rfl⟩
      | exact False.elim h
section ATH
variable {γ : CX} {o1 : Nat} {cc : ByteArray} {σ : Nat → Nat → Nat} {k n pc : Nat} {ls : List (Nat × AV)} {st : List AV} {h : AHp}
theorem At.getf (O : OK γ (cn o1) cc) {ix ci fk r o : Nat} {fs : List AV} {v : AV} (d : decode cc pc = .ok (.getfield ix, 3)) (hF : (o1, ix, ci, fk) ∈ FLq) (hg : hget h r o = some (aO ci fs)) (hv : hnth fs fk = some v) (g : At γ σ k n (pc + 3) ls (v :: st) h) : At γ σ k n pc ls (vR r o :: st) h := fun η H locs lsA a b c => by
  obtain ⟨C, T, N, hc, hk, hl⟩ := FLq_ok _ hF
  obtain ⟨q1, q2, q3⟩ := CL_ok ci C T N hc
  obtain ⟨hx, hb, hown, hts, hK, -, -, -, -⟩ := O
  obtain ⟨q, e1, e2⟩ := a.1 r o _ hg
  exact va_get (D := cD γ) (cl := vwCl) (ws := [(σ r o, .inr (ci, fs.map (tr σ (cκ γ))))]) (v := tr σ (cκ γ) v) hx hb hts q1 hown hK (fun j z hj => by
      match j, hj with
      | 0, hj => cases hj; exact ⟨q, e1, e2⟩
      | j + 1, hj => simp at hj) 0 rfl hc fk hk (hts _ hl) (fun _ h9 => h9) (vpV_get hv) d (g η H locs lsA a b c)
theorem At.putf (O : OK γ (cn o1) cc) {ix ci fk r o : Nat} {fs : List AV} {v v0 : AV} (d : decode cc pc = .ok (.putfield ix, 3)) (hF : (o1, ix, ci, fk) ∈ FLq) (hg : hget h r o = some (aO ci fs)) (hv : hnth fs fk = some v0) (hty : okT (tyOf ci fk) v)
    (hfin : ∀ C T N, vwCl[ci]? = some (C, T, N) → (T fk).2.2.2 = false ∨ ((cY γ).name = "<init>" ∧ (T fk).1 = cn o1)) (g : At γ σ k n (pc + 3) ls st (hset h r o (aO ci (hput fs fk v)))) : At γ σ k n pc ls (v :: vR r o :: st) h := fun η H locs lsA a b c => by
  obtain ⟨C, T, N, hc, hk, hl⟩ := FLq_ok _ hF
  obtain ⟨q1, q2, q3⟩ := CL_ok ci C T N hc
  obtain ⟨hx, hb, hown, hts, hK, -, -, -, -⟩ := O
  obtain ⟨q, e1, cell, f1, f2, f3, f4⟩ := a.1 r o _ hg
  have hap := va_apart (own := cn o1) hts q1 (tyOf ci) q2 q3 hK hc
  obtain ⟨hS, hfc, kC, hkC, hkind⟩ := hK.1 ci _ hc
  obtain ⟨cf, kf, fi, f, hi, hsl⟩ := hS fk hk
  have hq : q = (C, T, N) := Option.some.inj (e1.symm.trans hc)
  subst hq
  obtain ⟨hn, hfit⟩ := okT_ok (σ := σ) (κ := cκ γ) hty
  have hst := (u_facts hfc hkC (u_lays hts q1 hk) hi).1
  have hlen : fk < (fs.map (tr σ (cκ γ))).length := by
    rw [hnth_eq] at hv
    rw [List.length_map]
    exact (List.getElem?_eq_some_iff.mp hv).1
  have fin : ∀ H1 : Heap, H1[σ r o]? = some (cell.setSlot (((cD γ).2 ci) fk) (tr σ (cκ γ) v)) → H1.size = H.size → (∀ q : Nat, q ≠ σ r o → H1[q]? = H[q]?) → cW γ H1 (locs ++ [⟨σ r o, ((cD γ).2 ci) fk⟩]) k n (F0 (cM γ) (pc + 3) lsA (st.map (tr σ (cκ γ)))) := by
    intro H1 g1 g2 g3
    refine g η H1 _ lsA (a.set hg rfl rfl ⟨(C, T, N), hc, ?_⟩ g3) (b.put g2 g3 (a.2.2 (r, o, false) (hget_pl hg))) c
    refine t_OB.to (V := updV (vp_V (fs.map (tr σ (cκ γ)))) fk (tr σ (cκ γ) v)) ⟨_, g1, f2, f3, t_set f4 hap hk _⟩ fun j _ => ?_
    rw [hput_eq, List.map_set]
    exact vp_updV_set hlen _ j
  have hlay := hts _ (q1 _ (u_in_lay hk))
  unfold u_lay at hlay
  cases hff : (T fk).2.2.2 with
  | false =>
    rw [if_neg (by rw [hff]; decide)] at hlay
    have h6 := u_store hfc hkC hkind hlay hi (q2 fk hk) hn hfit
    refine W.putK hx hb (f := f) ⟨hown, hts _ hl, ⟨_, _, _, hi⟩, hst⟩ (by rw [f2]; exact h6) f1 f3 (by rw [hsl]; exact k2_hasslot (f4 fk hk)) rfl rfl d fun H' z1 z2 z3 => ?_
    rw [hsl] at z1 ⊢
    exact fin H' z1 z2 z3
  | true =>
    rw [if_pos hff] at hlay
    obtain ⟨hin2, hdecl⟩ : (cY γ).name = "<init>" ∧ (T fk).1 = cn o1 := by
      rcases hfin C T N hc with h9 | h9
      · rw [hff] at h9; cases h9
      · exact h9
    have hcf : (cM γ).cls = cf := by
      obtain ⟨_, _, c', _, _, _, -, -, hf', -, -, -, hown2, -⟩ := Cond.laysFinal_spec hlay
      have e1 : c' = cf := by have := hi.symm.trans hf'; simp at this; exact this.1.symm
      rw [hdecl] at hown2
      rw [← e1]; exact Option.some.inj (hown.symm.trans hown2)
    have h6 := u_fits hfc hkC hkind (Or.inr hlay) hi (q2 fk hk) hn hfit
    refine W.putFinK hx hb hown (hts _ hl) hi hst hcf hin2 (by rw [f2]; exact h6) f1 f3 (by rw [hsl]; exact k2_hasslot (f4 fk hk)) rfl rfl d fun H' z1 z2 z3 => ?_
    rw [hsl] at z1 ⊢
    exact fin H' z1 z2 z3
end ATH
section ATA
variable {γ : CX} {own : String} {cc : ByteArray} {σ : Nat → Nat → Nat} {k n pc : Nat} {ls : List (Nat × AV)} {st : List AV} {h : AHp}
theorem in_size {i : Int32} {N : Nat} {cA : ClassId} {f : Nat → Value} (hin : vp_in i N) : ¬ (i < 0 ∨ (arrV cA N f).slots.size ≤ i.toNatClampNeg) := by rw [arrV_size]; exact hin
theorem in_lt {i : Int32} {N : Nat} (hin : vp_in i N) : i.toNatClampNeg < N := Nat.not_le.mp fun q => hin (Or.inr q)
theorem At.iald (O : OK γ own cc) {r o N : Nat} {f : Nat → Int32} {i : Int32} (d : decode cc pc = .ok (.iaload, 1)) (hg : hget h r o = some (.inl (.int, N, .inl f))) (hin : vp_in i N) (g : At γ σ k n (pc + 1) ls (vI (f i.toNatClampNeg) :: st) h) : At γ σ k n pc ls (vI i :: vR r o :: st) h := fun η H locs lsA a b c => by
  obtain ⟨cA, e1, e2, e3⟩ := a.1 r o _ hg
  exact W.iald O.1 O.2.1 e1 (e2 _ _) (fun q => by cases q) (in_size hin) (v := .int (f i.toNatClampNeg)) (arrV_read cA _ (in_lt hin)) rfl rfl d (g η H locs lsA a b c)
theorem At.zald (O : OK γ own cc) {r o N : Nat} {f : Nat → Int32} {i : Int32} (d : decode cc pc = .ok (.baload, 1)) (hg : hget h r o = some (.inl (.boolean, N, .inl f))) (hin : vp_in i N) (g : At γ σ k n (pc + 1) ls (vI (f i.toNatClampNeg) :: st) h) : At γ σ k n pc ls (vI i :: vR r o :: st) h := fun η H locs lsA a b c => by
  obtain ⟨cA, e1, e2, e3⟩ := a.1 r o _ hg
  exact W.zald O.1 O.2.1 e1 (e2 _ _) (fun q => by cases q) (in_size hin) (v := .int (f i.toNatClampNeg)) (arrV_read cA _ (in_lt hin)) rfl rfl d (g η H locs lsA a b c)
theorem At.bald (O : OK γ own cc) {r o N : Nat} {f : Nat → Int32} {i : Int32} (d : decode cc pc = .ok (.baload, 1)) (hg : hget h r o = some (.inl (.byte, N, .inl f))) (hin : vp_in i N) (g : At γ σ k n (pc + 1) ls (vI (f i.toNatClampNeg) :: st) h) : At γ σ k n pc ls (vI i :: vR r o :: st) h := fun η H locs lsA a b c => by
  obtain ⟨cA, e1, e2, e3⟩ := a.1 r o _ hg
  exact W.bald O.1 O.2.1 e1 (e2 _ _) (fun q => by cases q) (in_size hin) (v := .int (f i.toNatClampNeg)) (arrV_read cA _ (in_lt hin)) rfl rfl d (g η H locs lsA a b c)
theorem At.cald (O : OK γ own cc) {r o N : Nat} {f : Nat → Int32} {i : Int32} (d : decode cc pc = .ok (.caload, 1)) (hg : hget h r o = some (.inl (.char, N, .inl f))) (hin : vp_in i N) (g : At γ σ k n (pc + 1) ls (vI (f i.toNatClampNeg) :: st) h) : At γ σ k n pc ls (vI i :: vR r o :: st) h := fun η H locs lsA a b c => by
  obtain ⟨cA, e1, e2, e3⟩ := a.1 r o _ hg
  exact W.cald O.1 O.2.1 e1 (e2 _ _) (fun q => by cases q) (in_size hin) (v := .int (f i.toNatClampNeg)) (arrV_read cA _ (in_lt hin)) rfl rfl d (g η H locs lsA a b c)
theorem At.lald (O : OK γ own cc) {r o N : Nat} {f : Nat → Int64} {i : Int32} (d : decode cc pc = .ok (.laload, 1)) (hg : hget h r o = some (.inl (.long, N, .inr (.inl f)))) (hin : vp_in i N) (g : At γ σ k n (pc + 1) ls (vL (f i.toNatClampNeg) :: st) h) : At γ σ k n pc ls (vI i :: vR r o :: st) h := fun η H locs lsA a b c => by
  obtain ⟨cA, e1, e2, e3⟩ := a.1 r o _ hg
  exact W.lald O.1 O.2.1 e1 (e2 _ _) (fun q => by cases q) (in_size hin) (v := .long (f i.toNatClampNeg)) (arrV_read cA _ (in_lt hin)) rfl rfl d (g η H locs lsA a b c)
theorem At.dald (O : OK γ own cc) {r o N : Nat} {f : Nat → UInt64} {i : Int32} (d : decode cc pc = .ok (.daload, 1)) (hg : hget h r o = some (.inl (.double, N, .inr (.inr (.inl f))))) (hin : vp_in i N) (g : At γ σ k n (pc + 1) ls (vD (f i.toNatClampNeg) :: st) h) : At γ σ k n pc ls (vI i :: vR r o :: st) h := fun η H locs lsA a b c => by
  obtain ⟨cA, e1, e2, e3⟩ := a.1 r o _ hg
  exact W.dald O.1 O.2.1 e1 (e2 _ _) (fun q => by cases q) (in_size hin) (v := .double (f i.toNatClampNeg)) (arrV_read cA _ (in_lt hin)) rfl rfl d (g η H locs lsA a b c)
theorem At.aald (O : OK γ own cc) {r o N : Nat} {ty : FieldType} {f : List AV} {i : Int32} (hty : ty.isReference = true) (d : decode cc pc = .ok (.aaload, 1)) (hg : hget h r o = some (.inl (ty, N, .inr (.inr (.inr f))))) (hin : vp_in i N) (g : At γ σ k n (pc + 1) ls ((hnth f i.toNatClampNeg).getD vN :: st) h) : At γ σ k n pc ls (vI i :: vR r o :: st) h := fun η H locs lsA a b c => by
  obtain ⟨cA, e1, e2, e3⟩ := a.1 r o _ hg
  exact W.aald O.1 O.2.1 e1 (e2 _ _) hty (fun q => by cases q) (in_size hin) (v := tr σ (cκ γ) ((hnth f i.toNatClampNeg).getD vN)) (arrV_read cA _ (in_lt hin)) rfl rfl d (g η H locs lsA a b c)
theorem At.alen (O : OK γ own cc) {r o N : Nat} {ty : FieldType} {x : AArr} (d : decode cc pc = .ok (.arraylength, 1)) (hg : hget h r o = some (.inl (ty, N, x))) (g : At γ σ k n (pc + 1) ls (vI (nI N) :: st) h) : At γ σ k n pc ls (vR r o :: st) h := fun η H locs lsA a b c => by
  obtain ⟨cA, e1, e2, e3⟩ := a.1 r o _ hg
  exact W.alen O.1 O.2.1 e1 (e2 _ _) (n := nI N) (by rw [arrV_size]; rfl) rfl rfl d (g η H locs lsA a b c)
theorem arr_put {cA : ClassId} {N j : Nat} {f : Nat → Value} {x : Value} {f' : Nat → Value} (hf : ∀ q, f' q = if q = j then x else f q) : (arrV cA N f).setSlot j x = arrV cA N f' := by
  rw [arrV_store]
  congr 1
  funext q
  rw [hf]
  rfl
theorem At.iast (O : OK γ own cc) {r o N : Nat} {f : Nat → Int32} {i x : Int32} (d : decode cc pc = .ok (.iastore, 1)) (hg : hget h r o = some (.inl (.int, N, .inl f))) (hin : vp_in i N) (g : At γ σ k n (pc + 1) ls st (hset h r o (.inl (.int, N, .inl (upd f i.toNatClampNeg x))))) : At γ σ k n pc ls (vI x :: vI i :: vR r o :: st) h := fun η H locs lsA a b c => by
  obtain ⟨cA, e1, e2, e3⟩ := a.1 r o _ hg
  refine W.iast O.1 O.2.1 e1 (e2 _ _) (fun q => by cases q) (in_size hin) rfl rfl d fun H1 z1 z2 z3 => ?_
  refine g η H1 _ lsA (a.set hg rfl rfl ⟨cA, ?_, e2, e3⟩ z3) (b.put z2 z3 (a.2.2 (r, o, false) (hget_pl hg))) c
  rw [z1]
  exact congrArg some (arr_put fun q => by
    show Value.int (upd f _ x q) = _
    unfold upd
    split <;> rfl)
theorem At.zast (O : OK γ own cc) {r o N : Nat} {f : Nat → Int32} {i x : Int32} (hx : x = 0 ∨ x = 1) (d : decode cc pc = .ok (.bastore, 1)) (hg : hget h r o = some (.inl (.boolean, N, .inl f))) (hin : vp_in i N) (g : At γ σ k n (pc + 1) ls st (hset h r o (.inl (.boolean, N, .inl (upd f i.toNatClampNeg x))))) : At γ σ k n pc ls (vI x :: vI i :: vR r o :: st) h := fun η H locs lsA a b c => by
  obtain ⟨cA, e1, e2, e3⟩ := a.1 r o _ hg
  refine W.zast O.1 O.2.1 e1 (e2 _ _) (fun q => by cases q) (in_size hin) rfl rfl d fun H1 z1 z2 z3 => ?_
  refine g η H1 _ lsA (a.set hg rfl rfl ⟨cA, ?_, e2, e3⟩ z3) (b.put z2 z3 (a.2.2 (r, o, false) (hget_pl hg))) c
  rw [z1, show narrow .boolean (.int x) = .int x by rcases hx with rfl | rfl <;> rfl]
  exact congrArg some (arr_put fun q => by
    show Value.int (upd f _ x q) = _
    unfold upd
    split <;> rfl)
theorem At.bast (O : OK γ own cc) {r o N : Nat} {f : Nat → Int32} {i x : Int32} (d : decode cc pc = .ok (.bastore, 1)) (hg : hget h r o = some (.inl (.byte, N, .inl f))) (hin : vp_in i N) (g : At γ σ k n (pc + 1) ls st (hset h r o (.inl (.byte, N, .inl (upd f i.toNatClampNeg x.toInt8.toInt32))))) : At γ σ k n pc ls (vI x :: vI i :: vR r o :: st) h := fun η H locs lsA a b c => by
  obtain ⟨cA, e1, e2, e3⟩ := a.1 r o _ hg
  refine W.bast O.1 O.2.1 e1 (e2 _ _) (fun q => by cases q) (in_size hin) rfl rfl d fun H1 z1 z2 z3 => ?_
  refine g η H1 _ lsA (a.set hg rfl rfl ⟨cA, ?_, e2, e3⟩ z3) (b.put z2 z3 (a.2.2 (r, o, false) (hget_pl hg))) c
  rw [z1]
  exact congrArg some (arr_put fun q => by
    show Value.int (upd f _ _ q) = _
    unfold upd
    split <;> rfl)
theorem At.cast (O : OK γ own cc) {r o N : Nat} {f : Nat → Int32} {i x : Int32} (d : decode cc pc = .ok (.castore, 1)) (hg : hget h r o = some (.inl (.char, N, .inl f))) (hin : vp_in i N) (g : At γ σ k n (pc + 1) ls st (hset h r o (.inl (.char, N, .inl (upd f i.toNatClampNeg (x.toUInt32.toUInt16.toUInt32.toInt32)))))) : At γ σ k n pc ls (vI x :: vI i :: vR r o :: st) h := fun η H locs lsA a b c => by
  obtain ⟨cA, e1, e2, e3⟩ := a.1 r o _ hg
  refine W.cast O.1 O.2.1 e1 (e2 _ _) (fun q => by cases q) (in_size hin) rfl rfl d fun H1 z1 z2 z3 => ?_
  refine g η H1 _ lsA (a.set hg rfl rfl ⟨cA, ?_, e2, e3⟩ z3) (b.put z2 z3 (a.2.2 (r, o, false) (hget_pl hg))) c
  rw [z1]
  exact congrArg some (arr_put fun q => by
    show Value.int (upd f _ _ q) = _
    unfold upd
    split <;> rfl)
theorem At.last (O : OK γ own cc) {r o N : Nat} {f : Nat → Int64} {i : Int32} {x : Int64} (d : decode cc pc = .ok (.lastore, 1)) (hg : hget h r o = some (.inl (.long, N, .inr (.inl f)))) (hin : vp_in i N) (g : At γ σ k n (pc + 1) ls st (hset h r o (.inl (.long, N, .inr (.inl (vp_updL f i.toNatClampNeg x)))))) : At γ σ k n pc ls (vL x :: vI i :: vR r o :: st) h := fun η H locs lsA a b c => by
  obtain ⟨cA, e1, e2, e3⟩ := a.1 r o _ hg
  refine W.last O.1 O.2.1 e1 (e2 _ _) (fun q => by cases q) (in_size hin) rfl rfl d fun H1 z1 z2 z3 => ?_
  refine g η H1 _ lsA (a.set hg rfl rfl ⟨cA, ?_, e2, e3⟩ z3) (b.put z2 z3 (a.2.2 (r, o, false) (hget_pl hg))) c
  rw [z1]
  exact congrArg some (arr_put fun q => by
    show Value.long (vp_updL f _ x q) = _
    unfold vp_updL
    split <;> rfl)
theorem At.dast (O : OK γ own cc) {r o N : Nat} {f : Nat → UInt64} {i : Int32} {x : UInt64} (d : decode cc pc = .ok (.dastore, 1)) (hg : hget h r o = some (.inl (.double, N, .inr (.inr (.inl f))))) (hin : vp_in i N) (g : At γ σ k n (pc + 1) ls st (hset h r o (.inl (.double, N, .inr (.inr (.inl (vf_upd f i.toNatClampNeg x))))))) : At γ σ k n pc ls (vD x :: vI i :: vR r o :: st) h := fun η H locs lsA a b c => by
  obtain ⟨cA, e1, e2, e3⟩ := a.1 r o _ hg
  refine W.dast O.1 O.2.1 e1 (e2 _ _) (fun q => by cases q) (in_size hin) rfl rfl d fun H1 z1 z2 z3 => ?_
  refine g η H1 _ lsA (a.set hg rfl rfl ⟨cA, ?_, e2, e3⟩ z3) (b.put z2 z3 (a.2.2 (r, o, false) (hget_pl hg))) c
  rw [z1]
  exact congrArg some (arr_put fun q => by
    show Value.double (vf_upd f _ x q) = _
    unfold vf_upd
    split <;> rfl)
end ATA
