/-! ===== THE FRAME: a callee's heap is a part of its caller's ===== -/
def rn (P : List Nat) (r : Nat) : Nat := (hnth P r).getD 0
def ren (P : List Nat) : AV → AV
  | .inl v => .inl v
  | .inr (.inl q) => .inr (.inl (rn P q.1, q.2))
  | .inr (.inr k) => .inr (.inr k)
def renA (P : List Nat) : AArr → AArr
  | .inl f => .inl f
  | .inr (.inl f) => .inr (.inl f)
  | .inr (.inr (.inl f)) => .inr (.inr (.inl f))
  | .inr (.inr (.inr f)) => .inr (.inr (.inr (f.map (ren P))))
def renC (P : List Nat) : ACell → ACell
  | .inl (ty, n, x) => .inl (ty, n, renA P x)
  | .inr (.inl (ci, fs)) => .inr (.inl (ci, fs.map (ren P)))
  | .inr (.inr z) => .inr (.inr z)
def Fits (P : List Nat) : List Nat → AHp → AHp → Prop
  | [], [], _ => True
  | p :: ps, g :: hC, h => hnth h p = some (g.map (renC P)) ∧ Fits P ps hC h
  | _, _, _ => False
def plug (P : List Nat) : List Nat → AHp → AHp → AHp
  | p :: ps, g :: hC, h => plug P ps hC (hput h p (g.map (renC P)))
  | _, _, h => h
def ixo : List Nat → Nat → Option Nat
  | [], _ => none
  | p :: ps, r => if p = r then some 0 else (ixo ps r).map (· + 1)
theorem tr_ren {σ : Nat → Nat → Nat} {κ : Nat → Nat} (P : List Nat) (v : AV) : tr σ κ (ren P v) = tr (fun r o => σ (rn P r) o) κ v := by
  rcases v with v | q | j <;> rfl
theorem renC_sb (P : List Nat) (c : ACell) : isSb (renC P c) = isSb c := by
  rcases c with ⟨ty, n, x⟩ | ⟨ci, fs⟩ | ⟨n, m, t⟩ <;> rfl
theorem ael_ren {σ : Nat → Nat → Nat} {κ : Nat → Nat} (P : List Nat) (x : AArr) : ael σ κ (renA P x) = ael (fun r o => σ (rn P r) o) κ x := by
  funext j
  rcases x with f | f | f | f
  · rfl
  · rfl
  · rfl
  · show tr σ κ ((hnth (f.map (ren P)) j).getD vN) = tr (fun r o => σ (rn P r) o) κ ((hnth f j).getD vN)
    have e : hnth (f.map (ren P)) j = (hnth f j).map (ren P) := by rw [hnth_eq, hnth_eq, List.getElem?_map]
    rw [e]
    cases hnth f j with
    | none => rfl
    | some v => exact tr_ren P v
theorem atC_ren {D : va_G} {σ η : Nat → Nat → Nat} {κ : Nat → Nat} {U : State} {H : Heap} {P : List Nat} {r o : Nat} {c : ACell} : atC D σ η κ U H (rn P r) o (renC P c) ↔ atC D (fun r o => σ (rn P r) o) (fun r o => η (rn P r) o) κ U H r o c := by
  rcases c with ⟨ty, n, x⟩ | ⟨ci, fs⟩ | ⟨n, m, t⟩
  · show (∃ cA, H[σ (rn P r) o]? = some (arrV cA n (ael σ κ (renA P x))) ∧ _) ↔ _
    rw [ael_ren]
    exact Iff.rfl
  · have e : (fs.map (ren P)).map (tr σ κ) = fs.map (tr (fun r o => σ (rn P r) o) κ) := by
      rw [List.map_map]
      exact List.map_congr_left fun v _ => tr_ren P v
    show (∃ q : vw_C, vwCl[ci]? = some q ∧ t_OB (σ (rn P r) o) (D.1 ci) q.2.2 (D.2 ci) H (vp_V ((fs.map (ren P)).map (tr σ κ)))) ↔ _
    rw [e]
    exact Iff.rfl
  · exact Iff.rfl
theorem ixo_some : ∀ {P : List Nat} {r i : Nat}, ixo P r = some i → hnth P i = some r
  | [], r, i, h => by cases h
  | p :: ps, r, i, h => by
    unfold ixo at h
    by_cases e : p = r
    · rw [if_pos e] at h
      cases h
      rw [e]; rfl
    · rw [if_neg e] at h
      cases hi : ixo ps r with
      | none => rw [hi] at h; cases h
      | some j =>
        rw [hi] at h
        cases h
        exact (ixo_some hi : hnth ps j = some r)
theorem ixo_none : ∀ {P : List Nat} {r : Nat}, ixo P r = none → ∀ i, hnth P i ≠ some r
  | [], r, _, i => by cases i <;> exact fun z => by cases z
  | p :: ps, r, h, i => by
    unfold ixo at h
    by_cases e : p = r
    · rw [if_pos e] at h; cases h
    · rw [if_neg e] at h
      cases hi : ixo ps r with
      | some j => rw [hi] at h; cases h
      | none =>
        cases i with
        | zero => exact fun z => e (Option.some.inj z)
        | succ i => exact ixo_none hi i
theorem nd_ixo {p : Nat} {ps : List Nat} (h : p ∉ ps) : ixo ps p = none := by
  cases e : ixo ps p with
  | none => rfl
  | some i =>
    have := ixo_some e
    rw [hnth_eq] at this
    exact absurd (List.mem_of_getElem? this) h
theorem ixo_of : ∀ {P : List Nat} {i r : Nat}, va_nd P = true → hnth P i = some r → ixo P r = some i
  | [], i, r, _, h => by cases i <;> cases h
  | p :: ps, i, r, hn, h => by
    simp only [va_nd, Bool.and_eq_true, decide_eq_true_eq] at hn
    unfold ixo
    cases i with
    | zero =>
      cases h
      rw [if_pos rfl]
    | succ i =>
      have h : hnth ps i = some r := h
      have hr : r ∈ ps := by
        rw [hnth_eq] at h
        exact List.mem_of_getElem? h
      rw [if_neg (fun e : p = r => hn.1 (by rw [e]; exact hr)), ixo_of hn.2 h]
      rfl
theorem plug_get (P : List Nat) : ∀ (Q : List Nat) (hC h : AHp) (r : Nat), va_nd Q = true → hC.length = Q.length → (∀ q ∈ Q, ∃ g, hnth h q = some g) →
    hnth (plug P Q hC h) r = match ixo Q r with | some i => (hnth hC i).map (fun g => g.map (renC P)) | none => hnth h r
  | [], hC, h, r, _, _, _ => by
    cases hC <;> rfl
  | p :: ps, [], h, r, _, hl, _ => by cases hl
  | p :: ps, g :: hC, h, r, hn, hl, hx => by
    simp only [va_nd, Bool.and_eq_true, decide_eq_true_eq] at hn
    have hl2 : hC.length = ps.length := by simpa using hl
    have hx2 : ∀ q ∈ ps, ∃ g2, hnth (hput h p (g.map (renC P))) q = some g2 := fun q hq => by
      obtain ⟨g2, h2⟩ := hx q (List.mem_cons_of_mem _ hq)
      exact ⟨g2, by rw [hnth_put_ne h p q _ (fun e => hn.1 (e ▸ hq))]; exact h2⟩
    have ih := plug_get P ps hC (hput h p (g.map (renC P))) r hn.2 hl2 hx2
    show hnth (plug P ps hC (hput h p (g.map (renC P)))) r = _
    rw [ih]
    by_cases e : p = r
    · subst e
      obtain ⟨g0, hg0⟩ := hx p List.mem_cons_self
      rw [nd_ixo hn.1]
      show hnth (hput h p _) p = match ixo (p :: ps) p with | some i => _ | none => _
      rw [hnth_put_self h p g0 _ hg0]
      unfold ixo
      rw [if_pos rfl]
      rfl
    · have e2 : ixo (p :: ps) r = (ixo ps r).map (· + 1) := by
        show (if p = r then some 0 else (ixo ps r).map (· + 1)) = _
        rw [if_neg e]
      rw [e2]
      cases hi : ixo ps r with
      | some i => rfl
      | none =>
        show hnth (hput h p _) r = hnth h r
        exact hnth_put_ne h p r _ e
theorem plug_length (P : List Nat) : ∀ (Q : List Nat) (hC h : AHp), (plug P Q hC h).length = h.length
  | [], hC, h => by cases hC <;> rfl
  | p :: ps, [], h => rfl
  | p :: ps, g :: hC, h => by
    show (plug P ps hC (hput h p _)).length = _
    rw [plug_length P ps hC, hput_length]
theorem Fits.get (P : List Nat) : ∀ {Q : List Nat} {hC h : AHp}, Fits P Q hC h → hC.length = Q.length ∧ ∀ i q, hnth Q i = some q → ∃ g, hnth hC i = some g ∧ hnth h q = some (g.map (renC P))
  | [], [], h, _ => ⟨rfl, fun i q hq => by cases i <;> cases hq⟩
  | [], _ :: _, _, f => False.elim f
  | _ :: _, [], _, f => False.elim f
  | p :: ps, g :: hC, h, f => by
    obtain ⟨h1, h2⟩ := Fits.get P f.2
    refine ⟨by simp [h1], fun i q hq => ?_⟩
    cases i with
    | zero => cases hq; exact ⟨g, rfl, f.1⟩
    | succ i => exact h2 i q hq
theorem hnth_lt {α : Type} {l : List α} {i : Nat} {x : α} (h : hnth l i = some x) : i < l.length := by
  rw [hnth_eq] at h
  exact (List.getElem?_eq_some_iff.mp h).1
theorem hnth_of_lt {α : Type} {l : List α} {i : Nat} (h : i < l.length) : ∃ x, hnth l i = some x := ⟨l[i], by rw [hnth_eq]; exact List.getElem?_eq_getElem h⟩
theorem hget_some {h : AHp} {r o : Nat} {c : ACell} (e : hget h r o = some c) : ∃ g, hnth h r = some g ∧ hnth g o = some c := by
  unfold hget at e
  cases hg : hnth h r with
  | none => rw [hg] at e; cases e
  | some g => rw [hg] at e; exact ⟨g, rfl, e⟩
theorem hget_of {h : AHp} {r o : Nat} {g : List ACell} {c : ACell} (e : hnth h r = some g) (e2 : hnth g o = some c) : hget h r o = some c := by
  unfold hget
  rw [e]; exact e2
theorem hnth_map {α β : Type} (f : α → β) (l : List α) (i : Nat) : hnth (l.map f) i = (hnth l i).map f := by rw [hnth_eq, hnth_eq, List.getElem?_map]
theorem rn_of {P : List Nat} {i r : Nat} (h : hnth P i = some r) : rn P i = r := by unfold rn; rw [h]; rfl
/-- the callee's start -/
theorem Rep.part {D : va_G} {σ η : Nat → Nat → Nat} {κ : Nat → Nat} {h hC : AHp} {U : State} {H : Heap} {A : Nat → Prop} {P : List Nat} (R : Rep D σ η κ h U H A) (hn : va_nd P = true) (F : Fits P P hC h) :
    Rep D (fun r o => σ (rn P r) o) (fun r o => η (rn P r) o) κ hC U H (AA (fun r o => σ (rn P r) o) (fun r o => η (rn P r) o) hC H.size) ∧ ∀ q, AA (fun r o => σ (rn P r) o) (fun r o => η (rn P r) o) hC H.size q → A q ∨ H.size ≤ q := by
  obtain ⟨hl, hf⟩ := Fits.get P F
  have key : ∀ {r o c}, hget hC r o = some c → ∃ q, hnth P r = some q ∧ rn P r = q ∧ hget h q o = some (renC P c) := by
    intro r o c e
    obtain ⟨g, h1, h2⟩ := hget_some e
    obtain ⟨q, hq⟩ := hnth_of_lt (l := P) (i := r) (by rw [← hl]; exact hnth_lt h1)
    obtain ⟨g2, h3, h4⟩ := hf r q hq
    cases h1.symm.trans h3
    exact ⟨q, hq, rn_of hq, hget_of h4 (by rw [hnth_map, h2]; rfl)⟩
  have kp : ∀ {p : Pl}, pdom hC p → ∃ q, hnth P p.1 = some q ∧ rn P p.1 = q ∧ pdom h (q, p.2.1, p.2.2) := by
    rintro ⟨r, o, b⟩ ⟨c, h1, h2⟩
    obtain ⟨q, h3, h4, h5⟩ := key h1
    exact ⟨q, h3, h4, renC P c, h5, by rw [renC_sb]; exact h2⟩
  have padE : ∀ (p : Pl), pad (fun r o => σ (rn P r) o) (fun r o => η (rn P r) o) p = pad σ η (rn P p.1, p.2.1, p.2.2) := by
    rintro ⟨r, o, b⟩
    cases b <;> rfl
  refine ⟨⟨fun r o c e => ?_, fun p q hp hq he => ?_, fun p hp => Or.inl ⟨p, hp, rfl⟩⟩, fun q hq => ?_⟩
  · obtain ⟨q, h1, h2, h3⟩ := key e
    exact atC_ren.mp (by rw [h2]; exact R.1 q o _ h3)
  · obtain ⟨a, h1, h2, h3⟩ := kp hp
    obtain ⟨b, h4, h5, h6⟩ := kp hq
    rw [padE, padE, h2, h5] at he
    have := R.2.1 _ _ h3 h6 he
    injection this with e1 e2
    subst e1
    obtain ⟨p1, p2⟩ := p
    obtain ⟨q1, q2⟩ := q
    have i1 := ixo_of hn h1
    have i2 := ixo_of hn h4
    have : p1 = q1 := Option.some.inj (i1.symm.trans i2)
    subst this
    injection e2 with e3 e4
    obtain ⟨p3, p4⟩ := p2
    obtain ⟨q3, q4⟩ := q2
    simp only at e3 e4
    rw [e3, e4]
  · rcases hq with ⟨p, hp, rfl⟩ | hq
    · obtain ⟨a, h1, h2, h3⟩ := kp hp
      rw [padE, h2]
      exact Or.inl (R.2.2 _ h3)
    · exact Or.inr hq
/-- behind the call -/
theorem Rep.after {D : va_G} {σ η η2 : Nat → Nat → Nat} {κ : Nat → Nat} {h hC h2 : AHp} {U : State} {H H1 : Heap} {A : Nat → Prop} {P : List Nat} (R : Rep D σ η κ h U H A) (hn : va_nd P = true) (F : Fits P P hC h) (hlen : h2.length = hC.length)
    (R2 : Rep D (fun r o => σ (rn P r) o) η2 κ h2 U H1 (AA (fun r o => σ (rn P r) o) (fun r o => η (rn P r) o) hC H.size)) (hk : ∀ q : Nat, q < H.size → ¬ AA (fun r o => σ (rn P r) o) (fun r o => η (rn P r) o) hC H.size q → H1[q]? = H[q]?) (hA : ∀ q : Nat, H.size ≤ q → A q) :
    Rep D σ (fun r o => match ixo P r with | some i => η2 i o | none => η r o) κ (plug P P h2 h) U H1 A := by
  obtain ⟨hl, hf⟩ := Fits.get P F
  obtain ⟨R1, R1A⟩ := R.part hn F
  have hx : ∀ q ∈ P, ∃ g, hnth h q = some g := fun q hq => by
    obtain ⟨i, hi⟩ := List.getElem?_of_mem hq
    obtain ⟨g, -, h9⟩ := hf i q (by rw [hnth_eq]; exact hi)
    exact ⟨_, h9⟩
  have pg := fun r => plug_get P P h2 h r hn (hlen.trans hl) hx
  have cell : ∀ {r o c}, hget (plug P P h2 h) r o = some c → (∃ i c2, ixo P r = some i ∧ rn P i = r ∧ hget h2 i o = some c2 ∧ c = renC P c2) ∨ (ixo P r = none ∧ hget h r o = some c) := by
    intro r o c e
    obtain ⟨g, h1, h3⟩ := hget_some e
    rw [pg r] at h1
    cases hi : ixo P r with
    | none =>
      rw [hi] at h1
      exact Or.inr ⟨rfl, hget_of h1 h3⟩
    | some i =>
      rw [hi] at h1
      have h1 : Option.map (fun g => List.map (renC P) g) (hnth h2 i) = some g := h1
      cases h5 : hnth h2 i with
      | none => rw [h5] at h1; cases h1
      | some g2 =>
        rw [h5] at h1
        cases h1
        rw [hnth_map] at h3
        cases h6 : hnth g2 o with
        | none => rw [h6] at h3; cases h3
        | some c2 =>
          rw [h6] at h3
          cases h3
          exact Or.inl ⟨i, c2, rfl, rn_of (ixo_some hi), hget_of h5 h6, rfl⟩
  have rest : ∀ {p : Pl}, pdom h p → ixo P p.1 = none → pad σ η p < H.size ∧ ¬ AA (fun r o => σ (rn P r) o) (fun r o => η (rn P r) o) hC H.size (pad σ η p) := by
    intro p hp hi
    refine ⟨R.size hp, fun hq => ?_⟩
    rcases hq with ⟨q, hq, he⟩ | hq
    · obtain ⟨r, o, b⟩ := q
      obtain ⟨c, h1, h3⟩ := hq
      obtain ⟨g, h4, h5⟩ := hget_some h1
      obtain ⟨z, hz⟩ := hnth_of_lt (l := P) (i := r) (by rw [← hl]; exact hnth_lt h4)
      obtain ⟨g2, h6, h7⟩ := hf r z hz
      cases h4.symm.trans h6
      have hd : pdom h (z, o, b) := ⟨renC P c, hget_of h7 (by rw [hnth_map, h5]; rfl), by rw [renC_sb]; exact h3⟩
      have e2 : pad σ η p = pad σ η (z, o, b) := by
        rw [he]
        have := rn_of hz
        cases b <;> (show _ = _; unfold pad; dsimp only; rw [this])
      have := R.2.1 _ _ hp hd e2
      rw [this] at hi
      exact ixo_none hi r hz
    · have := R.size hp
      omega
  have place : ∀ {p : Pl}, pdom (plug P P h2 h) p → (∃ i, ixo P p.1 = some i ∧ rn P i = p.1 ∧ pdom h2 (i, p.2.1, p.2.2)) ∨ (ixo P p.1 = none ∧ pdom h p) := by
    rintro ⟨r, o, b⟩ ⟨c, h1, h3⟩
    rcases cell h1 with ⟨i, c2, g1, g2, g3, rfl⟩ | ⟨g1, g2⟩
    · exact Or.inl ⟨i, g1, g2, c2, g3, by rw [renC_sb] at h3; exact h3⟩
    · exact Or.inr ⟨g1, c, g2, h3⟩
  have padI : ∀ {p : Pl} {i : Nat}, ixo P p.1 = some i → rn P i = p.1 → pad σ (fun r o => match ixo P r with | some i => η2 i o | none => η r o) p = pad (fun r o => σ (rn P r) o) η2 (i, p.2.1, p.2.2) := by
    rintro ⟨r, o, b⟩ i h1 h3
    cases b with
    | true =>
      show (match ixo P r with | some i => η2 i o | none => η r o) = η2 i o
      rw [show ixo P r = some i from h1]
    | false =>
      show σ r o = σ (rn P i) o
      rw [h3]
  have padN : ∀ {p : Pl}, ixo P p.1 = none → pad σ (fun r o => match ixo P r with | some i => η2 i o | none => η r o) p = pad σ η p := by
    rintro ⟨r, o, b⟩ h1
    cases b with
    | true =>
      show (match ixo P r with | some i => η2 i o | none => η r o) = η r o
      rw [show ixo P r = none from h1]
    | false => rfl
  refine ⟨fun r o c e => ?_, fun p q hp hq he => ?_, fun p hp => ?_⟩
  · rcases cell e with ⟨i, c2, g1, g2, g3, rfl⟩ | ⟨g1, g2⟩
    · have h1 := R2.1 i o c2 g3
      have h3 : atC D σ (fun r o => match ixo P r with | some i => η2 i o | none => η r o) κ U H1 (rn P i) o (renC P c2) := by
        refine atC_ren.mpr ?_
        have e9 : ∀ o, (fun r o => (fun r o => match ixo P r with | some i => η2 i o | none => η r o) (rn P r) o) i o = η2 i o := fun o => by
          show (match ixo P (rn P i) with | some i => η2 i o | none => η (rn P i) o) = η2 i o
          rw [g2, g1]
        rcases c2 with ⟨ty, n, x⟩ | ⟨ci, fs⟩ | ⟨n, m, t⟩
        · exact h1
        · exact h1
        · obtain ⟨q1, q2, q3⟩ := h1
          refine ⟨?_, ?_, q3⟩
          · rw [e9]; exact q1
          · rw [e9]; exact q2
      rw [g2] at h3
      exact h3
    · have h1 := R.1 r o c g2
      have h0 := rest (p := (r, o, false)) ⟨c, g2, fun z => by cases z⟩ g1
      have h3 := h1.kept (H1 := H1) (hk _ h0.1 h0.2) (fun hs => by
        have h9 := rest (p := (r, o, true)) ⟨c, g2, fun _ => hs⟩ g1
        exact hk _ h9.1 h9.2)
      rcases c with ⟨ty, n, x⟩ | ⟨ci, fs⟩ | ⟨n, m, t⟩
      · exact h3
      · exact h3
      · obtain ⟨q1, q2, q3⟩ := h3
        have e9 : (fun r o => match ixo P r with | some i => η2 i o | none => η r o) r o = η r o := by
          show (match ixo P r with | some i => η2 i o | none => η r o) = η r o
          rw [g1]
        refine ⟨?_, ?_, q3⟩
        · rw [e9]; exact q1
        · rw [e9]; exact q2
  · rcases place hp with ⟨i, g1, g2, g3⟩ | ⟨g1, g2⟩ <;> rcases place hq with ⟨j, k1, k2, k3⟩ | ⟨k1, k2⟩
    · rw [padI g1 g2, padI k1 k2] at he
      have := R2.2.1 _ _ g3 k3 he
      injection this with e1 e2
      obtain ⟨p1, p2, p3⟩ := p
      obtain ⟨q1, q2, q3⟩ := q
      injection e2 with e3 e4
      simp only at g2 k2 e3 e4
      rw [e1] at g2
      rw [← g2, ← k2, e3, e4]
    · rw [padI g1 g2, padN k1] at he
      have h9 := rest k2 k1
      have h8 := R2.2.2 _ g3
      rw [he] at h8
      exact absurd h8 h9.2
    · rw [padN g1, padI k1 k2] at he
      have h9 := rest g2 g1
      have h8 := R2.2.2 _ k3
      rw [← he] at h8
      exact absurd h8 h9.2
    · rw [padN g1, padN k1] at he
      exact R.2.1 _ _ g2 k2 he
  · rcases place hp with ⟨i, g1, g2, g3⟩ | ⟨g1, g2⟩
    · rw [padI g1 g2]
      rcases R1A _ (R2.2.2 _ g3) with h9 | h9
      · exact h9
      · exact hA _ h9
    · rw [padN g1]
      exact R.2.2 _ g2
