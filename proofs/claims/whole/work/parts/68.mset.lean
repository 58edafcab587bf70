/-! ===== the model: what changes its row ===== -/
/-- it ends with this value, and a model's state for which P holds -/
def PoE (v : Option AV) (P : MS → Prop) : Out → AHp → Prop := fun o h => ∃ m' : MS, o = .inl v ∧ h = mdl m' ∧ P m'
section ATE
variable {γ : CX} {own : String} {cc : ByteArray} {σ : Nat → Nat → Nat} {k n pc : Nat} {ls : List (Nat × AV)} {st : List AV} {d2 ix na : Nat} {M : MR} {m1 : MS} {v : Option AV} {P : MS → Prop}
theorem At.mE (As rest : List AV) (O : OK γ own cc) (S : Sp d2 0 0 M (vR 0 0 :: As) (mdl m1) (PoE v P)) (K : KV M na) (w : Cond.methodLink own ix (mY M) ∈ GT) (hf : Fit γ k n d2 0 0) (d : decode cc pc = .ok (.invokevirtual ix, 3))
    (g : ∀ m', P m' → At γ σ k n (pc + 3) ls (v.toList ++ rest) (mdl m')) (hc : (mY M).cls = RX11 := by rfl) (hna : As.length = na := by rfl) (hrw : wsum rest ≤ 8 := by exact Nat.le_of_ble_eq_true rfl) (hst : st = As.reverse ++ vR 0 0 :: rest := by rfl) (ha : As.map (ren [0, 1, 2, 3, 4]) = As := by rfl) (hv : v.toList.map (ren [0, 1, 2, 3, 4]) = v.toList := by rfl) : At γ σ k n pc ls st (mdl m1) :=
  At.callV (P := [0, 1, 2, 3, 4]) O (r := 0) (o := 0) (ci := 12) (T := TX11) (N := 15) S K w rfl ⟨rfl, rfl, rfl, rfl, rfl, trivial⟩ rfl (by rw [hc]; rfl) hna hf hrw d (by rw [ha]; exact hst) (fun v2 h2 hp => by
    obtain ⟨m', hv2, rfl, hP⟩ := hp
    cases hv2
    refine ⟨rfl, ?_⟩
    have := g m' hP
    rw [← hv] at this
    exact this) (fun E h2 hp => by
    obtain ⟨m', hv2, -⟩ := hp
    cases hv2)
end ATE
theorem rE {mc ms : Nat} {v : Option AV} {P : MS → Prop} {m' : MS} (hP : P m') {h : AHp} (eh : h = mdl m' := by rfl) : RF 0 0 mc ms (PoE v P) v h := ⟨⟨m', rfl, eh, hP⟩, Nat.zero_le _, Nat.zero_le _⟩
/-- one row over another -/
def cpF (f : FI) (a b : Nat) : FI := fun j => if 116 * b ≤ j ∧ j < 116 * b + 116 then f (j - 116 * b + 116 * a) else f j
def cpI (f : FI) (a b i : Nat) : FI := fun j => if 116 * b ≤ j ∧ j < 116 * b + i then f (j - 116 * b + 116 * a) else f j
theorem cpI_put (f : FI) (a b i : Nat) (hab : a ≠ b) (hi : i < 116) : upd (cpI f a b i) (116 * b + i) (cpI f a b i (116 * a + i)) = cpI f a b (i + 1) := by
  have e : cpI f a b i (116 * a + i) = f (116 * a + i) := by
    unfold cpI
    rw [if_neg]
    omega
  rw [e]
  funext j
  unfold upd cpI
  by_cases h : j = 116 * b + i
  · subst h
    rw [if_pos rfl, if_pos (by omega)]
    congr 1
    omega
  · rw [if_neg h]
    by_cases h2 : 116 * b ≤ j ∧ j < 116 * b + i
    · rw [if_pos h2, if_pos (by omega)]
    · rw [if_neg h2, if_neg (by omega)]
theorem ixr (b i : Nat) : (116 : Int32) * nI b + nI i = nI (116 * b + i) := by
  rw [show (116 : Int32) = nI 116 from rfl, nI_mul, nI_add]
theorem n_copies (m : MS) (a b : Nat) (ha : a < 12) (hb : b < 12) (hab : a ≠ b) : Sp 0 0 0 mX11_copies [vR 0 0, vI (nI a), vI (nI b)] (mdl m) (PoV (mdl (wA m (cpF (zA m) a b)))) := by
  refine Sp.of' false (fun h => by cases h) (by decide) rfl rfl (Nat.le_of_ble_eq_true rfl) fun γ σ B => ?_
  have loop : ∀ (j i : Nat), i + j = 116 → At γ σ 0 0 2 [(0, vR 0 0), (1, vI (nI a)), (2, vI (nI b)), (3, vI (nI i))] [] (mdl (wA m (cpI (zA m) a b i))) := by
    intro j
    induction j with
    | zero =>
      intro i hi
      have hi : i = 116 := by omega
      subst hi
      refine B.run okX11_copies [(2, [0, 1, 2, 3])] 60 ?_
      constructor
      · intro _
        exact rV
      · intro h
        exact absurd (nI_le (a := 116) (b := 116) (by omega) (by omega)) h
    | succ j ih =>
      intro i hi
      refine B.run okX11_copies [(2, [0, 1, 2, 3])] 60 ?_
      constructor
      · intro h
        exact absurd h (nI_ge (a := i) (b := 116) (by omega) (by omega))
      · intro _
        refine ⟨by rw [ixr a i]; exact vp_in_nI (by omega) (by decide), by rw [ixr b i]; exact vp_in_nI (by omega) (by decide), ?_⟩
        rw [ixr a i, ixr b i, nI_clamp (by omega), nI_clamp (by omega)]
        have z := ih (i + 1) (by omega)
        rw [← nI_1, ← cpI_put (zA m) a b i hab (by omega)] at z
        exact z
  refine B.run okX11_copies [(2, [0, 1, 2, 3])] 60 ?_
  have z := loop 116 0 (by omega)
  have e : cpI (zA m) a b 0 = zA m := by
    funext j
    unfold cpI
    rw [if_neg (by omega)]
  rw [e] at z
  exact z
/-- only row 0 has changed, and it holds T now -/
def CH (m m' : MS) (T : SH) : Prop := RS T (zA m') ∧ (∀ j, 116 ≤ j → zA m' j = zA m j) ∧ m'.2 = m.2
theorem CH.rf {m : MS} {T : SH} (r : RS T (zA m)) : CH m m T := ⟨r, fun _ _ => rfl, rfl⟩
theorem CH.tr {m m1 m2 : MS} {T1 T2 : SH} (h1 : CH m m1 T1) (h2 : CH m1 m2 T2) : CH m m2 T2 := ⟨h2.1, fun j hj => (h2.2.1 j hj).trans (h1.2.1 j hj), h2.2.2.trans h1.2.2⟩
theorem CH.up {m : MS} {T : SH} {f : FI} (r : RS T f) (h : ∀ j, 116 ≤ j → f j = zA m j) : CH m (wA m f) T := ⟨r, h, rfl⟩
theorem upd_hi {f : FI} {i : Nat} {x : Int32} (hi : i < 116) : ∀ j, 116 ≤ j → upd f i x j = f j := fun j hj => upd_ne f x (by omega)
/-- RS of a row that agrees with another one but for some entries -/
theorem RS.setW {T : SH} {f : FI} (r : RS T f) (hT : WF T) {i : Nat} (hi : i < 8) (x : Int32) : RS (stW T (upd (gw T) i x)) (upd f (10 + 5 * i + 2) x) := by
  obtain ⟨⟨a0, a1, a2, a3, a4, a5, a6, a7, a8, a9⟩, b, c, d, e⟩ := r
  obtain ⟨h1, h2, h3, h4, -⟩ := hT
  have N : ∀ j, j ≠ 10 + 5 * i + 2 → upd f (10 + 5 * i + 2) x j = f j := fun j hj => upd_ne f x hj
  refine ⟨⟨(N _ (by omega)).trans a0, (N _ (by omega)).trans a1, (N _ (by omega)).trans a2, (N _ (by omega)).trans a3, (N _ (by omega)).trans a4, (N _ (by omega)).trans a5, (N _ (by omega)).trans a6, (N _ (by omega)).trans a7, (N _ (by omega)).trans a8, by rw [N _ (by omega)]; exact a9⟩, fun j hj => ?_, fun j hj => ?_, fun j hj => ?_, fun j hj => ?_⟩
  · have hj : j < gc T := hj
    refine ⟨(N _ (by omega)).trans (b j hj).1, (N _ (by omega)).trans (b j hj).2.1, ?_, (N _ (by omega)).trans (b j hj).2.2.2.1, (N _ (by omega)).trans (b j hj).2.2.2.2⟩
    show upd f (10 + 5 * i + 2) x (10 + 5 * j + 2) = upd (gw T) i x j
    by_cases e : j = i
    · subst e; rw [upd_eq, upd_eq]
    · rw [upd_ne _ _ e, N _ (by omega)]; exact (b j hj).2.2.1
  · have hj : j < gp T := hj
    exact ⟨(N _ (by omega)).trans (c j hj).1, (N _ (by omega)).trans (c j hj).2.1, (N _ (by omega)).trans (c j hj).2.2⟩
  · have hj : j < gsc T := hj
    exact ⟨(N _ (by omega)).trans (d j hj).1, (N _ (by omega)).trans (d j hj).2⟩
  · have hj : j < glc T := hj
    exact (N _ (by omega)).trans (e j hj)
theorem RS.setL {T : SH} {f : FI} (r : RS T f) (hT : WF T) {i : Nat} (hi : i < 8) (x : Int32) : RS (stL T (upd (gl T) i x)) (upd f (10 + 5 * i + 3) x) := by
  obtain ⟨⟨a0, a1, a2, a3, a4, a5, a6, a7, a8, a9⟩, b, c, d, e⟩ := r
  obtain ⟨h1, h2, h3, h4, -⟩ := hT
  have N : ∀ j, j ≠ 10 + 5 * i + 3 → upd f (10 + 5 * i + 3) x j = f j := fun j hj => upd_ne f x hj
  refine ⟨⟨(N _ (by omega)).trans a0, (N _ (by omega)).trans a1, (N _ (by omega)).trans a2, (N _ (by omega)).trans a3, (N _ (by omega)).trans a4, (N _ (by omega)).trans a5, (N _ (by omega)).trans a6, (N _ (by omega)).trans a7, (N _ (by omega)).trans a8, by rw [N _ (by omega)]; exact a9⟩, fun j hj => ?_, fun j hj => ?_, fun j hj => ?_, fun j hj => ?_⟩
  · have hj : j < gc T := hj
    refine ⟨(N _ (by omega)).trans (b j hj).1, (N _ (by omega)).trans (b j hj).2.1, (N _ (by omega)).trans (b j hj).2.2.1, ?_, (N _ (by omega)).trans (b j hj).2.2.2.2⟩
    show upd f (10 + 5 * i + 3) x (10 + 5 * j + 3) = upd (gl T) i x j
    by_cases e : j = i
    · subst e; rw [upd_eq, upd_eq]
    · rw [upd_ne _ _ e, N _ (by omega)]; exact (b j hj).2.2.2.1
  · have hj : j < gp T := hj
    exact ⟨(N _ (by omega)).trans (c j hj).1, (N _ (by omega)).trans (c j hj).2.1, (N _ (by omega)).trans (c j hj).2.2⟩
  · have hj : j < gsc T := hj
    exact ⟨(N _ (by omega)).trans (d j hj).1, (N _ (by omega)).trans (d j hj).2⟩
  · have hj : j < glc T := hj
    exact (N _ (by omega)).trans (e j hj)
