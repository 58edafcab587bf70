/-! ===== the model: its world ===== -/
/-- all; thrown, changes, saved, result; line, its size; input, typed, here, error, errorAt, failedAt; commands, their number -/
abbrev MS : Type := FI × (Int32 × Int32 × Int32 × Int32) × (FI × Int32) × (FI × Int32 × Int32 × Int32 × Int32 × Int32) × (FI × Int32)
abbrev zA (m : MS) : FI := m.1
abbrev zT (m : MS) : Int32 := m.2.1.1
abbrev zN (m : MS) : Int32 := m.2.1.2.1
abbrev zV (m : MS) : Int32 := m.2.1.2.2.1
abbrev zR (m : MS) : Int32 := m.2.1.2.2.2
abbrev zL (m : MS) : FI := m.2.2.1.1
abbrev zLn (m : MS) : Int32 := m.2.2.1.2
abbrev zI (m : MS) : FI := m.2.2.2.1.1
abbrev zTy (m : MS) : Int32 := m.2.2.2.1.2.1
abbrev zH (m : MS) : Int32 := m.2.2.2.1.2.2.1
abbrev zE (m : MS) : Int32 := m.2.2.2.1.2.2.2.1
abbrev zEa (m : MS) : Int32 := m.2.2.2.1.2.2.2.2.1
abbrev zFa (m : MS) : Int32 := m.2.2.2.1.2.2.2.2.2
abbrev zC (m : MS) : FI := m.2.2.2.2.1
abbrev zCn (m : MS) : Int32 := m.2.2.2.2.2
/-- with another row, another 'thrown', another 'result' .. -/
abbrev wA (m : MS) (f : FI) : MS := (f, m.2)
abbrev wT (m : MS) (x : Int32) : MS := (m.1, (x, m.2.1.2), m.2.2)
abbrev wN (m : MS) (x : Int32) : MS := (m.1, (m.2.1.1, x, m.2.1.2.2), m.2.2)
abbrev wV (m : MS) (x : Int32) : MS := (m.1, (m.2.1.1, m.2.1.2.1, x, m.2.1.2.2.2), m.2.2)
abbrev wR (m : MS) (x : Int32) : MS := (m.1, (m.2.1.1, m.2.1.2.1, m.2.1.2.2.1, x), m.2.2)
abbrev cA16 (n : Nat) (f : FI) : ACell := .inl (.char, n, .inl f)
def mdl (m : MS) : AHp := [[aO 12 [vI (zT m), vR 1 0, vI (zN m), vI (zV m), vI (zR m), vR 2 0, vI (zLn m), vR 3 0, vI (zTy m), vI (zH m), vI (zE m), vI (zEa m), vI (zFa m), vR 4 0, vI (zCn m)]], [aI 1392 (zA m)], [cA16 240 (zL m)], [cA16 60 (zI m)], [aI 244 (zC m)]]
section ATM
variable {γ : CX} {own : String} {cc : ByteArray} {σ : Nat → Nat → Nat} {k n pc : Nat} {ls : List (Nat × AV)} {st : List AV} {d2 ix na : Nat} {M : MR} {m1 m2 : MS}
theorem At.mI (As rest : List AV) (O : OK γ own cc) {x : Int32} (S : Sp d2 0 0 M (vR 0 0 :: As) (mdl m1) (PoI x (mdl m2))) (K : KV M na) (w : Cond.methodLink own ix (mY M) ∈ GT) (hf : Fit γ k n d2 0 0) (d : decode cc pc = .ok (.invokevirtual ix, 3))
    (g : At γ σ k n (pc + 3) ls (vI x :: rest) (mdl m2)) (hc : (mY M).cls = RX11 := by rfl) (hna : As.length = na := by rfl) (hrw : wsum rest ≤ 8 := by exact Nat.le_of_ble_eq_true rfl) (hst : st = As.reverse ++ vR 0 0 :: rest := by rfl) (ha : As.map (ren [0, 1, 2, 3, 4]) = As := by rfl) : At γ σ k n pc ls st (mdl m1) :=
  At.cVI [0, 1, 2, 3, 4] As rest O (r := 0) (o := 0) (ci := 12) (T := TX11) (N := 15) S K w ⟨rfl, rfl, rfl, rfl, rfl, trivial⟩ hf d g rfl rfl (by rw [hc]; rfl) hna hrw (by rw [ha]; exact hst) rfl
theorem At.mV (As rest : List AV) (O : OK γ own cc) (S : Sp d2 0 0 M (vR 0 0 :: As) (mdl m1) (PoV (mdl m2))) (K : KV M na) (w : Cond.methodLink own ix (mY M) ∈ GT) (hf : Fit γ k n d2 0 0) (d : decode cc pc = .ok (.invokevirtual ix, 3))
    (g : At γ σ k n (pc + 3) ls rest (mdl m2)) (hc : (mY M).cls = RX11 := by rfl) (hna : As.length = na := by rfl) (hrw : wsum rest ≤ 8 := by exact Nat.le_of_ble_eq_true rfl) (hst : st = As.reverse ++ vR 0 0 :: rest := by rfl) (ha : As.map (ren [0, 1, 2, 3, 4]) = As := by rfl) : At γ σ k n pc ls st (mdl m1) :=
  At.cVV [0, 1, 2, 3, 4] As rest O (r := 0) (o := 0) (ci := 12) (T := TX11) (N := 15) S K w ⟨rfl, rfl, rfl, rfl, rfl, trivial⟩ hf d g rfl rfl (by rw [hc]; rfl) hna hrw (by rw [ha]; exact hst) rfl
theorem At.mS (As rest : List AV) (O : OK γ own cc) {x : Int32} {h : AHp} (S : Sp d2 0 0 M As [] (PoI x [])) (K : KS M na) (w : Cond.methodLink own ix (mY M) ∈ GT) (hf : Fit γ k n d2 0 0) (d : decode cc pc = .ok (.invokestatic ix, 3))
    (g : At γ σ k n (pc + 3) ls (vI x :: rest) h) (hna : As.length = na := by rfl) (hrw : wsum rest ≤ 8 := by exact Nat.le_of_ble_eq_true rfl) (hst : st = As.reverse ++ rest := by rfl) (ha : As.map (ren []) = As := by rfl) : At γ σ k n pc ls st h :=
  At.cSI [] As rest O S K w trivial hf d g rfl hna hrw (by rw [ha]; exact hst) rfl
end ATM
/-! numbers -/
theorem vk {x : Int32} {N : Nat} (h : decide (¬ (x < 0 ∨ N ≤ x.toNatClampNeg)) = true := by rfl) : vp_in x N := of_decide_eq_true (p := ¬ (x < 0 ∨ N ≤ x.toNatClampNeg)) h
theorem nI_mul (a b : Nat) : nI a * nI b = nI (a * b) := by
  exact (Int32.ofNat_mul a b).symm
theorem ix5 (i w : Nat) : (10 : Int32) + 5 * nI i + nI w = nI (10 + 5 * i + w) := by
  rw [show (10 : Int32) = nI 10 from rfl, show (5 : Int32) = nI 5 from rfl, nI_mul, nI_add, nI_add]
theorem ix3 (b i : Nat) : nI b + (3 : Int32) * nI i = nI (b + 3 * i) := by
  rw [show (3 : Int32) = nI 3 from rfl, nI_mul, nI_add]
theorem ix2 (b i : Nat) : nI b + (2 : Int32) * nI i = nI (b + 2 * i) := by
  rw [show (2 : Int32) = nI 2 from rfl, nI_mul, nI_add]
/-! in, size, c, set, idOf, heavy, lies -/
theorem n_in (x a b : Int32) : Sp 0 0 0 mX11_in [vI x, vI a, vI b] [] (PoI (b2 (wiB x a b)) []) := by
  refine Sp.of' false (fun h => by cases h) (by decide) rfl rfl (Nat.le_of_ble_eq_true rfl) fun γ σ B => ?_
  refine B.run okX11_in [] 60 ?_
  constructor
  · intro h
    exact rFa (by unfold wiB; rw [decide_eq_false (Int32.not_le.mpr h)]; rfl)
  · intro h
    constructor
    · intro h2
      exact rFa (by unfold wiB; rw [decide_eq_false (Int32.not_le.mpr h2), Bool.and_false])
    · intro h2
      exact rT (by unfold wiB; rw [decide_eq_true (Int32.not_lt.mp h), decide_eq_true (Int32.not_lt.mp h2)]; rfl)
theorem n_size (x : Int32) : Sp 0 0 0 mX11_size [vI x] [] (PoI (absI x) []) := by
  refine Sp.of' false (fun h => by cases h) (by decide) rfl rfl (Nat.le_of_ble_eq_true rfl) fun γ σ B => ?_
  refine B.run okX11_size [] 60 ?_
  constructor
  · intro h
    exact rI (by unfold absI; rw [if_pos h])
  · intro h
    exact rI (by unfold absI; rw [if_neg h]; grind)
theorem n_c (m : MS) (i w : Nat) (h : 10 + 5 * i + w < 1392) : Sp 0 0 0 mX11_c [vR 0 0, vI (nI i), vI (nI w)] (mdl m) (PoI (zA m (10 + 5 * i + w)) (mdl m)) := by
  refine Sp.of' false (fun h => by cases h) (by decide) rfl rfl (Nat.le_of_ble_eq_true rfl) fun γ σ B => ?_
  refine B.run okX11_c [] 60 ?_
  refine ⟨by rw [ix5]; exact vp_in_nI h (by decide), ?_⟩
  rw [ix5, nI_clamp (by omega)]
  exact rI rfl
theorem n_set (m : MS) (i w : Nat) (v : Int32) (h : 10 + 5 * i + w < 1392) : Sp 0 0 0 mX11_set [vR 0 0, vI (nI i), vI (nI w), vI v] (mdl m) (PoV (mdl (wA m (upd (zA m) (10 + 5 * i + w) v)))) := by
  refine Sp.of' false (fun h => by cases h) (by decide) rfl rfl (Nat.le_of_ble_eq_true rfl) fun γ σ B => ?_
  refine B.run okX11_set [] 60 ?_
  refine ⟨by rw [ix5]; exact vp_in_nI h (by decide), ?_⟩
  rw [ix5, nI_clamp (by omega)]
  exact rV
theorem n_idOf (m : MS) (i : Nat) (h : i < 16) : Sp 0 0 0 mX11_idOf [vR 0 0, vI (nI i)] (mdl m) (PoI (zA m (50 + 3 * i)) (mdl m)) := by
  refine Sp.of' false (fun h => by cases h) (by decide) rfl rfl (Nat.le_of_ble_eq_true rfl) fun γ σ B => ?_
  refine B.run okX11_idOf [] 60 ?_
  have E : (50 : Int32) + 3 * nI i = nI (50 + 3 * i) := ix3 50 i
  refine ⟨by rw [E]; exact vp_in_nI (by omega) (by decide), ?_⟩
  rw [E, nI_clamp (by omega)]
  exact rI rfl
theorem n_heavy (m : MS) (i : Nat) (h : i < 16) : Sp 0 0 0 mX11_heavy [vR 0 0, vI (nI i)] (mdl m) (PoI (zA m (50 + 3 * i + 1)) (mdl m)) := by
  refine Sp.of' false (fun h => by cases h) (by decide) rfl rfl (Nat.le_of_ble_eq_true rfl) fun γ σ B => ?_
  refine B.run okX11_heavy [] 60 ?_
  have E : (50 : Int32) + 3 * nI i + 1 = nI (50 + 3 * i + 1) := by
    rw [show (50 : Int32) + 3 * nI i = nI (50 + 3 * i) from ix3 50 i]
    exact nI_add _ 1
  refine ⟨by rw [E]; exact vp_in_nI (by omega) (by decide), ?_⟩
  rw [E, nI_clamp (by omega)]
  exact rI rfl
theorem n_lies (m : MS) (i : Nat) (h : i < 16) : Sp 0 0 0 mX11_lies [vR 0 0, vI (nI i)] (mdl m) (PoI (zA m (50 + 3 * i + 2)) (mdl m)) := by
  refine Sp.of' false (fun h => by cases h) (by decide) rfl rfl (Nat.le_of_ble_eq_true rfl) fun γ σ B => ?_
  refine B.run okX11_lies [] 60 ?_
  have E : (50 : Int32) + 3 * nI i + 2 = nI (50 + 3 * i + 2) := by
    rw [show (50 : Int32) + 3 * nI i = nI (50 + 3 * i) from ix3 50 i]
    exact nI_add _ 2
  refine ⟨by rw [E]; exact vp_in_nI (by omega) (by decide), ?_⟩
  rw [E, nI_clamp (by omega)]
  exact rI rfl
theorem n_isFine (m : MS) (b : Bool) : Sp 0 0 0 mX11_isFine [vR 0 0, vI (b2 b)] (mdl m) (PoI (b2 b) (mdl (wT m (if b = true then 0 else 1)))) := by
  refine Sp.of' false (fun h => by cases h) (by decide) rfl rfl (Nat.le_of_ble_eq_true rfl) fun γ σ B => ?_
  cases b with
  | true =>
    refine B.run okX11_isFine [] 60 ?_
    constructor
    · intro h; exact absurd h (by decide)
    · intro h; exact ⟨trivial, Or.inr rfl, rI rfl⟩
  | false =>
    refine B.run okX11_isFine [] 60 ?_
    constructor
    · intro h; exact ⟨trivial, Or.inl rfl, rI rfl⟩
    · intro h; exact absurd rfl h
