/-! ===== calls of methods whose end is one value and one heap ===== -/
section ATQ
variable {γ : CX} {own : String} {cc : ByteArray} {σ : Nat → Nat → Nat} {k n pc : Nat} {ls : List (Nat × AV)} {st : List AV} {h hC hC2 : AHp} {mc2 ms2 d2 ix : Nat} {M : MR} {na : Nat}
theorem At.cVI (P : List Nat) (As rest : List AV) (O : OK γ own cc) {r o ci : Nat} {fs : List AV} {T : u_T} {N : Nat} {x : Int32} (S : Sp d2 mc2 ms2 M (vR r o :: As) hC (PoI x hC2)) (K : KV M na) (w : Cond.methodLink own ix (mY M) ∈ GT) (F : Fits P P hC h) (hf : Fit γ k n d2 mc2 ms2) (d : decode cc pc = .ok (.invokevirtual ix, 3))
    (g : At γ σ (k + mc2) (n + ms2) (pc + 3) ls (vI x :: rest) (plug P P hC2 h)) (hn : va_nd P = true := by rfl) (hg : hget hC r o = some (aO ci fs) := by rfl) (hc : vwCl[ci]? = some ((mY M).cls, T, N) := by rfl) (hna : As.length = na := by rfl) (hrw : wsum rest ≤ 8 := by exact Nat.le_of_ble_eq_true rfl) (hst : st = (As.map (ren P)).reverse ++ vR (rn P r) o :: rest := by rfl) (hl : hC2.length = hC.length := by rfl) : At γ σ k n pc ls st h :=
  At.callV O S K w hn F hg hc hna hf hrw d hst (fun v h2 hp => by
    obtain ⟨hv, rfl⟩ := hp
    cases hv
    exact ⟨hl, g⟩) (fun E h2 hp => by cases hp.1)
theorem At.cVV (P : List Nat) (As rest : List AV) (O : OK γ own cc) {r o ci : Nat} {fs : List AV} {T : u_T} {N : Nat} (S : Sp d2 mc2 ms2 M (vR r o :: As) hC (PoV hC2)) (K : KV M na) (w : Cond.methodLink own ix (mY M) ∈ GT) (F : Fits P P hC h) (hf : Fit γ k n d2 mc2 ms2) (d : decode cc pc = .ok (.invokevirtual ix, 3))
    (g : At γ σ (k + mc2) (n + ms2) (pc + 3) ls rest (plug P P hC2 h)) (hn : va_nd P = true := by rfl) (hg : hget hC r o = some (aO ci fs) := by rfl) (hc : vwCl[ci]? = some ((mY M).cls, T, N) := by rfl) (hna : As.length = na := by rfl) (hrw : wsum rest ≤ 8 := by exact Nat.le_of_ble_eq_true rfl) (hst : st = (As.map (ren P)).reverse ++ vR (rn P r) o :: rest := by rfl) (hl : hC2.length = hC.length := by rfl) : At γ σ k n pc ls st h :=
  At.callV O S K w hn F hg hc hna hf hrw d hst (fun v h2 hp => by
    obtain ⟨hv, rfl⟩ := hp
    cases hv
    exact ⟨hl, g⟩) (fun E h2 hp => by cases hp.1)
theorem At.cSI (P : List Nat) (As rest : List AV) (O : OK γ own cc) {x : Int32} (S : Sp d2 mc2 ms2 M As hC (PoI x hC2)) (K : KS M na) (w : Cond.methodLink own ix (mY M) ∈ GT) (F : Fits P P hC h) (hf : Fit γ k n d2 mc2 ms2) (d : decode cc pc = .ok (.invokestatic ix, 3))
    (g : At γ σ (k + mc2) (n + ms2) (pc + 3) ls (vI x :: rest) (plug P P hC2 h)) (hn : va_nd P = true := by rfl) (hna : As.length = na := by rfl) (hrw : wsum rest ≤ 8 := by exact Nat.le_of_ble_eq_true rfl) (hst : st = (As.map (ren P)).reverse ++ rest := by rfl) (hl : hC2.length = hC.length := by rfl) : At γ σ k n pc ls st h :=
  At.callS O S K w hn F hna hf hrw d hst (fun v h2 hp => by
    obtain ⟨hv, rfl⟩ := hp
    cases hv
    exact ⟨hl, g⟩) (fun E h2 hp => by cases hp.1)
theorem At.cNI (P : List Nat) (As rest : List AV) (O : OK γ own cc) {x : Int32} (S : Sp d2 mc2 ms2 M As hC (PoI x hC2)) (K : KS M na) (w : (own, ix, mY M) ∈ NWm) (F : Fits P P hC h) (hf : Fit γ k n d2 mc2 ms2) (d : decode cc pc = .ok (.invokestatic ix, 3))
    (g : At γ σ (k + mc2) (n + ms2) (pc + 3) ls (vI x :: rest) (plug P P hC2 h)) (hn : va_nd P = true := by rfl) (hna : As.length = na := by rfl) (hrw : wsum rest ≤ 8 := by exact Nat.le_of_ble_eq_true rfl) (hst : st = (As.map (ren P)).reverse ++ rest := by rfl) (hl : hC2.length = hC.length := by rfl) : At γ σ k n pc ls st h :=
  At.callSN O S K w hn F hna hf hrw d hst (fun v h2 hp => by
    obtain ⟨hv, rfl⟩ := hp
    cases hv
    exact ⟨hl, g⟩) (fun E h2 hp => by cases hp.1)
end ATQ
