/-! ===== links of the constants of Fault ===== -/
theorem fs_X8_64 : Cond.fieldLink RX8 64 RX3 "BAD_ARGUMENT" "LBallastControl$Fault;" ∈ GT := mT 1233 (by decide +kernel) rfl
theorem fs_X8_73 : Cond.fieldLink RX8 73 RX3 "NONE" "LBallastControl$Fault;" ∈ GT := mT 1234 (by decide +kernel) rfl
theorem fs_X8_76 : Cond.fieldLink RX8 76 RX3 "BAD_STATE" "LBallastControl$Fault;" ∈ GT := mT 1235 (by decide +kernel) rfl
theorem fs_X10_442 : Cond.fieldLink RX10 440 RX3 "NO_INDEX" "LBallastControl$Fault;" ∈ GT := mT 1069 (by decide +kernel) rfl
theorem fs_X10_439 : Cond.fieldLink RX10 437 RX3 "BAD_ARGUMENT" "LBallastControl$Fault;" ∈ GT := mT 1064 (by decide +kernel) rfl
theorem fs_X10_449 : Cond.fieldLink RX10 447 RX3 "BAD_STATE" "LBallastControl$Fault;" ∈ GT := mT 1074 (by decide +kernel) rfl
theorem fs_X10_454 : Cond.fieldLink RX10 452 RX3 "NO_ELEMENT" "LBallastControl$Fault;" ∈ GT := mT 1092 (by decide +kernel) rfl
theorem fs_X8_83 : Cond.fieldLink RX8 83 RX3 "NO_INDEX" "LBallastControl$Fault;" ∈ GT := mT 1259 (by decide +kernel) rfl
theorem fs_X8_95 : Cond.fieldLink RX8 95 RX3 "NO_ELEMENT" "LBallastControl$Fault;" ∈ GT := mT 1290 (by decide +kernel) rfl
theorem fs_X10_402 : Cond.fieldLink RX10 400 RX3 "NONE" "LBallastControl$Fault;" ∈ GT := mT 1062 (by decide +kernel) rfl
def PoA (v : AV) (h0 : AHp) : Out → AHp → Prop := fun o h => o = .inl (some v) ∧ h = h0
theorem rA {mc ms : Nat} {x y : AV} {h h0 : AHp} (e : x = y) (eh : h = h0 := by rfl) : RF 0 0 mc ms (PoA y h0) (some x) h := ⟨⟨by rw [e], eh⟩, Nat.zero_le _, Nat.zero_le _⟩
section ATQ2
variable {γ : CX} {own : String} {cc : ByteArray} {σ : Nat → Nat → Nat} {k n pc : Nat} {ls : List (Nat × AV)} {st : List AV} {h hC hC2 : AHp} {mc2 ms2 d2 ix : Nat} {M : MR} {na : Nat}
theorem At.cVA (P : List Nat) (As rest : List AV) (O : OK γ own cc) {r o ci : Nat} {fs : List AV} {T : u_T} {N : Nat} {x : AV} (S : Sp d2 mc2 ms2 M (vR r o :: As) hC (PoA x hC2)) (K : KV M na) (w : Cond.methodLink own ix (mY M) ∈ GT) (F : Fits P P hC h) (hf : Fit γ k n d2 mc2 ms2) (d : decode cc pc = .ok (.invokevirtual ix, 3))
    (g : At γ σ (k + mc2) (n + ms2) (pc + 3) ls (ren P x :: rest) (plug P P hC2 h)) (hn : va_nd P = true := by rfl) (hg : hget hC r o = some (aO ci fs) := by rfl) (hc : vwCl[ci]? = some ((mY M).cls, T, N) := by rfl) (hna : As.length = na := by rfl) (hrw : wsum rest ≤ 8 := by exact Nat.le_of_ble_eq_true rfl) (hst : st = (As.map (ren P)).reverse ++ vR (rn P r) o :: rest := by rfl) (hl : hC2.length = hC.length := by rfl) : At γ σ k n pc ls st h :=
  At.callV O S K w hn F hg hc hna hf hrw d hst (fun v h2 hp => by
    obtain ⟨hv, rfl⟩ := hp
    cases hv
    exact ⟨hl, g⟩) (fun E h2 hp => by cases hp.1)
theorem At.cSA (P : List Nat) (As rest : List AV) (O : OK γ own cc) {x : AV} (S : Sp d2 mc2 ms2 M As hC (PoA x hC2)) (K : KS M na) (w : Cond.methodLink own ix (mY M) ∈ GT) (F : Fits P P hC h) (hf : Fit γ k n d2 mc2 ms2) (d : decode cc pc = .ok (.invokestatic ix, 3))
    (g : At γ σ (k + mc2) (n + ms2) (pc + 3) ls (ren P x :: rest) (plug P P hC2 h)) (hn : va_nd P = true := by rfl) (hna : As.length = na := by rfl) (hrw : wsum rest ≤ 8 := by exact Nat.le_of_ble_eq_true rfl) (hst : st = (As.map (ren P)).reverse ++ rest := by rfl) (hl : hC2.length = hC.length := by rfl) : At γ σ k n pc ls st h :=
  At.callS O S K w hn F hna hf hrw d hst (fun v h2 hp => by
    obtain ⟨hv, rfl⟩ := hp
    cases hv
    exact ⟨hl, g⟩) (fun E h2 hp => by cases hp.1)
end ATQ2
