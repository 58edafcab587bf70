/-! ===== minutes and what is pumped stay in bounds ===== -/
theorem lN_plus {N o : Nat} (h : N + o < 2147483648) : lN N + lN o = lN (N + o) := by
  apply Int64.toInt_inj.mp
  rw [Int64.toInt_add, lN_toInt (by omega), lN_toInt (by omega), lN_toInt (by omega)]
  rw [Int.bmod_eq_of_le (by omega) (by omega)]
  omega
def MP (B : Nat) (S : SH) : Prop := ∃ M P : Nat, M ≤ B ∧ gmn S = nI M ∧ gpu S = lN P ∧ P ≤ 160 * M
theorem MP.le {B C : Nat} {S : SH} (h : MP B S) (hb : B ≤ C) : MP C S := by
  obtain ⟨M, P, h1, h2⟩ := h
  exact ⟨M, P, by omega, h2⟩
theorem strike_mn (S : SH) : gmn (strike S) = gmn S ∧ gpu (strike S) = gpu S := by
  unfold strike
  split
  · split
    · exact ⟨rfl, rfl⟩
    · exact ⟨rfl, rfl⟩
  · exact ⟨rfl, rfl⟩
theorem min_l (x y : Int32) : (minI x y).toInt ≤ x.toInt := by
  unfold minI
  split
  · rename_i h
    have := bI_lt h
    omega
  · exact Int.le_refl _
/-- what a minute pumps out -/
abbrev ouS (T : SH) : Int32 := sumI (outI (gu (tkA T)) (gw (tkA T)) (gc (tkA T)) (gpw (tkA T))) (gc (tkA T))
theorem ou_b {S : SH} (h : VS S) (hS : WF S) : bI (ouS S) 0 160 := by
  have h1 : VS (stM S (gmn S + 1)) := h
  have h2 : VB (tkA S) := VB.leak (VS_strike h1 (WF_stM hS _)).1
  have w : WF (tkA S) := WF_leakS (WF_strike (WF_stM hS _))
  have hc := w.1
  have z := bI_sum_e (f := outI (gu (tkA S)) (gw (tkA S)) (gc (tkA S)) (gpw (tkA S))) (gc (tkA S)) (by omega) (fun i hi => by
    obtain ⟨b1, b2, b3, b4, b5, b6⟩ := h2.1 i hi
    unfold outI
    split
    · exact ⟨min_lo b6.1 b3.1, Int.le_trans (min_l _ _) b6.2⟩
    · exact ⟨by decide, by decide⟩)
  exact z.mono (by omega) (by omega)
theorem MP.pk {B : Nat} {S : SH} (h : MP B S) (hB : B ≤ 1000000) (hV : VS S) (hS : WF S) : PK S := by
  obtain ⟨M, P, h1, h2, h3, h4⟩ := h
  obtain ⟨o, ho, e⟩ := (ou_b hV hS).nat
  exact ⟨P, o, by omega, h3, e⟩
theorem MP.tick1 {B : Nat} {S : SH} (h : MP B S) (hB : B < 1000000) (hV : VS S) (hS : WF S) : MP (B + 1) (tick S) := by
  obtain ⟨M, P, h1, h2, h3, h4⟩ := h
  obtain ⟨o, ho, e⟩ := (ou_b hV hS).nat
  have e1 : gmn (tick S) = gmn S + 1 := (strike_mn (stM S (gmn S + 1))).1
  have e2 : gpu (tick S) = gpu S + (ouS S).toInt64 := by
    have z : gpu (tkA S) = gpu S := (strike_mn (stM S (gmn S + 1))).2
    show gpu (tkA S) + (ouS S).toInt64 = _
    rw [z]
  refine ⟨M + 1, P + o, by omega, ?_, ?_, by omega⟩
  · rw [e1, h2, nI_1]
  · rw [e2, h3, e, nI_l (by omega), lN_plus (by omega)]
theorem MP.ticks {B : Nat} : ∀ (n : Nat) {S : SH}, MP B S → B + n ≤ 1000000 → VS S → WF S → MP (B + n) (tks n S) ∧ PKs n S
  | 0, S, h, _, _, _ => ⟨h, trivial⟩
  | n + 1, S, h, hB, hV, hS => by
    have z := MP.ticks (B := B + 1) n (h.tick1 (by omega) hV hS) (by omega) (VS_tick hV hS) (WF_tick hS)
    refine ⟨?_, fun _ => ⟨h.pk (by omega) hV hS, z.2⟩⟩
    rw [tks_s]
    split
    · exact z.1.le (by omega)
    · exact h.le (by omega)
theorem SP.mp {B : Nat} {S T : SH} (h : SP S T) (hM : MP B S) : MP B T := by
  obtain ⟨a, b, rfl, p, s⟩ := h
  exact hM
theorem MP_eK {B : Nat} {S : SH} (h : MP B S) (hB : B + 120 ≤ 1000000) (hV : VS S) (hS : WF S) (a b c : Int32) : ∀ o, o < 10 → fK o S a b c = 0 → MP (B + 120) (eK o S a b c) := by
  have h' : MP (B + 120) S := h.le (by omega)
  refine ten ?_ ?_ ?_ ?_ ?_ ?_ ?_ ?_ ?_ ?_
  · exact fun _ => h'
  · exact fun _ => h'
  · exact fun _ => h'
  · exact fun _ => h'
  · exact fun _ => h'
  · exact fun _ => h'
  · exact fun _ => h'
  · exact fun _ => h'
  · exact fun _ => h'
  · intro hf
    obtain ⟨N, hN, rfl⟩ := (fPas_i S a).2 hf
    show MP (B + 120) (tks (nI N).toNatClampNeg S)
    rw [nI_clamp (by omega)]
    exact (MP.ticks N h (by omega) hV hS).1.le (by omega)