/-! ===== the law's turn: the best transfer, the best move of a piece ===== -/
def eqC (C D : CS) : Prop := (C.1 = 0 ∧ D.1 = 0) ∨ C = D
theorem eqC.off {C D : CS} (h : eqC C D) (x y z : Int32) : eqC (offS C x y z) (offS D x y z) := by
  rcases h with ⟨h1, h2⟩ | rfl
  · exact Or.inr (by unfold offS; rw [if_pos (Or.inl h1), if_pos (Or.inl h2)])
  · exact Or.inr rfl
theorem eqC_tIn {cp w ar : FI} {a bf : Int32} {s : Nat} {C D : CS} (h : eqC C D) : ∀ t, eqC (tIn cp w ar a bf s C t) (tIn cp w ar a bf s D t)
  | 0 => h
  | t + 1 => by
    unfold tIn
    split
    · exact (eqC_tIn h t).off _ _ _
    · exact eqC_tIn h t
theorem eqC_tOut {cp w ar : FI} {a bf : Int32} {c : Nat} {C D : CS} (h : eqC C D) : ∀ s, eqC (tOut cp w ar a bf c C s) (tOut cp w ar a bf c D s)
  | 0 => h
  | s + 1 => eqC_tIn (eqC_tOut h s) c
theorem eqC_bS (S : SH) (a bf : Int32) (C D : CS) : eqC (bS S a bf C) (bS S a bf D) := eqC_tOut (Or.inl ⟨rfl, rfl⟩) _
theorem eqC_hIn {S : SH} {k : Nat} {C D : CS} (h : eqC C D) : ∀ t, eqC (hIn S k C t) (hIn S k D t)
  | 0 => h
  | t + 1 => by
    unfold hIn
    split
    · exact eqC_hIn h t
    · exact (eqC_hIn h t).off _ _ _
theorem eqC_hOut {S : SH} {C D : CS} (h : eqC C D) : ∀ k, eqC (hOut S C k) (hOut S D k)
  | 0 => h
  | k + 1 => eqC_hIn (eqC_hOut h k) _
theorem eqC_bH (S : SH) (C D : CS) : eqC (bstH S C) (bstH S D) := eqC_hOut (Or.inl ⟨rfl, rfl⟩) _
def srC (C : CS) : Int32 := if C.1 = 0 then NO else C.2.1
def tgC (C : CS) : Int32 := if C.1 = 0 then NO else C.2.2.1
def lsM (C : CS) : Int32 := if C.1 = 0 then NO else C.2.2.2
def smC (C : CS) : Int32 := if C.1 = 0 then NO else absI C.2.2.2
theorem eqC.sr {C D : CS} (h : eqC C D) : srC C = srC D := by
  rcases h with ⟨h1, h2⟩ | rfl
  · unfold srC; rw [if_pos h1, if_pos h2]
  · rfl
theorem eqC.tg {C D : CS} (h : eqC C D) : tgC C = tgC D := by
  rcases h with ⟨h1, h2⟩ | rfl
  · unfold tgC; rw [if_pos h1, if_pos h2]
  · rfl
theorem eqC.ls {C D : CS} (h : eqC C D) : lsM C = lsM D := by
  rcases h with ⟨h1, h2⟩ | rfl
  · unfold lsM; rw [if_pos h1, if_pos h2]
  · rfl
theorem eqC.z {C D : CS} (h : eqC C D) : C.1 = 0 ↔ D.1 = 0 := by
  rcases h with ⟨h1, h2⟩ | rfl
  · exact ⟨fun _ => h2, fun _ => h1⟩
  · exact Iff.rfl
abbrev C00 : CS := (0, 0, 0, 0)
theorem amt_ok {j : Nat} (h1 : 1 ≤ j) (h2 : j ≤ 200) : fAmt (nI j) = 0 := by
  unfold fAmt
  have : wiB (nI j) 1 200 = true := by
    unfold wiB
    rw [decide_eq_true (show (1 : Int32) ≤ nI j from nI_le (a := 1) h1 (by omega)), decide_eq_true (show nI j ≤ (200 : Int32) from nI_le (b := 200) h2 (by decide))]
    rfl
  rw [if_pos this]
theorem bt_val {S : SH} {a x : Int32} {C : CS} (ha : fAmt a = 0) : (if fBT S a C = 0 then x else cdU (fBT S a C)) = if (bS S a (tmI S) C).1 = 0 then NO else x := by
  unfold fBT
  rw [if_pos ha]
  by_cases h : (bS S a (tmI S) C).1 = 0
  · rw [if_pos h, if_pos h, if_neg (by decide)]; rfl
  · rw [if_neg h, if_neg h, if_pos rfl]
/-! how many transfers -/
def tvN (K : KS') (a : Int32) : Int32 := if fTB K a = 0 then nI ((tbK K a).getD 0) else cdU (fTB K a)
theorem tbR_lt {a w : Int32} : ∀ {n : Nat} {T : SH} {m : Int32} {C : CS} {r : Nat}, tbR a w n T m C = some r → r < n
  | 0, _, _, _, _, h => by cases h
  | n + 1, T, m, C, r, h => by
    unfold tbR at h
    split at h
    · cases h; exact Nat.succ_pos _
    · split at h
      · rw [Option.map_eq_some_iff] at h
        obtain ⟨q, h1, rfl⟩ := h
        have := tbR_lt h1
        omega
      · cases h
abbrev balB (S : SH) : Bool := decide (absI (trimI (tmI S) (twI S)) ≤ glm S)
theorem tv_facts {K : KS'} {S : SH} {a : Int32} {M : Nat} (hS : kS K = S) (ha : fAmt a = 0) (hM : M < 2 ^ 30) (hMe : absI (tmI S) = nI M) : (balB S = true → tvN K a = 0) ∧ (balB S = false → tvN K a ≠ 0) ∧ (balB S = false → (bS S a (tmI S) C00).1 = 0 → tvN K a = NO) := by
  subst hS
  have e : tbK K a = if absI (trimI (tmI (kS K)) (twI (kS K))) ≤ glm (kS K) then some 0 else if impB (bS (kS K) a (tmI (kS K)) (kC K)) (tmI (kS K)) = true then (tbR a (twI (kS K)) (absI (tmI (kS K))).toNatClampNeg (eMov (cpT K) (bS (kS K) a (tmI (kS K)) (kC K)).2.1 (bS (kS K) a (tmI (kS K)) (kC K)).2.2.1 a) (bS (kS K) a (tmI (kS K)) (kC K)).2.2.2 (bS (kS K) a (tmI (kS K)) (kC K))).map (· + 1) else none := rfl
  refine ⟨fun h => ?_, fun h => ?_, fun h h0 => ?_⟩
  · have h := of_decide_eq_true h
    rw [if_pos h] at e
    unfold tvN fTB
    rw [e, if_pos ha, if_pos (show (some 0 : Option Nat).isSome = true from rfl), if_pos rfl]
    rfl
  · have h := of_decide_eq_false h
    rw [if_neg h] at e
    unfold tvN fTB
    rw [if_pos ha]
    by_cases h2 : (tbK K a).isSome = true
    · rw [if_pos h2, if_pos rfl]
      obtain ⟨r, hr⟩ := Option.isSome_iff_exists.mp h2
      rw [hr]
      rw [hr] at e
      split at e
      · have e := e.symm
        rw [Option.map_eq_some_iff] at e
        obtain ⟨q, h3, rfl⟩ := e
        have := tbR_lt h3
        rw [hMe, nI_clamp (by omega)] at this
        show nI (q + 1) ≠ 0
        exact nI_ne0 (Nat.succ_pos _) (by omega)
      · cases e
    · rw [if_neg h2, if_neg (by decide)]
      decide
  · have h := of_decide_eq_false h
    rw [if_neg h, if_neg (by
      unfold impB
      rw [decide_eq_true ((eqC_bS (kS K) a (tmI (kS K)) (kC K) C00).z.mpr h0), Bool.not_true, Bool.false_and]
      decide)] at e
    unfold tvN fTB
    rw [e, if_pos ha, if_neg (show ¬ (none : Option Nat).isSome = true from by decide), if_neg (by decide)]
    rfl
