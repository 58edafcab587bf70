/-! ===== the model: transfers to balance ===== -/
def CIv (S : SH) (a bf : Int32) (C : CS) : Prop := C.1 = 0 ∨ ∃ s t, s < gc S ∧ t < gc S ∧ C.2.1 = nI s ∧ C.2.2.1 = nI t ∧ C.2.2.2 = bf + a * (gar S t - gar S s) ∧ mvI (gcp S) (gw S) (nI s) (nI t) a = true
theorem CIv_in {S : SH} {a bf : Int32} {s : Nat} (hs : s < gc S) {C : CS} (h : CIv S a bf C) : ∀ t, t ≤ gc S → CIv S a bf (tIn (gcp S) (gw S) (gar S) a bf s C t)
  | 0, _ => h
  | t + 1, ht => by
    unfold tIn
    split
    · rename_i q
      unfold offS
      split
      · exact Or.inr ⟨s, t, hs, by omega, rfl, rfl, rfl, q⟩
      · exact CIv_in hs h t (by omega)
    · exact CIv_in hs h t (by omega)
theorem CIv_out {S : SH} {a bf : Int32} {C : CS} (h : CIv S a bf C) : ∀ s, s ≤ gc S → CIv S a bf (tOut (gcp S) (gw S) (gar S) a bf (gc S) C s)
  | 0, _ => h
  | s + 1, hs => by
    unfold tOut
    exact CIv_in (by omega) (CIv_out h s (by omega)) _ (Nat.le_refl _)
theorem CIv_bst (S : SH) (a bf : Int32) (C : CS) : CIv S a bf (bS S a bf C) := CIv_out (Or.inl rfl) _ (Nat.le_refl _)
abbrev tbM (T : SH) (a : Int32) (C : CS) : Option Nat := tbR a (twI T) ((absI (tmI T)).toNatClampNeg + 1) T (tmI T) C
def thB (T : SH) (a : Int32) (C : CS) : Nat := if wiB a 1 200 = true then (if (tbM T a C).isSome = true then 0 else 2) else 1
section NTB2
end NTB2
