/-! ===== faultOf, carryOut ===== -/
def fK (o : Nat) (S : SH) (a b c : Int32) : Nat := match o with
  | 0 => fAdd S a b | 1 => fLoad S a b | 2 => fUnl S a | 3 => fShf S a b | 4 => fRat S a b | 5 => fRat S a b | 6 => fMov S a b c | 7 => fPow a | 8 => fSch S a b | _ => fPas S a
def eK (o : Nat) (S : SH) (a b c : Int32) : SH := match o with
  | 0 => eAdd S a b | 1 => ePut S a b | 2 => eRem S a | 3 => eCar S a b | 4 => eLk S a b | 5 => eGu S a b | 6 => eMov S a b c | 7 => ePow S a | 8 => eSch S a b | _ => ePas S a
theorem WF_eAdd {S : SH} (h : WF S) {x y : Int32} (hf : gc S < 8) : WF (eAdd S x y) := ⟨hf, h.2.1, h.2.2.1, h.2.2.2.1, h.2.2.2.2.1, fun k hk => by
  obtain ⟨j, hj, e⟩ := h.2.2.2.2.2 k hk
  exact ⟨j, Nat.lt_succ_of_lt hj, e⟩⟩
theorem hsB_in {S : SH} (h : WF S) {x : Int32} (hb : hsB (gc S) x = true) : ∃ j, j < gc S ∧ x = nI j := hs_of (Nat.le_trans h.1 (by decide)) hb
theorem WF_ePut {S : SH} (h : WF S) {x y : Int32} (hb : hsB (gc S) x = true) (hp : gp S < 16) : WF (ePut S x y) := ⟨h.1, hp, h.2.2.1, h.2.2.2.1, h.2.2.2.2.1, fun k hk => by
  show ∃ j, j < gc S ∧ upd (gpl S) (gp S) x k = nI j
  by_cases e : k = gp S
  · rw [e, upd_eq]; exact hsB_in h hb
  · rw [upd_ne _ _ e]
    have hk : k < gp S + 1 := hk
    exact h.2.2.2.2.2 k (by omega)⟩
theorem WF_eRem {S : SH} (h : WF S) {x : Int32} : WF (eRem S x) := ⟨h.1, Nat.le_trans (Nat.sub_le _ _) h.2.1, h.2.2.1, h.2.2.2.1, h.2.2.2.2.1, fun k hk => by
  show ∃ j, j < gc S ∧ shl (gpl S) (pq S x) (gp S - 1) k = nI j
  have hk : k < gp S - 1 := hk
  unfold shl
  split
  · exact h.2.2.2.2.2 (k + 1) (by omega)
  · exact h.2.2.2.2.2 k (by omega)⟩
theorem WF_eCar {S : SH} (h : WF S) {x y : Int32} (hb : hsB (gc S) y = true) : WF (eCar S x y) := ⟨h.1, h.2.1, h.2.2.1, h.2.2.2.1, h.2.2.2.2.1, fun k hk => by
  show ∃ j, j < gc S ∧ upd (gpl S) (pq S x) y k = nI j
  by_cases e : k = pq S x
  · rw [e, upd_eq]; exact hsB_in h hb
  · rw [upd_ne _ _ e]
    exact h.2.2.2.2.2 k hk⟩
theorem WF_eSch {S : SH} (h : WF S) {x y : Int32} (hf : gsc S < 6) : WF (eSch S x y) := ⟨h.1, h.2.1, hf, h.2.2.2.1, h.2.2.2.2.1, h.2.2.2.2.2⟩
theorem WF_eCan {S : SH} (h : WF S) {x : Int32} : WF (eCan S x) := ⟨h.1, h.2.1, Nat.le_trans (Nat.sub_le _ _) h.2.2.1, h.2.2.2.1, h.2.2.2.2.1, h.2.2.2.2.2⟩
theorem WF_ePas {S : SH} (h : WF S) {x : Int32} : WF (ePas S x) := WF_tks _ h
theorem ten {P : Nat → Prop} (h0 : P 0) (h1 : P 1) (h2 : P 2) (h3 : P 3) (h4 : P 4) (h5 : P 5) (h6 : P 6) (h7 : P 7) (h8 : P 8) (h9 : P 9) : ∀ o, o < 10 → P o := by
  intro o ho
  have : o = 0 ∨ o = 1 ∨ o = 2 ∨ o = 3 ∨ o = 4 ∨ o = 5 ∨ o = 6 ∨ o = 7 ∨ o = 8 ∨ o = 9 := by omega
  rcases this with rfl | rfl | rfl | rfl | rfl | rfl | rfl | rfl | rfl | rfl <;> assumption
theorem WF_eK {S : SH} (h : WF S) (a b c : Int32) : ∀ o, o < 10 → fK o S a b c = 0 → WF (eK o S a b c) := by
  refine ten ?_ ?_ ?_ ?_ ?_ ?_ ?_ ?_ ?_ ?_
  · exact fun hf => WF_eAdd h ((fAdd_i S a b).2 hf)
  · exact fun hf => WF_ePut h ((fLoad_i S a b).2 hf).1 ((fLoad_i S a b).2 hf).2
  · exact fun hf => WF_eRem h
  · exact fun hf => WF_eCar h ((fShf_i S a b).2 hf).2
  · exact fun hf => h
  · exact fun hf => h
  · exact fun hf => h
  · exact fun hf => h
  · exact fun hf => WF_eSch h ((fSch_i S a b).2 hf)
  · exact fun hf => WF_ePas h
theorem fK_lt (S : SH) (a b c : Int32) : ∀ o, o < 10 → fK o S a b c < 5 :=
  ten (fAdd_i S a b).1 (fLoad_i S a b).1 (fUnl_i S a).1 (fShf_i S a b).1 (fRat_i S a b).1 (fRat_i S a b).1 (fMov_i S a b c).1 (fPow_i a) (fSch_i S a b).1 (fPas_i S a).1