/-! ===== by parts; the bounds are kept ===== -/
theorem sumI_add (f g : FI) : ∀ n, sumI (fun i => f i + g i) n = sumI f n + sumI g n
  | 0 => by show (0 : Int32) = 0 + 0; decide
  | n + 1 => by
    show sumI (fun i => f i + g i) n + (f n + g n) = sumI f n + f n + (sumI g n + g n)
    rw [sumI_add f g n]
    grind
theorem sumI_cong {f g : FI} : ∀ {n : Nat}, (∀ i, i < n → f i = g i) → sumI f n = sumI g n
  | 0, _ => rfl
  | n + 1, h => by
    show sumI f n + f n = sumI g n + g n
    rw [sumI_cong (n := n) fun i hi => h i (by omega), h n (by omega)]
theorem sumI_zero (n : Nat) : sumI (fun _ => 0) n = 0 := by
  induction n with
  | zero => rfl
  | succ n ih =>
    show sumI (fun _ => 0) n + 0 = 0
    rw [ih]; decide
/-- one summand alone -/
theorem sumI_one {f : FI} {n j : Nat} (hj : j < n) (h : ∀ i, i < n → i ≠ j → f i = 0) : sumI f n = f j := by
  have e := sumI_chg (F := fun i => if i < n then f i else 0) (G := fun _ => 0) (s := j) (fun i hi => by
    show (if i < n then f i else 0) = 0
    by_cases z : i < n
    · rw [if_pos z]; exact h i z hi
    · rw [if_neg z]) n
  rw [if_pos hj, sumI_zero] at e
  have e2 : sumI f n = sumI (fun i => if i < n then f i else 0) n := sumI_cong fun i hi => by rw [if_pos hi]
  rw [e2, e, if_pos hj]
  grind
theorem cg_sum {S : SH} (hS : WF S) (a : FI) : ∀ p, p ≤ gp S → sumI (fun i => cgI (gwt S) (gpl S) (nI i) p * a i) (gc S) = sumI (fun k => gwt S k * a (gpl S k).toNatClampNeg) p
  | 0, _ => by
    show sumI (fun i => 0 * a i) (gc S) = 0
    rw [sumI_cong (g := fun _ => 0) fun i _ => by grind]
    exact sumI_zero _
  | p + 1, hp => by
    have hc := hS.1
    obtain ⟨j, hj, ej⟩ := hS.2.2.2.2.2 p (by omega)
    have ih := cg_sum hS a p (by omega)
    have e1 : sumI (fun i => cgI (gwt S) (gpl S) (nI i) (p + 1) * a i) (gc S) = sumI (fun i => cgI (gwt S) (gpl S) (nI i) p * a i + (if i = j then gwt S p else 0) * a i) (gc S) := sumI_cong fun i hi => by
      show (if gpl S p = nI i then cgI (gwt S) (gpl S) (nI i) p + gwt S p else cgI (gwt S) (gpl S) (nI i) p) * a i = _
      by_cases z : i = j
      · subst z
        rw [if_pos ej, if_pos rfl]; grind
      · rw [if_neg (by rw [ej]; exact fun w => z ((nI_eq (by omega) (by omega)).mp w).symm), if_neg z]; grind
    rw [e1, sumI_add, ih]
    have e2 : sumI (fun i => (if i = j then gwt S p else 0) * a i) (gc S) = gwt S p * a j := by
      rw [sumI_one hj fun i _ hi => by
        show (if i = j then gwt S p else 0) * a i = 0
        rw [if_neg hi]; grind]
      show (if j = j then gwt S p else 0) * a j = _
      rw [if_pos rfl]
    rw [e2]
    show _ = sumI (fun k => gwt S k * a (gpl S k).toNatClampNeg) p + gwt S p * a (gpl S p).toNatClampNeg
    rw [ej, nI_clamp (by omega)]
theorem sumX_eq (x : Int32) (f : FI) : ∀ n, sumX x f n = x + sumI f n
  | 0 => by show x = x + 0; grind
  | n + 1 => by
    show sumX x f n + f n = x + (sumI f n + f n)
    rw [sumX_eq x f n]
    grind
theorem tw_parts {S : SH} (hS : WF S) : twI S = sumI (gw S) (gc S) + sumI (gwt S) (gp S) := by
  have e := cg_sum hS (fun _ => 1) (gp S) (Nat.le_refl _)
  have e1 : sumI (fun i => cgI (gwt S) (gpl S) (nI i) (gp S) * 1) (gc S) = sumI (fun i => cgI (gwt S) (gpl S) (nI i) (gp S)) (gc S) := sumI_cong fun i _ => by grind
  have e2 : sumI (fun k => gwt S k * 1) (gp S) = sumI (gwt S) (gp S) := sumI_cong fun i _ => by grind
  rw [e1, e2] at e
  show sumI (fun i => gw S i + cgI (gwt S) (gpl S) (nI i) (gp S)) (gc S) = _
  rw [sumI_add, e]
theorem tm_parts {S : SH} (hS : WF S) : tmI S = mpI S := by
  have e := cg_sum hS (gar S) (gp S) (Nat.le_refl _)
  unfold mpI
  rw [sumX_eq, ← e]
  show sumI (fun i => (gw S i + cgI (gwt S) (gpl S) (nI i) (gp S)) * gar S i) (gc S) = _
  rw [← sumI_add]
  exact sumI_cong fun i _ => by grind
theorem ov_no {cp w : FI} : ∀ {n : Nat}, (∀ i, i < n → w i ≤ cp i) → ovB cp w n = false
  | 0, _ => rfl
  | n + 1, h => by
    unfold ovB
    rw [ov_no (n := n) fun i hi => h i (by omega), decide_eq_false (Int32.not_lt.mpr (h n (by omega)))]; rfl
theorem cs_true {S : SH} (hS : WF S) (hV : VB S) : csB S = true := by
  unfold csB
  rw [decide_eq_true (tw_parts hS), decide_eq_true (tm_parts hS), ov_no fun i hi => (hV.1 i hi).2.2.2.1]; rfl
