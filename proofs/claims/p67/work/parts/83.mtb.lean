/-! ===== the model: means, transfers to balance ===== -/
section DC
variable {γ : CX} {own : String} {cc : ByteArray} {σ : Nat → Nat → Nat} {k n pc : Nat} {ls : List (Nat × AV)} {st : List AV} {h : AHp}
theorem At.dconst0 (O : OK γ own cc) (d : decode cc pc = .ok (.dconst 0, 1)) (g : At γ σ k n (pc + 1) ls (vD FP.dconst0 :: st) h) : At γ σ k n pc ls st h := fun η H locs lsA a b c => lv_dconst0 O.1 O.2.1 d (g η H locs lsA a b c)
theorem At.fconst0 (O : OK γ own cc) (d : decode cc pc = .ok (.fconst 0, 1)) (g : At γ σ k n (pc + 1) ls (vF FP.fconst0 :: st) h) : At γ σ k n pc ls st h := fun η H locs lsA a b c => lv_fconst0 O.1 O.2.1 d (g η H locs lsA a b c)
end DC
theorem tw_w (S : SH) (s : Nat) (v : Int32) (hs : s < gc S) : twI (stW S (upd (gw S) s v)) = twI S + (v - gw S s) := by
  have e := sumI_chg (F := fun i => ldI (stW S (upd (gw S) s v)) i) (G := fun i => ldI S i) (s := s) (fun i hi => by
    show upd (gw S) s v i + cgI (gwt S) (gpl S) (nI i) (gp S) = gw S i + cgI (gwt S) (gpl S) (nI i) (gp S)
    rw [upd_ne _ _ hi]) (gc S)
  rw [if_pos hs] at e
  have e2 : ldI (stW S (upd (gw S) s v)) s = v + cgI (gwt S) (gpl S) (nI s) (gp S) := by
    show upd (gw S) s v s + cgI (gwt S) (gpl S) (nI s) (gp S) = _
    rw [upd_eq]
  have e3 : ldI S s = gw S s + cgI (gwt S) (gpl S) (nI s) (gp S) := rfl
  show sumI (fun i => ldI (stW S (upd (gw S) s v)) i) (gc S) = sumI (fun i => ldI S i) (gc S) + _
  rw [e]
  simp only [e2, e3]
  grind
theorem tw_mov (S : SH) (s t : Nat) (a : Int32) (hs : s < gc S) (ht : t < gc S) : twI (eMovN S s t a) = twI S := by
  have e1 := tw_w S s (gw S s - a) hs
  have e2 : twI (stW (stW S (upd (gw S) s (gw S s - a))) (upd (upd (gw S) s (gw S s - a)) t (upd (gw S) s (gw S s - a) t + a))) = twI (stW S (upd (gw S) s (gw S s - a))) + (upd (gw S) s (gw S s - a) t + a - upd (gw S) s (gw S s - a) t) := tw_w (stW S (upd (gw S) s (gw S s - a))) t _ ht
  have e3 : eMovN S s t a = stW (stW S (upd (gw S) s (gw S s - a))) (upd (upd (gw S) s (gw S s - a)) t (upd (gw S) s (gw S s - a) t + a)) := rfl
  rw [e3, e2, e1]
  grind
section NTB
end NTB
