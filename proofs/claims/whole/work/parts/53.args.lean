/-! ===== Program: arguments, keyword, parse ===== -/
theorem dcIst {ini : Bool} {o : Nat} {cc : ByteArray} {l : List IE} (h : okL ini o cc l = true) {pc : Nat} (hd : dec_of l pc = some .iastore) : decode cc pc = .ok (.iastore, 1) := by
  obtain ⟨e, rfl, e2, h1, -⟩ := okL_dec h hd
  obtain ⟨len, h3, h4⟩ := okD_spec h1
  rw [e2] at h3 h4
  rw [h3, beq_iff_eq.mp h4]; rfl
def updR (rw : Nat → FI) (r : Nat) (f : FI) : Nat → FI := fun j => if j = r then f else rw j
theorem row_get (I : SBB) (p : PS) {r : Nat} (hr : r < 8) : hget (pgW I p) (4 + r) 0 = some (aI 3 (p.2.2.2.2 r)) := by
  have : r = 0 ∨ r = 1 ∨ r = 2 ∨ r = 3 ∨ r = 4 ∨ r = 5 ∨ r = 6 ∨ r = 7 := by omega
  rcases this with rfl | rfl | rfl | rfl | rfl | rfl | rfl | rfl <;> rfl
theorem row_set (I : SBB) (p : PS) {r : Nat} (hr : r < 8) (f : FI) : hset (pgW I p) (4 + r) 0 (aI 3 f) = pgW I (p.1, p.2.1, p.2.2.1, p.2.2.2.1, updR p.2.2.2.2 r f) := by
  have : r = 0 ∨ r = 1 ∨ r = 2 ∨ r = 3 ∨ r = 4 ∨ r = 5 ∨ r = 6 ∨ r = 7 := by omega
  rcases this with rfl | rfl | rfl | rfl | rfl | rfl | rfl | rfl <;> rfl
/-- arguments from the i-th sign of the shape on: well formed, the place, the value, the row -/
def raF (I : SBB) (j : Nat) : Nat → Nat → Nat → Int32 → FI → Bool × Nat × Int32 × FI
  | 0, _, q, v, f => (true, q, v, f)
  | m + 1, i, q, v, f => if sxC j i = 32 then (if atB I q 32 = true then raF I j m (i + 1) (q + 1) v f else (false, q, v, f))
    else if 0 < rvD I q (sxC j i) then raF I j m (i + 1) (rvQ I q (sxC j i) + rvD I q (sxC j i)) (rvV I q (sxC j i)) (upd f ((i + 1) / 2) (rvV I q (sxC j i)))
    else (false, rvQ I q (sxC j i) + rvD I q (sxC j i), rvV I q (sxC j i), f)
abbrev raR (I : SBB) (j q : Nat) (v : Int32) (f : FI) : Bool × Nat × Int32 × FI := raF I j (sxB j).length 0 q v f
theorem shp_odd : ∀ j, j < 16 → 10 ≤ j → ∀ i, i < (sxB j).length → (sxC j i = 32 ↔ i % 2 = 1) := by decide
theorem shp_len : ∀ j, j < 16 → 10 ≤ j → (sxB j).length ≤ 5 := by decide
theorem updR_same (rw : Nat → FI) (r : Nat) : updR rw r (rw r) = rw := by
  funext j
  unfold updR
  split
  · rename_i h; rw [h]
  · rfl
theorem rvD_le (I : SBB) (q c : Nat) : rvD I q c ≤ 3 := Nat.le_trans (fst_le _ _) (rvM_in c).2
theorem s_p_readArguments (I : SBB) (hI : I.1 ≤ 1000) (c0 : Int32) (q : Nat) (v : Int32) (kw : Nat → Nat) (rw : Nat → FI) (j r : Nat) (hj1 : 10 ≤ j) (hj2 : j < 16) (hr : r < 8) (hq : q ≤ 1900) : Sp 7 0 0 mX7_readArguments [vR 1 0, vK (15 + j), vR (4 + r) 0] (pgW I (pst c0 q v kw rw)) (PoI (b2 (raR I j q v (rw r)).1) (pgW I (pst c0 (raR I j q v (rw r)).2.1 (raR I j q v (rw r)).2.2.1 kw (updR rw r (raR I j q v (rw r)).2.2.2)))) := by
  refine Sp.of' false (fun h => by cases h) (by decide) rfl rfl (Nat.le_of_ble_eq_true rfl) fun γ σ B => ?_
  have hj : j < 19 := by omega
  have hl := shp_len j hj2 hj1
  generalize hR : raR I j q v (rw r) = R
  have loop : ∀ (m i q1 : Nat) (v1 : Int32) (f1 : FI), i + m = (sxB j).length → q1 ≤ 1900 + 5 * i → raF I j m i q1 v1 f1 = R → At γ σ 0 0 5 [(0, vR 1 0), (1, vK (15 + j)), (2, vR (4 + r) 0), (3, vI (nI ((i + 1) / 2))), (4, vI (nI i))] [] (pgW I (pst c0 q1 v1 kw (updR rw r f1))) := by
    intro m
    induction m with
    | zero =>
      intro i q1 v1 f1 hi hq1 he
      have hi : i = (sxB j).length := by omega
      have he : (true, q1, v1, f1) = R := he
      refine B.run okX7_readArguments [(5, [0, 1, 2, 3, 4]), (67, [0, 1, 2, 3, 4]), (40, [0, 1, 2, 3, 4, 5]), (51, [0, 1, 2, 3, 4]), (63, [0, 1, 2, 3, 4])] 60 ?_
      refine At.qK [] [] [vI (nI i)] B.1 (x := vK (15 + j)) (q := cκ γ (15 + j)) (fun _ => rfl) ((sx_str B.1 hj).1) (s_strN j hj) kJ0_length_8abf5 ln_X7_70 trivial (B.fit (by decide) (by decide) (by decide)) (dcV okX7_readArguments rfl) ?_
      refine B.run okX7_readArguments [(5, [0, 1, 2, 3, 4]), (67, [0, 1, 2, 3, 4]), (40, [0, 1, 2, 3, 4, 5]), (51, [0, 1, 2, 3, 4]), (63, [0, 1, 2, 3, 4])] 60 ?_
      constructor
      · intro _
        refine ⟨Or.inr rfl, rI (by rw [hR, ← he]; rfl) (by rw [hR, ← he]; rfl)⟩
      · intro h
        exact absurd (nI_le (a := (sxB j).length) (b := i) (by omega) (by omega)) h
    | succ m ih =>
      intro i q1 v1 f1 hi hq1 he
      have hil : i < (sxB j).length := by omega
      have hc := sxC_lt j hj i (by omega)
      have hodd := shp_odd j hj2 hj1 i hil
      refine B.run okX7_readArguments [(5, [0, 1, 2, 3, 4]), (67, [0, 1, 2, 3, 4]), (40, [0, 1, 2, 3, 4, 5]), (51, [0, 1, 2, 3, 4]), (63, [0, 1, 2, 3, 4])] 60 ?_
      refine At.qK [] [] [vI (nI i)] B.1 (x := vK (15 + j)) (q := cκ γ (15 + j)) (fun _ => rfl) ((sx_str B.1 hj).1) (s_strN j hj) kJ0_length_8abf5 ln_X7_70 trivial (B.fit (by decide) (by decide) (by decide)) (dcV okX7_readArguments rfl) ?_
      refine B.run okX7_readArguments [(5, [0, 1, 2, 3, 4]), (67, [0, 1, 2, 3, 4]), (40, [0, 1, 2, 3, 4, 5]), (51, [0, 1, 2, 3, 4]), (63, [0, 1, 2, 3, 4])] 60 ?_
      constructor
      · intro h
        exact absurd h (nI_ge (a := i) (b := (sxB j).length) (by omega) (by omega))
      · intro _
        refine B.run okX7_readArguments [(5, [0, 1, 2, 3, 4]), (67, [0, 1, 2, 3, 4]), (40, [0, 1, 2, 3, 4, 5]), (51, [0, 1, 2, 3, 4]), (63, [0, 1, 2, 3, 4])] 60 ?_
        refine At.qK [] [vI (nI i)] [] B.1 (x := vK (15 + j)) (q := cκ γ (15 + j)) (fun _ => rfl) ((sx_str B.1 hj).1) (s_strC j i hj hil) kJ0_charAt_5068e ln_X7_79 trivial (B.fit (by decide) (by decide) (by decide)) (dcV okX7_readArguments rfl) ?_
        refine B.run okX7_readArguments [(5, [0, 1, 2, 3, 4]), (67, [0, 1, 2, 3, 4]), (40, [0, 1, 2, 3, 4, 5]), (51, [0, 1, 2, 3, 4]), (63, [0, 1, 2, 3, 4])] 60 ?_
        have next : ∀ (q2 : Nat) (v2 : Int32) (f2 : FI) (g : Nat), g = (i + 1 + 1) / 2 → q2 ≤ 1900 + 5 * (i + 1) → raF I j m (i + 1) q2 v2 f2 = R → At γ σ 0 0 67 [(0, vR 1 0), (1, vK (15 + j)), (2, vR (4 + r) 0), (3, vI (nI g)), (4, vI (nI i))] [] (pgW I (pst c0 q2 v2 kw (updR rw r f2))) := by
          intro q2 v2 f2 g eg h2 h3
          have z := ih (i + 1) q2 v2 f2 (by omega) h2 h3
          rw [← nI_1, ← eg] at z
          refine B.run okX7_readArguments [(5, [0, 1, 2, 3, 4]), (67, [0, 1, 2, 3, 4]), (40, [0, 1, 2, 3, 4, 5]), (51, [0, 1, 2, 3, 4]), (63, [0, 1, 2, 3, 4])] 60 ?_
          exact z
        constructor
        · intro h
          have h : sxC j i = 32 := (nI_eq (b := 32) (by omega) (by decide)).mp h
          have hod := hodd.mp h
          refine B.run okX7_readArguments [(5, [0, 1, 2, 3, 4]), (67, [0, 1, 2, 3, 4]), (40, [0, 1, 2, 3, 4, 5]), (51, [0, 1, 2, 3, 4]), (63, [0, 1, 2, 3, 4])] 60 ?_
          refine At.iQ [vI (nI 32)] [] B.1 (s_p_take I hI c0 q1 v1 kw (updR rw r f1) 32 (by omega) (by decide)) kX7_take ln_X7_56 (B.fit (by decide) (by decide) (by decide)) (dcV okX7_readArguments rfl) ?_
          refine B.run okX7_readArguments [(5, [0, 1, 2, 3, 4]), (67, [0, 1, 2, 3, 4]), (40, [0, 1, 2, 3, 4, 5]), (51, [0, 1, 2, 3, 4]), (63, [0, 1, 2, 3, 4])] 60 ?_
          constructor
          · intro h2
            have h2 := b2_eq0.mp h2
            have e : tkQ I q1 32 = q1 := by unfold tkQ; rw [h2]; rfl
            have he : (false, q1, v1, f1) = R := by
              rw [← he]; unfold raF; rw [if_pos h, h2]; rfl
            exact ⟨Or.inl rfl, rI (by rw [hR, ← he]; rfl) (by rw [hR, ← he, e])⟩
          · intro h2
            have h2 := b2_ne0.mp h2
            have e : tkQ I q1 32 = q1 + 1 := by unfold tkQ; rw [if_pos h2]
            have he : raF I j m (i + 1) (q1 + 1) v1 f1 = R := by
              rw [← he]
              show _ = (if sxC j i = 32 then (if atB I q1 32 = true then raF I j m (i + 1) (q1 + 1) v1 f1 else (false, q1, v1, f1)) else _)
              rw [if_pos h, if_pos h2]
            have z := next (q1 + 1) v1 f1 ((i + 1) / 2) (by omega) (by omega) he
            rw [← e] at z
            exact z
        · intro h
          have h : ¬ sxC j i = 32 := fun z => h (by rw [z]; rfl)
          have hod : ¬ i % 2 = 1 := fun z => h (hodd.mpr z)
          have hd3 := rvD_le I q1 (sxC j i)
          have hq3 := (rvQ_in I q1 (sxC j i)).2
          refine B.run okX7_readArguments [(5, [0, 1, 2, 3, 4]), (67, [0, 1, 2, 3, 4]), (40, [0, 1, 2, 3, 4, 5]), (51, [0, 1, 2, 3, 4]), (63, [0, 1, 2, 3, 4])] 60 ?_
          refine At.iQ [vI (nI (sxC j i))] [] B.1 (s_p_readValue I hI c0 q1 v1 kw (updR rw r f1) (sxC j i) (by omega) (by omega)) kX7_readValue ln_X7_87 (B.fit (by decide) (by decide) (by decide)) (dcV okX7_readArguments rfl) ?_
          refine B.run okX7_readArguments [(5, [0, 1, 2, 3, 4]), (67, [0, 1, 2, 3, 4]), (40, [0, 1, 2, 3, 4, 5]), (51, [0, 1, 2, 3, 4]), (63, [0, 1, 2, 3, 4])] 60 ?_
          constructor
          · intro h2
            have h2 := of_decide_eq_false (b2_eq0.mp h2)
            have he : (false, rvQ I q1 (sxC j i) + rvD I q1 (sxC j i), rvV I q1 (sxC j i), f1) = R := by
              rw [← he]
              show _ = (if sxC j i = 32 then _ else if 0 < rvD I q1 (sxC j i) then _ else _)
              rw [if_neg h, if_neg h2]
            refine ⟨Or.inl rfl, rI (by rw [hR, ← he]; rfl) (by rw [hR, ← he])⟩
          · intro h2
            have h2 := of_decide_eq_true (b2_ne0.mp h2)
            have he : raF I j m (i + 1) (rvQ I q1 (sxC j i) + rvD I q1 (sxC j i)) (rvV I q1 (sxC j i)) (upd f1 ((i + 1) / 2) (rvV I q1 (sxC j i))) = R := by
              rw [← he]
              show _ = (if sxC j i = 32 then _ else if 0 < rvD I q1 (sxC j i) then raF I j m (i + 1) (rvQ I q1 (sxC j i) + rvD I q1 (sxC j i)) (rvV I q1 (sxC j i)) (upd f1 ((i + 1) / 2) (rvV I q1 (sxC j i))) else _)
              rw [if_neg h, if_pos h2]
            have hf3 : (i + 1) / 2 < 3 := by omega
            generalize hQ : rvQ I q1 (sxC j i) + rvD I q1 (sxC j i) = Q at *
            generalize hV : rvV I q1 (sxC j i) = V at *
            refine At.alen B.1 (dc1L okX7_readArguments rfl (by simp [L1])) (row_get I (pst c0 Q V kw (updR rw r f1)) hr) ?_
            refine B.run okX7_readArguments [(5, [0, 1, 2, 3, 4]), (67, [0, 1, 2, 3, 4]), (40, [0, 1, 2, 3, 4, 5]), (51, [0, 1, 2, 3, 4]), (63, [0, 1, 2, 3, 4])] 60 ?_
            constructor
            · intro _
              have e1 : updR rw r f1 r = f1 := if_pos rfl
              refine At.iast B.1 (dcIst okX7_readArguments rfl) (row_get I (pst c0 Q V kw (updR rw r f1)) hr) (vp_in_nI hf3 (by decide)) ?_
              rw [row_set I _ hr, nI_clamp (by omega)]
              have e2 : updR (updR rw r f1) r (upd (updR rw r f1 r) ((i + 1) / 2) V) = updR rw r (upd f1 ((i + 1) / 2) V) := by
                funext y
                unfold updR
                split
                · rw [if_pos rfl]
                · rfl
              show At γ σ 0 0 64 [(0, vR 1 0), (1, vK (15 + j)), (2, vR (4 + r) 0), (3, vI (nI ((i + 1) / 2))), (4, vI (nI i))] [] (pgW I (pst c0 Q V kw (updR (updR rw r f1) r (upd (updR rw r f1 r) ((i + 1) / 2) V))))
              rw [e2]
              have z := next Q V (upd f1 ((i + 1) / 2) V) ((i + 1) / 2 + 1) (by omega) (by omega) he
              rw [← nI_1] at z
              refine B.run okX7_readArguments [(5, [0, 1, 2, 3, 4]), (67, [0, 1, 2, 3, 4]), (40, [0, 1, 2, 3, 4, 5]), (51, [0, 1, 2, 3, 4]), (63, [0, 1, 2, 3, 4])] 60 ?_
              exact z
            · intro h9
              exact absurd (nI_lt (a := (i + 1) / 2) (b := 3) hf3 (by decide)) h9
  refine B.run okX7_readArguments [(5, [0, 1, 2, 3, 4]), (67, [0, 1, 2, 3, 4]), (40, [0, 1, 2, 3, 4, 5]), (51, [0, 1, 2, 3, 4]), (63, [0, 1, 2, 3, 4])] 60 ?_
  have z := loop (sxB j).length 0 q v (rw r) (by omega) (by omega) hR
  rw [updR_same] at z
  exact z
