/-! ===== Program: parse ===== -/
theorem pgW_len (I : SBB) (p : PS) : (pgW I p).length = 12 := rfl
theorem pgW_bd (I : SBB) (p p2 : PS) : bdH (pgW I p2).length (pgW I p) = true := rfl
def updK (kw : Nat → Nat) (i k : Nat) : Nat → Nat := fun j => if j = i then k else kw j
theorem kws_set (I : SBB) (p : PS) {i : Nat} (hi : i < 8) (k : Nat) : hset (pgW I p) 2 0 (aA (.object RX6) 8 (hput [vK (5 + p.2.2.2.1 0), vK (5 + p.2.2.2.1 1), vK (5 + p.2.2.2.1 2), vK (5 + p.2.2.2.1 3), vK (5 + p.2.2.2.1 4), vK (5 + p.2.2.2.1 5), vK (5 + p.2.2.2.1 6), vK (5 + p.2.2.2.1 7)] i (vK (5 + k)))) = pgW I (p.1, p.2.1, p.2.2.1, updK p.2.2.2.1 i k, p.2.2.2.2) := by
  have : i = 0 ∨ i = 1 ∨ i = 2 ∨ i = 3 ∨ i = 4 ∨ i = 5 ∨ i = 6 ∨ i = 7 := by omega
  rcases this with rfl | rfl | rfl | rfl | rfl | rfl | rfl | rfl <;> rfl
theorem arg_nth {i : Nat} (hi : i < 8) : (hnth [vR 4 0, vR 5 0, vR 6 0, vR 7 0, vR 8 0, vR 9 0, vR 10 0, vR 11 0] i).getD vN = vR (4 + i) 0 := by
  have : i = 0 ∨ i = 1 ∨ i = 2 ∨ i = 3 ∨ i = 4 ∨ i = 5 ∨ i = 6 ∨ i = 7 := by omega
  rcases this with rfl | rfl | rfl | rfl | rfl | rfl | rfl | rfl <;> rfl
theorem raF_le (I : SBB) (j : Nat) : ∀ (m i q : Nat) (v : Int32) (f : FI), (raF I j m i q v f).2.1 ≤ q + 5 * m
  | 0, _, _, _, _ => Nat.le_refl _
  | m + 1, i, q, v, f => by
    have hd3 := rvD_le I q (sxC j i)
    have hq3 := (rvQ_in I q (sxC j i)).2
    unfold raF
    split
    · split
      · have := raF_le I j m (i + 1) (q + 1) v f; omega
      · show q ≤ _; omega
    · split
      · have := raF_le I j m (i + 1) (rvQ I q (sxC j i) + rvD I q (sxC j i)) (rvV I q (sxC j i)) (upd f ((i + 1) / 2) (rvV I q (sxC j i))); omega
      · show rvQ I q (sxC j i) + rvD I q (sxC j i) ≤ _; omega
/-- commands from the i-th on -/
def prF (I : SBB) : Nat → Nat → Nat → Int32 → (Nat → Nat) → (Nat → FI) → Bool × PS
  | 0, i, q, v, kw, rw => (false, pst (nI i) q v kw rw)
  | m + 1, i, q, v, kw, rw =>
    if rkI I q < 10 then
      if (raR I (shp (rkI I q)) (rkQ I q) v (rw i)).1 = true then
        if (raR I (shp (rkI I q)) (rkQ I q) v (rw i)).2.1 = I.1 then (true, pst (nI (i + 1)) (raR I (shp (rkI I q)) (rkQ I q) v (rw i)).2.1 (raR I (shp (rkI I q)) (rkQ I q) v (rw i)).2.2.1 (updK kw i (rkI I q)) (updR rw i (raR I (shp (rkI I q)) (rkQ I q) v (rw i)).2.2.2))
        else if atB I (raR I (shp (rkI I q)) (rkQ I q) v (rw i)).2.1 59 = true then prF I m (i + 1) ((raR I (shp (rkI I q)) (rkQ I q) v (rw i)).2.1 + 1) (raR I (shp (rkI I q)) (rkQ I q) v (rw i)).2.2.1 (updK kw i (rkI I q)) (updR rw i (raR I (shp (rkI I q)) (rkQ I q) v (rw i)).2.2.2)
        else (false, pst (nI (i + 1)) (raR I (shp (rkI I q)) (rkQ I q) v (rw i)).2.1 (raR I (shp (rkI I q)) (rkQ I q) v (rw i)).2.2.1 (updK kw i (rkI I q)) (updR rw i (raR I (shp (rkI I q)) (rkQ I q) v (rw i)).2.2.2))
      else (false, pst (nI i) (raR I (shp (rkI I q)) (rkQ I q) v (rw i)).2.1 (raR I (shp (rkI I q)) (rkQ I q) v (rw i)).2.2.1 kw (updR rw i (raR I (shp (rkI I q)) (rkQ I q) v (rw i)).2.2.2))
    else (false, pst (nI i) (rkQ I q) v kw rw)
abbrev prR (I : SBB) (p : PS) : Bool × PS := prF I 8 0 0 p.2.2.1 p.2.2.2.1 p.2.2.2.2
theorem shp_in : ∀ k, k < 10 → 10 ≤ shp k ∧ shp k < 16 := by decide
theorem s_p_parse (I : SBB) (hI : I.1 ≤ 1000) (p : PS) : Sp 8 0 0 mX7_parse [vR 1 0] (pgW I p) (PoI (b2 (prR I p).1) (pgW I (prR I p).2)) := by
  refine Sp.of' false (fun h => by cases h) (by decide) rfl rfl (Nat.le_of_ble_eq_true rfl) fun γ σ B => ?_
  obtain ⟨cc0, qq0, v0, kw0, rw0⟩ := p
  generalize hR : prR I (cc0, qq0, v0, kw0, rw0) = R
  have bad : ∀ (P : PS), (false, P) = R → ∀ pc ls, pc = 44 ∨ pc = 85 ∨ pc = 93 → At γ σ 0 0 pc ls [] (pgW I P) := by
    intro P he pc ls hpc
    rcases hpc with rfl | rfl | rfl
    · refine B.run okX7_parse [] 60 ?_
      exact ⟨Or.inl rfl, rI (by rw [hR, ← he]; rfl) (by rw [hR, ← he])⟩
    · refine B.run okX7_parse [] 60 ?_
      exact ⟨Or.inl rfl, rI (by rw [hR, ← he]; rfl) (by rw [hR, ← he])⟩
    · refine B.run okX7_parse [] 60 ?_
      exact ⟨Or.inl rfl, rI (by rw [hR, ← he]; rfl) (by rw [hR, ← he])⟩
  have loop : ∀ (m i q : Nat) (v : Int32) (kw : Nat → Nat) (rw : Nat → FI), i + m = 8 → q ≤ 40 * i → prF I m i q v kw rw = R → At γ σ 0 0 12 [(0, vR 1 0), (1, vI (nI i))] [] (pgW I (pst (nI i) q v kw rw)) := by
    intro m
    induction m with
    | zero =>
      intro i q v kw rw hi hq he
      have hi : i = 8 := by omega
      subst hi
      refine B.run okX7_parse [(12, [0, 1]), (44, []), (46, [0, 1, 2]), (76, [0, 1]), (87, [0, 1]), (52, [0, 1, 2]), (23, [0, 1, 2]), (24, [0, 1, 2]), (29, [0, 1, 2]), (38, [0, 1, 2])] 60 ?_
      constructor
      · intro _
        exact ⟨Or.inl rfl, rI (by rw [hR, ← he]; rfl) (by rw [hR, ← he]; rfl)⟩
      · intro h
        exact absurd (nI_le (a := 8) (b := 8) (by omega) (by omega)) h
    | succ m ih =>
      intro i q v kw rw hi hq he
      have hi8 : i < 8 := by omega
      have hkq := rkQ_le I q
      refine B.run okX7_parse [(12, [0, 1]), (44, []), (46, [0, 1, 2]), (76, [0, 1]), (87, [0, 1]), (52, [0, 1, 2]), (23, [0, 1, 2]), (24, [0, 1, 2]), (29, [0, 1, 2]), (38, [0, 1, 2])] 60 ?_
      constructor
      · intro h
        exact absurd h (nI_ge (a := i) (b := 8) (by omega) (by omega))
      · intro _
        have con1 := s_p_readKeyword I hI (nI i) q v kw rw (by omega)
        unfold prF at he
        generalize hkk : rkI I q = kk at con1 he
        generalize hQ : rkQ I q = Q at con1 he hkq
        refine B.run okX7_parse [(12, [0, 1]), (44, []), (46, [0, 1, 2]), (76, [0, 1]), (87, [0, 1]), (52, [0, 1, 2]), (23, [0, 1, 2]), (24, [0, 1, 2]), (29, [0, 1, 2]), (38, [0, 1, 2])] 60 ?_
        refine At.iQ [] [] B.1 con1 kX7_readKeyword ln_X7_40 (B.fit (by decide) (by decide) (by decide)) (dcV okX7_parse rfl) ?_ (hb2 := pgW_bd _ _ _) (hl := (pgW_len _ _).trans (pgW_len _ _).symm) (hv := by show (rkV kk :: []).all _ = true; unfold rkV; split <;> rfl)
        by_cases hk : kk < 10
        · rw [if_pos hk] at he
          have ek : rkV kk = vK (5 + kk) := if_pos hk
          have hsh := shp_in kk hk
          have hj : shp kk < 19 := by omega
          have hlen := shp_len (shp kk) hsh.2 hsh.1
          have hle : (raR I (shp kk) Q v (rw i)).2.1 ≤ Q + 5 * (sxB (shp kk)).length := raF_le I (shp kk) (sxB (shp kk)).length 0 Q v (rw i)
          have con := s_p_readArguments I hI (nI i) Q v kw rw (shp kk) i hsh.1 hsh.2 hi8 (by omega)
          generalize hA : raR I (shp kk) Q v (rw i) = A at he hle con
          obtain ⟨ok, q2, v2, f2⟩ := A
          have hq2 : q2 ≤ Q + 5 * (sxB (shp kk)).length := hle
          show At γ σ 0 0 22 [(0, vR 1 0), (1, vI (nI i))] [rkV kk] (pgW I (pst (nI i) Q v kw rw))
          rw [ek]
          refine B.run okX7_parse [(12, [0, 1]), (44, []), (46, [0, 1, 2]), (76, [0, 1]), (87, [0, 1]), (52, [0, 1, 2]), (23, [0, 1, 2]), (24, [0, 1, 2]), (29, [0, 1, 2]), (38, [0, 1, 2])] 60 ?_
          refine B.run okX7_parse [(12, [0, 1]), (44, []), (46, [0, 1, 2]), (76, [0, 1]), (87, [0, 1]), (52, [0, 1, 2]), (23, [0, 1, 2]), (24, [0, 1, 2]), (29, [0, 1, 2]), (38, [0, 1, 2])] 60 ?_
          refine At.ifnullR B.1 (v := vK (5 + kk)) rfl (dcNul okX7_parse rfl) ?_
          refine B.run okX7_parse [(12, [0, 1]), (44, []), (46, [0, 1, 2]), (76, [0, 1]), (87, [0, 1]), (52, [0, 1, 2]), (23, [0, 1, 2]), (24, [0, 1, 2]), (29, [0, 1, 2]), (38, [0, 1, 2])] 60 ?_
          refine At.getOFN B.1 (x := vK (5 + kk)) (v := vK (15 + shp kk)) ((sx B.1).1.2.2.1 kk hk) rfl rfl ((sx B.1).2.2.1 _ (List.mem_of_getElem? (l := nfL) (i := 2) rfl)) (dcGf okX7_parse rfl) ?_
          refine B.run okX7_parse [(12, [0, 1]), (44, []), (46, [0, 1, 2]), (76, [0, 1]), (87, [0, 1]), (52, [0, 1, 2]), (23, [0, 1, 2]), (24, [0, 1, 2]), (29, [0, 1, 2]), (38, [0, 1, 2])] 60 ?_
          refine ⟨vp_in_nI hi8 (by decide), ?_⟩
          show At γ σ 0 0 38 [(0, vR 1 0), (1, vI (nI i)), (2, vK (5 + kk))] [(hnth [vR 4 0, vR 5 0, vR 6 0, vR 7 0, vR 8 0, vR 9 0, vR 10 0, vR 11 0] (nI i).toNatClampNeg).getD vN, vK (15 + shp kk), vR 1 0] (pgW I (pst (nI i) Q v kw rw))
          rw [nI_clamp (by omega), arg_nth hi8]
          refine At.iQ [vK (15 + shp kk), vR (4 + i) 0] [] B.1 con kX7_readArguments ln_X7_48 (B.fit (by decide) (by decide) (by decide)) (dcV okX7_parse rfl) ?_ (hb2 := pgW_bd _ _ _) (hl := (pgW_len _ _).trans (pgW_len _ _).symm) (ha := by
            show (true && (true && (Nat.blt (4 + i) 12 && true))) = true
            rw [show Nat.blt (4 + i) 12 = true from Nat.ble_eq.mpr (by omega)]; rfl)
          refine B.run okX7_parse [(12, [0, 1]), (44, []), (46, [0, 1, 2]), (76, [0, 1]), (87, [0, 1]), (52, [0, 1, 2]), (23, [0, 1, 2]), (24, [0, 1, 2]), (29, [0, 1, 2]), (38, [0, 1, 2])] 60 ?_
          constructor
          · intro h
            have h : ok = false := b2_eq0.mp h
            subst h
            exact bad _ (by rw [← he]; rfl) 44 _ (Or.inl rfl)
          · intro h
            have h : ok = true := b2_ne0.mp h
            subst h
            rw [if_pos rfl] at he
            refine B.run okX7_parse [(12, [0, 1]), (44, []), (46, [0, 1, 2]), (76, [0, 1]), (87, [0, 1]), (52, [0, 1, 2]), (23, [0, 1, 2]), (24, [0, 1, 2]), (29, [0, 1, 2]), (38, [0, 1, 2])] 60 ?_
            refine At.aastK (ci := 0) B.1 (C := RX6) (q := cκ γ (5 + kk)) (x := vK (5 + kk)) (((sx B.1).1.1.1 kk hk).2.1) (fun _ => rfl) (dc1L okX7_parse rfl (by simp [L1])) (r := 2) (o := 0) (N := 8) rfl rfl (vp_in_nI hi8 (by decide)) ?_
            rw [nI_clamp (by omega)]
            have es := kws_set I (pst (nI i) q2 v2 kw (updR rw i f2)) hi8 kk
            show At γ σ 0 0 53 [(0, vR 1 0), (1, vI (nI i)), (2, vK (5 + kk))] [] (hset (pgW I (pst (nI i) q2 v2 kw (updR rw i f2))) 2 0 (aA (.object RX6) 8 (hput [vK (5 + kw 0), vK (5 + kw 1), vK (5 + kw 2), vK (5 + kw 3), vK (5 + kw 4), vK (5 + kw 5), vK (5 + kw 6), vK (5 + kw 7)] i (vK (5 + kk)))))
            rw [es]
            show At γ σ 0 0 53 [(0, vR 1 0), (1, vI (nI i)), (2, vK (5 + kk))] [] (pgW I (pst (nI i) q2 v2 (updK kw i kk) (updR rw i f2)))
            refine B.run okX7_parse [(12, [0, 1]), (44, []), (46, [0, 1, 2]), (76, [0, 1]), (87, [0, 1]), (52, [0, 1, 2]), (23, [0, 1, 2]), (24, [0, 1, 2]), (29, [0, 1, 2]), (38, [0, 1, 2])] 60 ?_
            refine ⟨trivial, ?_⟩
            show At γ σ 0 0 68 [(0, vR 1 0), (1, vI (nI i)), (2, vK (5 + kk))] [vR 0 0, vI (nI q2)] (pgW I (nI i + 1, nI q2, v2, updK kw i kk, updR rw i f2))
            rw [nI_1]
            refine At.qV [0] [] [vI (nI q2)] B.1 (c := aB I.1 I.2.1 I.2.2) (s_sbLen I.1 I.2.1 I.2.2) kJ4_length_8abf5 ln_X7_52 ⟨rfl, trivial⟩ (B.fit (by decide) (by decide) (by decide)) (dcV okX7_parse rfl) rfl ?_
            refine B.run okX7_parse [(12, [0, 1]), (44, []), (46, [0, 1, 2]), (76, [0, 1]), (87, [0, 1]), (52, [0, 1, 2]), (23, [0, 1, 2]), (24, [0, 1, 2]), (29, [0, 1, 2]), (38, [0, 1, 2])] 60 ?_
            constructor
            · intro h
              have h : q2 = I.1 := (nI_eq (by omega) (by omega)).mp h
              rw [if_pos h] at he
              exact ⟨Or.inr rfl, rI (by rw [hR, ← he]; rfl) (by rw [hR, ← he]; rfl)⟩
            · intro h
              have h : ¬ q2 = I.1 := fun z => h (by rw [z])
              rw [if_neg h] at he
              refine B.run okX7_parse [(12, [0, 1]), (44, []), (46, [0, 1, 2]), (76, [0, 1]), (87, [0, 1]), (52, [0, 1, 2]), (23, [0, 1, 2]), (24, [0, 1, 2]), (29, [0, 1, 2]), (38, [0, 1, 2])] 60 ?_
              refine At.iQ [vI (nI 59)] [] B.1 (s_p_take I hI (nI (i + 1)) q2 v2 (updK kw i kk) (updR rw i f2) 59 (by omega) (by decide)) kX7_take ln_X7_56 (B.fit (by decide) (by decide) (by decide)) (dcV okX7_parse rfl) ?_
              refine B.run okX7_parse [(12, [0, 1]), (44, []), (46, [0, 1, 2]), (76, [0, 1]), (87, [0, 1]), (52, [0, 1, 2]), (23, [0, 1, 2]), (24, [0, 1, 2]), (29, [0, 1, 2]), (38, [0, 1, 2])] 60 ?_
              constructor
              · intro h2
                have h2 := b2_eq0.mp h2
                have e : tkQ I q2 59 = q2 := by unfold tkQ; rw [h2]; rfl
                rw [if_neg (show ¬ atB I q2 59 = true by rw [h2]; decide)] at he
                exact ⟨Or.inl rfl, rI (by rw [hR, ← he]; rfl) (by rw [hR, ← he, e])⟩
              · intro h2
                have h2 := b2_ne0.mp h2
                have e : tkQ I q2 59 = q2 + 1 := by unfold tkQ; rw [if_pos h2]
                rw [if_pos h2] at he
                have z := ih (i + 1) (q2 + 1) v2 (updK kw i kk) (updR rw i f2) (by omega) (by omega) he
                rw [← e, ← nI_1 i] at z
                refine B.run okX7_parse [(12, [0, 1]), (44, []), (46, [0, 1, 2]), (76, [0, 1]), (87, [0, 1]), (52, [0, 1, 2]), (23, [0, 1, 2]), (24, [0, 1, 2]), (29, [0, 1, 2]), (38, [0, 1, 2])] 60 ?_
                rw [← nI_1 i]
                exact z
        · rw [if_neg hk] at he
          have ek : rkV kk = vN := if_neg hk
          show At γ σ 0 0 22 [(0, vR 1 0), (1, vI (nI i))] [rkV kk] (pgW I (pst (nI i) Q v kw rw))
          rw [ek]
          refine At.astore_nN B.1 (i := 2) (dcAst2 okX7_parse rfl) (by rw [B.2.2.1]; decide) rfl ?_
          refine At.aload_nN B.1 (i := 2) (dcAld2 okX7_parse rfl) rfl ?_
          refine At.ifnullN B.1 (dcNul okX7_parse rfl) (t := 44) rfl ?_
          exact bad _ he 44 _ (Or.inl rfl)
  refine B.run okX7_parse [(12, [0, 1]), (44, []), (46, [0, 1, 2]), (76, [0, 1]), (87, [0, 1]), (52, [0, 1, 2]), (23, [0, 1, 2]), (24, [0, 1, 2]), (29, [0, 1, 2]), (38, [0, 1, 2])] 60 ?_
  refine ⟨trivial, trivial, ?_⟩
  exact loop 8 0 0 v0 kw0 rw0 (by omega) (by omega) hR
