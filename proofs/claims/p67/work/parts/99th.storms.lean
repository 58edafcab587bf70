/-! ===== the law's turn: the storms ===== -/
/-- the next storm, where i of them lie behind -/
def nxT (S : SH) (i : Nat) : Int32 := if i = 0 then NO else gmi S 0
/-- i storms are due before the minute m -/
def stI2 (S : SH) (m i : Nat) : Prop := i ≤ gsc S ∧ (∀ q, q < i → (gmi S q).toInt < m) ∧ ∀ q, i ≤ q → q < gsc S → (m : Int) ≤ (gmi S q).toInt
abbrev lsG (tu : Nat) (S : SH) (a5 a6 a7 a8 hv : Int32) (o : TV) (i m : Nat) : List (Nat × AV) := [(13, tvV 65 o), (0, vK 60), (1, vR 0 0), (2, vI (nI tu)), (3, vI (nI (gc S))), (4, vI (nI (gp S))), (5, vI a5), (6, vI a6), (7, vI a7), (8, vI a8), (9, vI hv), (10, vI (nI i)), (11, vI (nxT S i)), (14, vI (nI m))]
abbrev lsH (tu : Nat) (S : SH) (a5 a6 a7 a8 hv : Int32) (o : TV) : List (Nat × AV) := [(13, tvV 65 o), (0, vK 60), (1, vR 0 0), (2, vI (nI tu)), (3, vI (nI (gc S))), (4, vI (nI (gp S))), (5, vI a5), (6, vI a6), (7, vI a7), (8, vI a8), (9, vI hv), (10, vI (nI (gsc S))), (11, vI (nxT S (gsc S)))]
theorem hG_at (K : KS') (o : TV) : TVat 65 o (world K ++ tvE 65 o) := by
  intro q e
  subst e
  exact ⟨rfl, rfl⟩
theorem st_hit {S : SH} {m i : Nat} (h : stI2 S m i) (hs : SO (gsc S) (gmi S)) (hi : i < gsc S) (e : (gmi S i).toInt = m) : tq S (gmi S i) = i ∧ stI2 S (m + 1) (i + 1) := by
  refine ⟨fst_some (decide_eq_true rfl) (fun q hq => decide_eq_false fun z => ?_) hi, hi, fun q hq => ?_, fun q h1 h2 => ?_⟩
  · have := h.2.1 q hq
    rw [z] at this
    omega
  · rcases Nat.lt_or_ge q i with z | z
    · have := h.2.1 q z
      omega
    · have : q = i := by omega
      rw [this]; omega
  · have := hs i q (by omega) h2
    omega
theorem st_miss {S : SH} {m i : Nat} (h : stI2 S m i) (hs : SO (gsc S) (gmi S)) (hm : m < 2 ^ 31) (e : ¬ (i < gsc S ∧ (gmi S i).toInt = m)) : fStm S (nI m) = 4 ∧ stI2 S (m + 1) i := by
  have key : ∀ q, q < gsc S → (gmi S q).toInt ≠ m ∧ (i ≤ q → (m : Int) + 1 ≤ (gmi S q).toInt) := fun q hq => by
    rcases Nat.lt_or_ge q i with z | z
    · have := h.2.1 q z
      exact ⟨by omega, fun w => by omega⟩
    · have h1 := h.2.2 i (Nat.le_refl _) (by omega)
      have h2 : (gmi S i).toInt ≠ m := fun w => e ⟨by omega, w⟩
      rcases Nat.lt_or_ge i q with y | y
      · have := hs i q y hq
        exact ⟨by omega, fun _ => by omega⟩
      · have : q = i := by omega
        subst this
        exact ⟨h2, fun _ => by omega⟩
  constructor
  · unfold fStm
    have z : fst (eqB (gmi S) (nI m)) (gsc S) = gsc S := fst_none fun q hq => decide_eq_false fun w => (key q hq).1 (by rw [w]; exact nI_toInt hm)
    rw [z, if_neg (Nat.lt_irrefl _)]
  · exact ⟨h.1, fun q hq => by have := h.2.1 q hq; omega, fun q h1 h2 => (key q h2).2 h1⟩
section PHH
variable {γ : CX} {k n tu B : Nat} {S : SH}
set_option maxRecDepth 4000 in
theorem ph_H (X : LX γ) {k0 n0 : Nat} (hk : k0 ≤ 400000) (hn : n0 ≤ 6000000) {K : KS'} (hJ : JK B K) (hB : B ≤ 4000) (hS : kS K = S) {a5 a6 a7 a8 hv : Int32} {σ : Nat → Nat → Nat}
    (fin : ∀ σ' K' o, JK B K' → kS K' = S → TVk o (tsT S (gsc S)) → At γ σ' (k0 + 21 * 19) (n0 + 2900 * 19) 682 (lsH tu S a5 a6 a7 a8 hv o) [] (world K' ++ tvE 65 o)) :
    At γ σ k0 n0 572 [(0, vK 60), (1, vR 0 0), (2, vI (nI tu)), (3, vI (nI (gc S))), (4, vI (nI (gp S))), (5, vI a5), (6, vI a6), (7, vI a7), (8, vI a8), (9, vI hv), (10, vI 0), (11, vI NO), (13, vK 15)] [] (world K) := by
  obtain ⟨M, P, m1, m2, -, -⟩ : MP (120 * B) S := hS ▸ hJ.2.1.1.2.2.1
  have hMt : (gmn S).toInt = M := by rw [m2]; exact nI_toInt (by omega)
  have loop : ∀ (m d : Nat), d + m = 19 → ∀ (σ : Nat → Nat → Nat) (K : KS') (o : TV) (i : Nat), JK B K → kS K = S → TVk o (tsT S i) → stI2 S (M + 1 + d) i → At γ σ (k0 + 21 * d) (n0 + 2900 * d) 580 (lsG tu S a5 a6 a7 a8 hv o i (M + 1 + d)) [] (world K ++ tvE 65 o) := by
    intro m
    induction m with
    | zero =>
      intro d hd σ K o i hJ hS ho hi
      have hd : d = 19 := by omega
      subst hd
      subst hS
      have hie : i = gsc (kS K) := Nat.le_antisymm hi.1 (Nat.le_of_not_lt fun z => by
        have a := hi.2.2 i (Nat.le_refl _) z
        have b := (hJ.2.1.2.2.2.1 i z).2
        omega)
      subst hie
      refine X.run okK_G [] 60 ?_
      refine At.lZ [] [vI (nI (M + 1 + 19))] X.1 (z_minute K) kX10_minute ln_L_149 (X.fit (by decide) (by omega) (by omega)) (dcV okK_G rfl) ?_
      rw [m2]
      refine X.run okK_G [(682, [13, 0, 1, 2, 3, 4, 5, 6, 7, 8, 9, 10, 11])] 60 ?_
      refine ⟨fun _ => fin σ K o hJ rfl ho, fun h => absurd ?_ h⟩
      rw [show (20 : Int32) = nI 20 from rfl, nI_add]
      exact nI_le (by omega) (by omega)
    | succ m ih =>
      intro d hd σ K o i hJ hS ho hi
      subst hS
      have hNB := hJ.2.1.nbs (by omega)
      have hK := hJ.1
      have hs := hJ.2.1.2.1
      have h6 := hK.1.2.2.1
      have e1 : (nI (M + 1 + d)).toInt = ((M + 1 + d : Nat) : Int) := nI_toInt (by omega)
      refine X.run okK_G [] 60 ?_
      refine At.lZ [] [vI (nI (M + 1 + d))] X.1 (z_minute K) kX10_minute ln_L_149 (X.fit (by decide) (by omega) (by omega)) (dcV okK_G rfl) ?_
      rw [m2]
      refine X.run okK_G [] 60 ?_
      refine ⟨fun h => absurd (bI_le h) (by rw [show (20 : Int32) = nI 20 from rfl, nI_add, nI_toInt (by omega), nI_toInt (by omega)]; omega), fun _ => ?_⟩
      refine At.lS [vR 0 0, vI (nI (M + 1 + d))] [] X.1 (w_strengthAt K hK (nI (M + 1 + d))) kL_strengthAt ln_L_240 (X.fit (by decide) (by omega) (by omega)) (dcS okK_G rfl) (fun T C hT => ?_)
      rw [show (if fStm (kS K) (nI (M + 1 + d)) = 0 then K else K) = K from ite_self _]
      have hJ1 := hJ.sc hT C
      by_cases hit : i < gsc (kS K) ∧ (gmi (kS K) i).toInt = ((M + 1 + d : Nat) : Int)
      · -- a storm is due
        obtain ⟨hi1, hi2⟩ := hit
        have hm : nI (M + 1 + d) = gmi (kS K) i := Int32.toInt_inj.mp (e1.trans hi2.symm)
        obtain ⟨tq1, nxi⟩ := st_hit hi hs hi1 hi2
        have hf0 : fStm (kS K) (nI (M + 1 + d)) = 0 := by
          unfold fStm
          rw [hm, if_pos (by rw [show fst (eqB (gmi (kS K)) (gmi (kS K) i)) (gsc (kS K)) = i from tq1]; exact hi1)]
        have hsg := hJ.2.1.1.1.2 i hi1
        obtain ⟨nb1, nb2⟩ := hNB.2.2 i hi1
        have d1 := dg_len7 nb1
        have d2 := dg_len7 nb2
        have hl := ts_len hNB i hi.1
        have hs1 := spT_len (tsT (kS K) i) 32
        rw [if_pos hf0, hm, tq1]
        refine X.run okK_G [] 60 ?_
        refine X.no okK_G rfl ?_
        -- behind the next one
        have c624 : ∀ x, x = nxT (kS K) (i + 1) → At γ σ (k0 + 21 * d + 12) (n0 + 2900 * d + 700) 624 ([(13, tvV 65 o), (0, vK 60), (1, vR 0 0), (2, vI (nI tu)), (3, vI (nI (gc (kS K)))), (4, vI (nI (gp (kS K)))), (5, vI a5), (6, vI a6), (7, vI a7), (8, vI a8), (9, vI hv), (10, vI (nI i)), (11, vI (nxT (kS K) i)), (14, vI (nI (M + 1 + d))), (15, vI (gsg (kS K) i))]) [vI x] (world (scr K T C) ++ tvE 65 o) := by
          intro x hx
          subst hx
          have hat := hG_at (scr K T C) o
          have hbd : bdH (world (scr K T C) ++ tvE 65 o).length (world (scr K T C) ++ tvE 65 o) = true := by cases o <;> rfl
          have hlb : ([(13, tvV 65 o), (0, vK 60), (1, vR 0 0), (2, vI (nI tu)), (3, vI (nI (gc (kS K)))), (4, vI (nI (gp (kS K)))), (5, vI a5), (6, vI a6), (7, vI a7), (8, vI a8), (9, vI hv), (10, vI (nI i)), (11, vI (nxT (kS K) (i + 1))), (14, vI (nI (M + 1 + d))), (15, vI (gsg (kS K) i))] : List (Nat × AV)).all (fun q => bdV (world (scr K T C) ++ tvE 65 o).length q.2) = true := by cases o <;> rfl
          refine X.run okK_G [(626, [13, 0, 1, 2, 3, 4, 5, 6, 7, 8, 9, 10, 11, 14, 15])] 60 ?_
          generalize hh : world (scr K T C) ++ tvE 65 o = h at hat hbd hlb
          refine X.sbNew okK_G rfl rfl rfl hbd hlb rfl (by omega) (by omega) (fun σ2 k n hk hn => ?_) (Nat.le_of_ble_eq_true rfl)
          refine X.run okK_G [] 60 ?_
          refine X.sbV okK_G (L := (0, 16, z0)) (g0 := 65) (o := o) ho hat rfl (TX.new 16 z0) (by show 0 + _ ≤ 300; omega) (Nat.le_refl _) hk hn (by omega) (by omega) (fun L1 t1 l1 k n hk hn => ?_)
          have cont : ∀ L2, TX L2 (spT (tsT (kS K) i) 32) → 16 ≤ L2.2.1 → AB γ σ2 (k0 + 21 * d + 12 + 7) (n0 + 2900 * d + 700 + 1820) L2.2.1 653 ([(13, tvV 65 o), (0, vK 60), (1, vR 0 0), (2, vI (nI tu)), (3, vI (nI (gc (kS K)))), (4, vI (nI (gp (kS K)))), (5, vI a5), (6, vI a6), (7, vI a7), (8, vI a8), (9, vI hv), (10, vI (nI i)), (11, vI (nxT (kS K) (i + 1))), (14, vI (nI (M + 1 + d))), (15, vI (gsg (kS K) i))]) [vR h.length 0] (h ++ [sbL L2]) := by
            intro L2 t2 l2 k n hk hn
            refine X.run okK_G [] 60 ?_
            rw [hm]
            refine X.sbI okK_G (gmi (kS K) i) nb1 rfl t2 (by omega) l2 hk hn (by omega) (by omega) (fun L3 t3 l3 k n hk hn => ?_)
            rw [← hm]
            refine X.ldc okK_G 9 rfl rfl ?_
            refine X.sbK okK_G 9 rfl t3 (by rw [List.length_append]; show _ + 1 ≤ 300; omega) l3 hk hn (by omega) (by omega) (fun L4 t4 l4 k n hk hn => ?_)
            refine X.run okK_G [] 60 ?_
            have l33 : (sxB 9).length = 1 := rfl
            refine X.sbI okK_G (gsg (kS K) i) nb2 rfl t4 (by rw [List.length_append, List.length_append, l33]; omega) l4 hk hn (by omega) (by omega) (fun L5 t5 l5 k n hk hn => ?_)
            have hl1 := ts_len hNB (i + 1) nxi.1
            have t5 : TX L5 (tsT (kS K) (i + 1)) := t5
            refine X.sbS okK_G rfl t5 (by omega) hbd hlb rfl (by omega) (by omega) (fun σ3 f' hTS => ?_)
            refine X.run okK_G [(580, [13, 0, 1, 2, 3, 4, 5, 6, 7, 8, 9, 10, 11, 14])] 60 ?_
            refine At.wid (k2 := k0 + 21 * (d + 1)) (n2 := n0 + 2900 * (d + 1)) (by omega) (by omega) ?_
            have nx := fun σ' => ih (d + 1) (by omega) σ' (scr K T C) (some ((tsT (kS K) (i + 1)).length, f')) (i + 1) hJ1 rfl hTS nxi
            rw [show lsG tu (kS K) a5 a6 a7 a8 hv (some ((tsT (kS K) (i + 1)).length, f')) (i + 1) (M + 1 + (d + 1)) = [(13, vR 65 0), (0, vK 60), (1, vR 0 0), (2, vI (nI tu)), (3, vI (nI (gc (kS K)))), (4, vI (nI (gp (kS K)))), (5, vI a5), (6, vI a6), (7, vI a7), (8, vI a8), (9, vI hv), (10, vI (nI (i + 1))), (11, vI (nxT (kS K) (i + 1))), (14, vI (nI (M + 1 + d + 1)))] from rfl, ← nI_1, ← nI_1] at nx
            subst hh
            cases o with
            | none => exact At.cutS (H := world (scr K T C)) (M := [sbL L5]) (i := 13) X.1 rfl rfl (Nat.succ_pos _) nx
            | some q => exact At.cutS (H := world (scr K T C)) (M := [[sO 66], [sY q.1 q.2], sbL L5]) (i := 13) X.1 rfl rfl (Nat.succ_pos _) nx
          refine X.run okK_G [] 60 ?_
          refine ⟨fun e0 => ?_, fun e0 => ?_⟩
          · have hi0 : i = 0 := Nat.eq_zero_of_not_pos fun z => by
              have := bI_le e0
              rw [nI_toInt (by omega), show (0 : Int32).toInt = 0 from rfl] at this
              omega
            subst hi0
            refine X.ldc okK_G 0 rfl rfl ?_
            exact X.sbK okK_G 0 rfl t1 (by show 0 + 0 ≤ 300; decide) l1 hk hn (by omega) (by omega) (fun L2 t2 l2 => cont L2 t2 l2)
          · have hi0 : 0 < i := Nat.pos_of_ne_zero fun z => e0 (by rw [z]; decide)
            refine X.ldc okK_G 5 rfl rfl ?_
            refine X.run okK_G [] 60 ?_
            refine X.sbK okK_G 5 rfl t1 (by show _ + 1 ≤ 300; rw [List.nil_append]; omega) l1 hk hn (by omega) (by omega) (fun L2 t2 l2 => cont L2 (by
              unfold spT
              rw [if_neg (tsT_ne hi0)]
              exact t2) l2)
        refine X.run okK_G [] 60 ?_
        refine ⟨fun e => absurd e (fun z => by
          have := hsg.1
          rw [z] at this
          exact absurd this (by decide)), fun _ => ?_⟩
        refine X.no okK_G rfl ?_
        refine X.run okK_G [(624, [13, 0, 1, 2, 3, 4, 5, 6, 7, 8, 9, 10, 11, 14, 15])] 60 ?_
        refine ⟨fun e => ?_, fun e => ?_⟩
        · refine c624 _ ?_
          have hi0 : i = 0 := Nat.eq_zero_of_not_pos fun z => by
            unfold nxT at e
            rw [if_neg (by omega)] at e
            have h0 := (hJ.2.1.2.2.2.1 0 (by omega)).1
            rw [hMt, e] at h0
            rw [show NO.toInt = -3000000 from rfl] at h0
            omega
          subst hi0
          unfold nxT
          rw [if_neg (by decide)]
          exact hm
        · refine c624 _ ?_
          have hi0 : ¬ i = 0 := fun z => e (by unfold nxT; rw [if_pos z])
          unfold nxT
          rw [if_neg hi0, if_neg (by omega)]
      · -- none
        obtain ⟨f4, nxi⟩ := st_miss hi hs (by omega) hit
        rw [f4, if_neg (by decide), show cdU 4 = NO from rfl]
        refine X.run okK_G [] 60 ?_
        refine X.no okK_G rfl ?_
        refine X.run okK_G [(580, [13, 0, 1, 2, 3, 4, 5, 6, 7, 8, 9, 10, 11, 14])] 60 ?_
        refine ⟨fun _ => ?_, fun e => absurd rfl e⟩
        have nx := ih (d + 1) (by omega) σ (scr K T C) o i hJ1 rfl ho nxi
        rw [show lsG tu (kS K) a5 a6 a7 a8 hv o i (M + 1 + (d + 1)) = [(13, tvV 65 o), (0, vK 60), (1, vR 0 0), (2, vI (nI tu)), (3, vI (nI (gc (kS K)))), (4, vI (nI (gp (kS K)))), (5, vI a5), (6, vI a6), (7, vI a7), (8, vI a8), (9, vI hv), (10, vI (nI i)), (11, vI (nxT (kS K) i)), (14, vI (nI (M + 1 + d + 1)))] from rfl, ← nI_1] at nx
        exact At.wid (by omega) (by omega) nx
  subst hS
  refine X.run okK_G [] 60 ?_
  refine At.lZ0 [] [] X.1 (z_minute K) kX10_minute ln_L_149 (X.fit (by decide) (by omega) (by omega)) (dcV okK_G rfl) ?_
  rw [m2]
  refine X.run okK_G [(580, [13, 0, 1, 2, 3, 4, 5, 6, 7, 8, 9, 10, 11, 14])] 60 ?_
  have z := loop 19 0 rfl σ K none 0 hJ rfl rfl ⟨Nat.zero_le _, fun q hq => absurd hq (Nat.not_lt_zero _), fun q _ hq => by
    have := (hJ.2.1.2.2.2.1 q hq).1
    omega⟩
  rw [show lsG tu (kS K) a5 a6 a7 a8 hv none 0 (M + 1 + 0) = [(13, vK 15), (0, vK 60), (1, vR 0 0), (2, vI (nI tu)), (3, vI (nI (gc (kS K)))), (4, vI (nI (gp (kS K)))), (5, vI a5), (6, vI a6), (7, vI a7), (8, vI a8), (9, vI hv), (10, vI 0), (11, vI NO), (14, vI (nI (M + 1)))] from rfl, ← nI_1] at z
  have e0 : world K ++ tvE 65 none = world K := List.append_nil _
  rw [e0] at z
  exact z
end PHH
