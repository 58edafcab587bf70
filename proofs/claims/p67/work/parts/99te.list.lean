/-! ===== the law's turn: a compartment's cargo as a text ===== -/
theorem NB_dg {x : Int32} {a b : Int} (h : bI x a b) (ha : -1000000 < a) (hb : b < 1000000) : NB x := by
  unfold NB
  have := h.1
  have := h.2
  omega
theorem GJ.nbs {B : Nat} {S : SH} (h : GJ B S) (hB : B ≤ 5000) : NBS S := by
  obtain ⟨⟨⟨hV, hSt⟩, hW, -, ⟨N, n1, n2, n3⟩, hM⟩, -⟩ := h
  refine ⟨fun i hi => ?_, fun i hi => ?_, fun i hi => ?_⟩
  · obtain ⟨a1, a2, a3, -, a5, -⟩ := hV.1 i hi
    have c := bI_cg (wt := gwt S) (pl := gpl S) (x := nI i) (gp S) hW.2.1 (fun k hk => ⟨by have := (hV.2.1 k hk).1; omega, (hV.2.1 k hk).2⟩)
    have := hW.2.1
    exact ⟨NB_dg a1 (by decide) (by decide), NB_dg a3 (by decide) (by decide), NB_dg a2 (by decide) (by decide), NB_dg a5 (by decide) (by decide), NB_dg c (by decide) (by omega)⟩
  · exact ⟨NB_dg (n3 i hi) (by decide) (by omega), NB_dg (hV.2.1 i hi) (by decide) (by decide)⟩
  · exact ⟨NB_dg (hM i hi) (by decide) (by decide), NB_dg (hSt i hi) (by decide) (by decide)⟩
abbrev lsE (tu : Nat) (S : SH) (c : Nat) (a5 a6 a7 a8 hv : Int32) (o : TV) (j : Nat) : List (Nat × AV) := [(19, tvV 66 o), (0, vK 60), (1, vR 0 0), (2, vI (nI tu)), (3, vI (nI (gc S))), (4, vI (nI (gp S))), (5, vI a5), (6, vI a6), (7, vI a7), (8, vI a8), (9, vI hv), (10, vI 0), (11, vI NO), (12, vR 65 0), (13, vK 15), (14, vI (nI c)), (15, vI (gw S c)), (16, vI (gl S c)), (20, vI (nI j))]
theorem hE_len (K : KS') (f : Nat → Int32) (m : Nat) (o : TV) : 66 ≤ (world K ++ ([[aI m f]] ++ tvE 66 o)).length := by
  rw [List.length_append, world_len, List.length_append]
  show 66 ≤ 65 + (1 + _)
  omega
theorem hE_bd (K : KS') (f : Nat → Int32) (m : Nat) (o : TV) : bdH (world K ++ ([[aI m f]] ++ tvE 66 o)).length (world K ++ ([[aI m f]] ++ tvE 66 o)) = true := by
  cases o <;> rfl
theorem hE_at (K : KS') (f : Nat → Int32) (m : Nat) (o : TV) : TVat 66 o (world K ++ ([[aI m f]] ++ tvE 66 o)) := by
  intro q e
  subst e
  exact ⟨rfl, rfl⟩
theorem lsE_bd {tu : Nat} {S : SH} {c : Nat} {a5 a6 a7 a8 hv : Int32} {o : TV} {j N : Nat} (h : 66 < N) : (lsE tu S c a5 a6 a7 a8 hv o j).all (fun q => bdV N q.2) = true := by
  have h1 : bdV N (tvV 66 o) = true := tvV_bd h o
  have h2 : bdV N (vR 0 0) = true := Nat.ble_eq.mpr (by omega)
  have h3 : bdV N (vR 65 0) = true := Nat.ble_eq.mpr (by omega)
  simp only [List.all_cons, List.all_nil, h1, h2, h3, Bool.true_and, Bool.and_true]
  rfl
section PHE
variable {γ : CX} {k n tu B : Nat} {S : SH}
set_option maxRecDepth 4000 in
theorem ph_E (X : LX γ) {k0 n0 : Nat} (hk : k0 ≤ 500000) (hn : n0 ≤ 7000000) {K : KS'} (hJ : JK B K) (hB : B ≤ 4000) (hS : kS K = S) {c : Nat} {f : Nat → Int32} {a5 a6 a7 a8 hv : Int32}
    (fin : ∀ σ' o, TVk o (tgT S (nI c) (gp S)) → At γ σ' (k0 + 9 * gp S) (n0 + 2130 * gp S) 385 (lsE tu S c a5 a6 a7 a8 hv o (gp S)) [] (world K ++ ([[aI (gc S) f]] ++ tvE 66 o))) {σ : Nat → Nat → Nat} :
    At γ σ k0 n0 295 (lsE tu S c a5 a6 a7 a8 hv none 0) [] (world K ++ ([[aI (gc S) f]] ++ tvE 66 none)) := by
  subst hS
  have hNB := hJ.2.1.nbs (by omega)
  obtain ⟨hK, hG, -⟩ := hJ
  have h16 := hK.1.2.1
  have loop : ∀ (m j : Nat), j + m = gp (kS K) → ∀ (σ : Nat → Nat → Nat) (o : TV), TVk o (tgT (kS K) (nI c) j) → At γ σ (k0 + 9 * j) (n0 + 2130 * j) 295 (lsE tu (kS K) c a5 a6 a7 a8 hv o j) [] (world K ++ ([[aI (gc (kS K)) f]] ++ tvE 66 o)) := by
    intro m
    induction m with
    | zero =>
      intro j hj σ o ho
      have hj : j = gp (kS K) := by omega
      subst hj
      refine X.run okK_E [(385, [19, 0, 1, 2, 3, 4, 5, 6, 7, 8, 9, 10, 11, 12, 13, 14, 15, 16, 20])] 60 ?_
      exact ⟨fun _ => fin σ o ho, fun h => absurd (nI_le (Nat.le_refl _) (by omega)) h⟩
    | succ m ih =>
      intro j hj σ o ho
      have hjp : j < gp (kS K) := by omega
      have hq : pq (kS K) (gid (kS K) j) = j := hG.2.2.1.pq hjp
      have zW : Sp 8 0 0 mX10_weightOf [vR 0 0, vI (gid (kS K) j)] (world K) (PoI (gwt (kS K) j) (world K)) := by
        have z := z_weightOf K hK (gid (kS K) j) (by rw [hq]; exact hjp)
        rw [hq] at z
        exact z
      have zC : Sp 8 0 0 mX10_compartmentOf [vR 0 0, vI (gid (kS K) j)] (world K) (PoI (gpl (kS K) j) (world K)) := by
        have z := z_compartmentOf K hK (gid (kS K) j) (by rw [hq]; exact hjp)
        rw [hq] at z
        exact z
      have hl := tg_len hNB (nI c) j (by omega)
      obtain ⟨nb1, nb2⟩ := hNB.2.1 j hjp
      have d1 := dg_len7 nb1
      have d2 := dg_len7 nb2
      have hs1 := spT_len (tgT (kS K) (nI c) j) 44
      refine X.run okK_E [(295, [19, 0, 1, 2, 3, 4, 5, 6, 7, 8, 9, 10, 11, 12, 13, 14, 15, 16, 20])] 60 ?_
      refine ⟨fun h => absurd h (nI_ge (by omega) (by omega)), fun _ => ?_⟩
      refine At.lZ [vI (nI j)] [vR 0 0] X.1 (z_idAt K hK j hjp) kX10_idAt ln_L_75 (X.fit (by decide) (by omega) (by omega)) (dcV okK_E rfl) ?_
      refine At.lZ [vI (gid (kS K) j)] [] X.1 zC kX10_compartmentOf ln_L_180 (X.fit (by decide) (by omega) (by omega)) (dcV okK_E rfl) ?_
      refine X.run okK_E [(295, [19, 0, 1, 2, 3, 4, 5, 6, 7, 8, 9, 10, 11, 12, 13, 14, 15, 16, 20]), (317, [19, 0, 1, 2, 3, 4, 5, 6, 7, 8, 9, 10, 11, 12, 13, 14, 15, 16, 20])] 60 ?_
      refine ⟨fun e => ?_, fun e => ?_⟩
      · -- the piece lies here
        have et : tgT (kS K) (nI c) (j + 1) = spT (tgT (kS K) (nI c) j) 44 ++ dg (gid (kS K) j) ++ [42] ++ dg (gwt (kS K) j) := if_pos e
        have hat := hE_at K f (gc (kS K)) o
        have hN := hE_len K f (gc (kS K)) o
        have hbd := hE_bd K f (gc (kS K)) o
        have hle : 66 < (world K ++ ([[aI (gc (kS K)) f]] ++ tvE 66 o)).length ∨ o = none := by
          cases o with
          | none => exact Or.inr rfl
          | some q => exact Or.inl (by show 66 < 68; decide)
        have hlb : (lsE tu (kS K) c a5 a6 a7 a8 hv o j).all (fun q => bdV (world K ++ ([[aI (gc (kS K)) f]] ++ tvE 66 o)).length q.2) = true := by
          cases o <;> rfl
        generalize hh : world K ++ ([[aI (gc (kS K)) f]] ++ tvE 66 o) = h at hat hN hbd hle hlb
        refine X.sbNew okK_E rfl rfl rfl hbd hlb rfl (by omega) (by omega) (fun σ2 k n hk hn => ?_) (Nat.le_of_ble_eq_true rfl)
        refine X.run okK_E [] 60 ?_
        refine X.sbV okK_E (L := (0, 16, z0)) (g0 := 66) (o := o) ho hat rfl (TX.new 16 z0) (by show 0 + _ ≤ 300; omega) (Nat.le_refl _) hk hn (by omega) (by omega) (fun L1 t1 l1 k n hk hn => ?_)
        refine X.run okK_E [] 60 ?_
        refine X.tvLen okK_E ho (hat.app _) rfl (by omega) (by omega) ?_
        have cont : ∀ L2, TX L2 (spT (tgT (kS K) (nI c) j) 44) → 16 ≤ L2.2.1 → AB γ σ2 (k0 + 9 * j + 7) (n0 + 2130 * j + 1820) L2.2.1 347 (lsE tu (kS K) c a5 a6 a7 a8 hv o j) [vR h.length 0] (h ++ [sbL L2]) := by
          intro L2 t2 l2 k n hk hn
          refine X.run okK_E [] 60 ?_
          subst hh
          refine At.asc ?_
          refine At.lZ [vI (nI j)] [vR (world K ++ ([[aI (gc (kS K)) f]] ++ tvE 66 o)).length 0] X.1 (z_idAt K hK j hjp) kX10_idAt ln_L_75 (X.fit (by decide) (by omega) (by omega)) (dcV okK_E rfl) ?_
          refine At.csa ?_
          refine X.sbI okK_E (gid (kS K) j) nb1 rfl t2 (by omega) l2 hk hn (by omega) (by omega) (fun L3 t3 l3 k n hk hn => ?_)
          refine X.ldc okK_E 2 rfl rfl ?_
          refine X.sbK okK_E 2 rfl t3 (by rw [List.length_append]; show _ + 1 ≤ 300; omega) l3 hk hn (by omega) (by omega) (fun L4 t4 l4 k n hk hn => ?_)
          refine X.run okK_E [] 60 ?_
          refine At.asc ?_
          refine At.lZ [vI (nI j)] [vR 0 0, vR (world K ++ ([[aI (gc (kS K)) f]] ++ tvE 66 o)).length 0] X.1 (z_idAt K hK j hjp) kX10_idAt ln_L_75 (X.fit (by decide) (by omega) (by omega)) (dcV okK_E rfl) ?_
          refine At.lZ [vI (gid (kS K) j)] [vR (world K ++ ([[aI (gc (kS K)) f]] ++ tvE 66 o)).length 0] X.1 zW kX10_weightOf ln_L_177 (X.fit (by decide) (by omega) (by omega)) (dcV okK_E rfl) ?_
          refine At.csa ?_
          have l42 : (sxB 2).length = 1 := rfl
          refine X.sbI okK_E (gwt (kS K) j) nb2 rfl t4 (by rw [List.length_append, List.length_append, l42]; omega) l4 hk hn (by omega) (by omega) (fun L5 t5 l5 k n hk hn => ?_)
          rw [show spT (tgT (kS K) (nI c) j) 44 ++ dg (gid (kS K) j) ++ sxB 2 ++ dg (gwt (kS K) j) = tgT (kS K) (nI c) (j + 1) from et.symm] at t5
          have hl1 := tg_len hNB (nI c) (j + 1) (by omega)
          refine X.sbS okK_E rfl t5 (by omega) hbd hlb rfl (by omega) (by omega) (fun σ3 f' hTS => ?_)
          refine X.run okK_E [(295, [19, 0, 1, 2, 3, 4, 5, 6, 7, 8, 9, 10, 11, 12, 13, 14, 15, 16, 20])] 60 ?_
          refine At.wid (k2 := k0 + 9 * (j + 1)) (n2 := n0 + 2130 * (j + 1)) (by omega) (by omega) ?_
          have nx := fun σ' => ih (j + 1) (by omega) σ' (some ((tgT (kS K) (nI c) (j + 1)).length, f')) hTS
          rw [nI_1]
          cases o with
          | none => exact At.cutS (H := world K ++ [[aI (gc (kS K)) f]]) (M := [sbL L5]) (i := 19) X.1 rfl rfl (Nat.succ_pos _) nx
          | some q => exact At.cutS (H := world K ++ [[aI (gc (kS K)) f]]) (M := [[sO 67], [sY q.1 q.2], sbL L5]) (i := 19) X.1 rfl rfl (Nat.succ_pos _) nx
        refine X.run okK_E [] 60 ?_
        refine ⟨fun e0 => ?_, fun e0 => ?_⟩
        · have hw0 : tgT (kS K) (nI c) j = [] := List.length_eq_zero_iff.mp (Nat.eq_zero_of_not_pos fun z => absurd e0 (fun q => by
            have := bI_le q
            rw [nI_toInt (by omega), show (0 : Int32).toInt = 0 from rfl] at this
            omega))
          refine X.ldc okK_E 0 rfl rfl ?_
          refine X.sbK okK_E 0 rfl t1 (by show _ + 0 ≤ 300; rw [hw0]; show 0 + 0 ≤ 300; omega) l1 hk hn (by omega) (by omega) (fun L2 t2 l2 => cont L2 (by
            rw [hw0] at t2 ⊢
            exact t2) l2)
        · have hw0 : tgT (kS K) (nI c) j ≠ [] := fun z => e0 (by rw [z]; decide)
          refine X.ldc okK_E 1 rfl rfl ?_
          refine X.run okK_E [] 60 ?_
          refine X.sbK okK_E 1 rfl t1 (by show _ + 1 ≤ 300; rw [List.nil_append]; omega) l1 hk hn (by omega) (by omega) (fun L2 t2 l2 => cont L2 (by
            unfold spT
            rw [if_neg hw0]
            exact t2) l2)
      · have et : tgT (kS K) (nI c) (j + 1) = tgT (kS K) (nI c) j := if_neg e
        have z := ih (j + 1) (by omega) σ o (by rw [et]; exact ho)
        have e2 : lsE tu (kS K) c a5 a6 a7 a8 hv o (j + 1) = [(19, tvV 66 o), (0, vK 60), (1, vR 0 0), (2, vI (nI tu)), (3, vI (nI (gc (kS K)))), (4, vI (nI (gp (kS K)))), (5, vI a5), (6, vI a6), (7, vI a7), (8, vI a8), (9, vI hv), (10, vI 0), (11, vI NO), (12, vR 65 0), (13, vK 15), (14, vI (nI c)), (15, vI (gw (kS K) c)), (16, vI (gl (kS K) c)), (20, vI (nI j + 1))] := by rw [nI_1]
        rw [e2] at z
        exact At.wid (by omega) (by omega) z
  have z := loop (gp (kS K)) 0 (Nat.zero_add _) σ none rfl
  exact z
end PHE
