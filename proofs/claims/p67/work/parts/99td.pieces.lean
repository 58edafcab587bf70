/-! ===== the law's turn: its head, the pieces ===== -/
abbrev NO : Int32 := -3000000
theorem IDo.pq {S : SH} (h : IDo S) {j : Nat} (hj : j < gp S) : pq S (gid S j) = j := by
  refine fst_some (decide_eq_true rfl) (fun q hq => decide_eq_false fun e => ?_) hj
  have := h.1 q j hq hj
  rw [e] at this
  omega
theorem GJ.ge {B : Nat} {S : SH} (h : GJ B S) {j : Nat} (hj : j < gp S) : 0 ≤ (gid S j).toInt := by
  obtain ⟨N, -, -, n3⟩ := h.1.2.2.2.1
  exact (n3 j hj).1
theorem GJ.neNO {B : Nat} {S : SH} (h : GJ B S) {j : Nat} (hj : j < gp S) : gid S j ≠ NO := fun e => by
  have := h.ge hj
  rw [e] at this
  exact absurd this (by decide)
/-- the heaviest of the first j pieces, as the law has it -/
def hvT (S : SH) (j : Nat) : Int32 := if j = 0 then NO else gid S (fuN (gwt S) j)
abbrev lsT (tu : Nat) (S : SH) : List (Nat × AV) := [(0, vK 60), (1, vR 0 0), (2, vI (nI tu)), (3, vI (nI (gc S))), (4, vI (nI (gp S)))]
section PHB
variable {γ : CX} {k n tu B : Nat} {S : SH}
theorem ph_B (X : LX γ) (hk : k ≤ 500000) (hn : n ≤ 7000000) {K : KS'} (hJ : JK B K) (hS : kS K = S) {σ : Nat → Nat → Nat}
    (fin : ∀ σ', At γ σ' (k + 1) (n + 8) 66 [(0, vK 60), (1, vR 0 0), (2, vI (nI tu)), (3, vI (nI (gc S))), (4, vI (nI (gp S))), (5, vI 0), (6, vI 0), (7, vI 0), (8, vI 0), (9, vI NO), (10, vI 0), (11, vI NO), (12, vR 65 0), (13, vK 15), (14, vI (nI 0))] [] (world K ++ [[aI (gc S) (fun _ => 0)]])) : At γ σ k n 20 [(0, vK 60), (1, vR 0 0), (2, vI (nI tu))] [] (world K) := by
  subst hS
  have h8 := hJ.1.1.1
  refine X.run okK_B [] 60 ?_
  refine At.lZ0 [] [] X.1 (z_compartmentCount K) kX10_compartmentCount ln_L_127 X.fit (dcV okK_B rfl) ?_
  refine X.run okK_B [] 60 ?_
  refine At.lZ0 [] [] X.1 (z_pieceCount K) kX10_pieceCount ln_L_130 X.fit (dcV okK_B rfl) ?_
  refine X.run okK_B [] 60 ?_
  refine X.no okK_B rfl ?_
  refine X.run okK_B [] 60 ?_
  refine X.no okK_B rfl ?_
  refine X.run okK_B [] 60 ?_
  refine At.newA (N := gc (kS K)) (ty := .int) X.1 rfl (fun _ _ _ => rfl) (mT 88 (by decide +kernel) rfl) (nI_pos (by omega)) (nI_clamp (by omega)) (by show gc (kS K) * 4 ≤ _; omega) (by rw [X.2.2]; show k + 1 ≤ 600390; omega) (by rw [X.2.2]; show n + gc (kS K) ≤ 7289120; omega) (dcNew okK_B rfl) rfl rfl rfl fun σ2 _ => ?_
  show At γ σ2 (k + 1) (n + gc (kS K)) 57 [(0, vK 60), (1, vR 0 0), (2, vI (nI tu)), (3, vI (nI (gc (kS K)))), (4, vI (nI (gp (kS K)))), (5, vI 0), (6, vI 0), (7, vI 0), (8, vI 0), (9, vI NO), (10, vI 0), (11, vI NO)] [vR 65 0] (world K ++ [[aI (gc (kS K)) (fun _ => 0)]])
  refine X.run okK_B [] 60 ?_
  refine X.ldc okK_B 0 rfl rfl ?_
  refine X.run okK_B [(66, [0, 1, 2, 3, 4, 5, 6, 7, 8, 9, 10, 11, 12, 13, 14])] 60 ?_
  exact At.wid (Nat.le_refl _) (by omega) (fin σ2)
/-- the pieces: their ids, weights, places -/
theorem ph_C (X : LX γ) (hk : k ≤ 500000) (hn : n ≤ 7000000) {K : KS'} (hJ : JK B K) (hS : kS K = S) {σ : Nat → Nat → Nat} {l : List (Nat × AV)} (hl : l = [(5, vI 0), (6, vI 0), (7, vI 0), (8, vI 0), (10, vI 0), (11, vI NO), (12, vR 65 0), (13, vK 15)])
    (fin : ∀ f, (∀ i, i < gc S → f i = cgI (gwt S) (gpl S) (nI i) (gp S)) → At γ σ k n 172 [(0, vK 60), (1, vR 0 0), (2, vI (nI tu)), (3, vI (nI (gc S))), (4, vI (nI (gp S))), (5, vI 0), (6, vI 0), (7, vI 0), (8, vI 0), (9, vI (hvT S (gp S))), (10, vI 0), (11, vI NO), (12, vR 65 0), (13, vK 15), (14, vI (nI 0))] [] (world K ++ [[aI (gc S) f]])) :
    At γ σ k n 66 [(0, vK 60), (1, vR 0 0), (2, vI (nI tu)), (3, vI (nI (gc S))), (4, vI (nI (gp S))), (5, vI 0), (6, vI 0), (7, vI 0), (8, vI 0), (9, vI NO), (10, vI 0), (11, vI NO), (12, vR 65 0), (13, vK 15), (14, vI (nI 0))] [] (world K ++ [[aI (gc S) (fun _ => 0)]]) := by
  subst hS
  obtain ⟨hK, hG, -⟩ := hJ
  have h8 := hK.1.1
  have h16 := hK.1.2.1
  have hV := hG.1.1.1
  have loop : ∀ (m j : Nat), j + m = gp (kS K) → ∀ f, (∀ i, i < gc (kS K) → f i = cgI (gwt (kS K)) (gpl (kS K)) (nI i) j) → At γ σ k n 66 [(0, vK 60), (1, vR 0 0), (2, vI (nI tu)), (3, vI (nI (gc (kS K)))), (4, vI (nI (gp (kS K)))), (5, vI 0), (6, vI 0), (7, vI 0), (8, vI 0), (9, vI (hvT (kS K) j)), (10, vI 0), (11, vI NO), (12, vR 65 0), (13, vK 15), (14, vI (nI j))] [] (world K ++ [[aI (gc (kS K)) f]]) := by
    intro m
    induction m with
    | zero =>
      intro j hj f hf
      have hj : j = gp (kS K) := by omega
      subst hj
      refine X.run okK_C [(172, [0, 1, 2, 3, 4, 5, 6, 7, 8, 9, 10, 11, 12, 13, 14])] 60 ?_
      exact ⟨fun _ => fin f hf, fun h => absurd (nI_le (Nat.le_refl _) (by omega)) h⟩
    | succ m ih =>
      intro j hj f hf
      have hjp : j < gp (kS K) := by omega
      have hq : pq (kS K) (gid (kS K) j) = j := hG.2.2.1.pq hjp
      have hw := hV.2.1 j hjp
      obtain ⟨c, hc, ec⟩ := hK.1.2.2.2.2.2 j hjp
      have ec : gpl (kS K) j = nI c := ec
      have zW : Sp 8 0 0 mX10_weightOf [vR 0 0, vI (gid (kS K) j)] (world K) (PoI (gwt (kS K) j) (world K)) := by
        have z := z_weightOf K hK (gid (kS K) j) (by rw [hq]; exact hjp)
        rw [hq] at z
        exact z
      have zC : Sp 8 0 0 mX10_compartmentOf [vR 0 0, vI (gid (kS K) j)] (world K) (PoI (nI c) (world K)) := by
        have z := z_compartmentOf K hK (gid (kS K) j) (by rw [hq]; exact hjp)
        rw [hq, ec] at z
        exact z
      -- behind the checks
      have body : At γ σ k n 122 [(0, vK 60), (1, vR 0 0), (2, vI (nI tu)), (3, vI (nI (gc (kS K)))), (4, vI (nI (gp (kS K)))), (5, vI 0), (6, vI 0), (7, vI 0), (8, vI 0), (9, vI (hvT (kS K) j)), (10, vI 0), (11, vI NO), (12, vR 65 0), (13, vK 15), (14, vI (nI j)), (15, vI (gid (kS K) j)), (16, vI (gwt (kS K) j))] [] (world K ++ [[aI (gc (kS K)) f]]) := by
        have nxt : ∀ x, x = hvT (kS K) (j + 1) → At γ σ k n 161 [(0, vK 60), (1, vR 0 0), (2, vI (nI tu)), (3, vI (nI (gc (kS K)))), (4, vI (nI (gp (kS K)))), (5, vI 0), (6, vI 0), (7, vI 0), (8, vI 0), (9, vI (hvT (kS K) j)), (10, vI 0), (11, vI NO), (12, vR 65 0), (13, vK 15), (14, vI (nI j)), (15, vI (gid (kS K) j)), (16, vI (gwt (kS K) j))] [vI x] (world K ++ [[aI (gc (kS K)) (upd f c (f c + gwt (kS K) j))]]) := fun x hx => by
          subst hx
          refine X.run okK_C [(66, [0, 1, 2, 3, 4, 5, 6, 7, 8, 9, 10, 11, 12, 13, 14])] 60 ?_
          have z := ih (j + 1) (by omega) (upd f c (f c + gwt (kS K) j)) (fun i hi => by
            show _ = if gpl (kS K) j = nI i then _ else _
            by_cases e : i = c
            · rw [e, upd_eq, if_pos ec, hf c hc]
            · rw [upd_ne _ _ e, if_neg (fun q => e ((nI_eq (by omega) (by omega)).mp (q.symm.trans ec))), hf i hi])
          rw [← nI_1] at z
          exact z
        refine X.run okK_C [] 60 ?_
        refine At.lZ [vI (gid (kS K) j)] [vR 65 0] X.1 zC kX10_compartmentOf ln_L_180 X.fit (dcV okK_C rfl) ?_
        refine X.run okK_C [] 60 ?_
        refine ⟨vp_in_nI hc (by omega), vp_in_nI hc (by omega), ?_⟩
        show At γ σ k n 138 [(0, vK 60), (1, vR 0 0), (2, vI (nI tu)), (3, vI (nI (gc (kS K)))), (4, vI (nI (gp (kS K)))), (5, vI 0), (6, vI 0), (7, vI 0), (8, vI 0), (9, vI (hvT (kS K) j)), (10, vI 0), (11, vI NO), (12, vR 65 0), (13, vK 15), (14, vI (nI j)), (15, vI (gid (kS K) j)), (16, vI (gwt (kS K) j))] [vI (hvT (kS K) j)] (world K ++ [[aI (gc (kS K)) (upd f (nI c).toNatClampNeg (f (nI c).toNatClampNeg + gwt (kS K) j))]])
        rw [nI_clamp (by omega)]
        refine X.no okK_C rfl ?_
        refine X.run okK_C [(161, [0, 1, 2, 3, 4, 5, 6, 7, 8, 9, 10, 11, 12, 13, 14, 15, 16])] 60 ?_
        refine ⟨fun e => ?_, fun e => ?_⟩
        · have hj0 : j = 0 := Nat.eq_zero_of_not_pos fun z => by
            unfold hvT at e
            rw [if_neg (by omega)] at e
            have : fuN (gwt (kS K)) j < j := by
              obtain ⟨m', rfl⟩ : ∃ m', j = m' + 1 := ⟨j - 1, by omega⟩
              exact fuN_lt _ _
            exact hG.neNO (j := fuN (gwt (kS K)) j) (by omega) e
          refine nxt _ ?_
          subst hj0
          unfold hvT
          rw [if_neg (by decide)]
          congr 1
          unfold fuN
          split <;> rfl
        · have hj0 : ¬ j = 0 := fun z => e (by unfold hvT; rw [if_pos z])
          have hfl : fuN (gwt (kS K)) j < j := by
            obtain ⟨m', rfl⟩ : ∃ m', j = m' + 1 := ⟨j - 1, by omega⟩
            exact fuN_lt _ _
          have ehv : hvT (kS K) j = gid (kS K) (fuN (gwt (kS K)) j) := if_neg hj0
          have ehv1 : hvT (kS K) (j + 1) = gid (kS K) (if gwt (kS K) (fuN (gwt (kS K)) j) < gwt (kS K) j then j else fuN (gwt (kS K)) j) := if_neg (by omega)
          have hq2 : pq (kS K) (hvT (kS K) j) = fuN (gwt (kS K)) j := by rw [ehv]; exact hG.2.2.1.pq (by omega)
          refine At.lZ [vI (hvT (kS K) j)] [vI (gwt (kS K) j)] X.1 (z_weightOf K hK (hvT (kS K) j) (by rw [hq2]; omega)) kX10_weightOf ln_L_177 X.fit (dcV okK_C rfl) ?_
          rw [hq2]
          refine X.run okK_C [(161, [0, 1, 2, 3, 4, 5, 6, 7, 8, 9, 10, 11, 12, 13, 14, 15, 16])] 60 ?_
          refine ⟨fun e2 => nxt _ ?_, fun e2 => nxt _ ?_⟩
          · rw [ehv, ehv1, if_neg (Int32.not_lt.mpr e2)]
          · rw [ehv1, if_pos (Int32.not_le.mp e2)]
      refine X.run okK_C [] 60 ?_
      refine ⟨fun h => absurd h (nI_ge (by omega) (by omega)), fun _ => ?_⟩
      refine At.lZ [vI (nI j)] [] X.1 (z_idAt K hK j hjp) kX10_idAt ln_L_75 X.fit (dcV okK_C rfl) ?_
      refine X.run okK_C [] 60 ?_
      refine At.lZ [vI (gid (kS K) j)] [] X.1 zW kX10_weightOf ln_L_177 X.fit (dcV okK_C rfl) ?_
      have c107 : At γ σ k n 107 [(0, vK 60), (1, vR 0 0), (2, vI (nI tu)), (3, vI (nI (gc (kS K)))), (4, vI (nI (gp (kS K)))), (5, vI 0), (6, vI 0), (7, vI 0), (8, vI 0), (9, vI (hvT (kS K) j)), (10, vI 0), (11, vI NO), (12, vR 65 0), (13, vK 15), (14, vI (nI j)), (15, vI (gid (kS K) j)), (16, vI (gwt (kS K) j))] [] (world K ++ [[aI (gc (kS K)) f]]) := by
        refine X.run okK_C [(122, [0, 1, 2, 3, 4, 5, 6, 7, 8, 9, 10, 11, 12, 13, 14, 15, 16])] 60 ?_
        refine ⟨fun e => absurd (bI_lt e) (by rw [show (1 : Int32).toInt = 1 from rfl]; have := hw.1; omega), fun _ => ⟨fun _ => body, fun e => absurd (Int32.le_iff_toInt_le.mpr (by rw [show (50 : Int32).toInt = 50 from rfl]; exact hw.2)) e⟩⟩
      refine X.run okK_C [(107, [0, 1, 2, 3, 4, 5, 6, 7, 8, 9, 10, 11, 12, 13, 14, 15, 16])] 60 ?_
      refine ⟨fun _ => c107, fun e => ?_⟩
      have hj1 : 0 < j := Nat.pos_of_ne_zero fun z => e (by rw [z]; decide)
      show At γ σ k n 101 [(0, vK 60), (1, vR 0 0), (2, vI (nI tu)), (3, vI (nI (gc (kS K)))), (4, vI (nI (gp (kS K)))), (5, vI 0), (6, vI 0), (7, vI 0), (8, vI 0), (9, vI (hvT (kS K) j)), (10, vI 0), (11, vI NO), (12, vR 65 0), (13, vK 15), (14, vI (nI j)), (15, vI (gid (kS K) j)), (16, vI (gwt (kS K) j))] [vI (nI j - 1), vR 0 0, vI (gid (kS K) j)] (world K ++ [[aI (gc (kS K)) f]])
      rw [show nI j - 1 = nI (j - 1) from by rw [show (1 : Int32) = nI 1 from rfl, pk_sub (by omega)]]
      refine At.lZ [vI (nI (j - 1))] [vI (gid (kS K) j)] X.1 (z_idAt K hK (j - 1) (by omega)) kX10_idAt ln_L_75 X.fit (dcV okK_C rfl) ?_
      refine X.run okK_C [(107, [0, 1, 2, 3, 4, 5, 6, 7, 8, 9, 10, 11, 12, 13, 14, 15, 16])] 60 ?_
      refine ⟨fun e2 => absurd (bI_le e2) ?_, fun _ => c107⟩
      have := hG.2.2.1.1 (j - 1) j (by omega) hjp
      omega
  exact loop (gp (kS K)) 0 (Nat.zero_add _) (fun _ => 0) (fun i _ => rfl)
end PHB
