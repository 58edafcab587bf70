/-! ===== the law's turn: the compartments by load, the pumps ===== -/
section YZ
variable {K : KS'} {S : SH} {j : Nat}
theorem y_z_arm (hK : WK K) (hS : kS K = S) (hj : j < gc S) : Sp 8 0 0 mX10_arm [vR 0 0, vI (nI j)] (world K) (PoI (gar S j) (world K)) := by
  subst hS
  exact z_arm K hK j hj
theorem y_z_capacity (hK : WK K) (hS : kS K = S) (hj : j < gc S) : Sp 8 0 0 mX10_capacity [vR 0 0, vI (nI j)] (world K) (PoI (gcp S j) (world K)) := by
  subst hS
  exact z_capacity K hK j hj
theorem y_z_water (hK : WK K) (hS : kS K = S) (hj : j < gc S) : Sp 8 0 0 mX10_water [vR 0 0, vI (nI j)] (world K) (PoI (gw S j) (world K)) := by
  subst hS
  exact z_water K hK j hj
theorem y_z_loadOf (hK : WK K) (hS : kS K = S) (hj : j < gc S) : Sp 8 0 0 mX10_loadOf [vR 0 0, vI (nI j)] (world K) (PoI (ldI S j) (world K)) := by
  subst hS
  exact z_loadOf K hK j hj
theorem y_z_wouldPump (hK : WK K) (hS : kS K = S) (hj : j < gc S) : Sp 8 0 0 mX10_wouldPump [vR 0 0, vI (nI j)] (world K) (PoI (b2 (rnB (gu S) (gw S) (gc S) (gpw S) j)) (world K)) := by
  subst hS
  exact z_wouldPump K hK j hj
theorem y_z_idAt (hK : WK K) (hS : kS K = S) (hj : j < gp S) : Sp 8 0 0 mX10_idAt [vR 0 0, vI (nI j)] (world K) (PoI (gid S j) (world K)) := by
  subst hS
  exact z_idAt K hK j hj
theorem y_z_weightOf (hK : WK K) (hS : kS K = S) (hI : IDo S) (hj : j < gp S) : Sp 8 0 0 mX10_weightOf [vR 0 0, vI (gid S j)] (world K) (PoI (gwt S j) (world K)) := by
  subst hS
  have z := z_weightOf K hK (gid (kS K) j) (by rw [hI.pq hj]; exact hj)
  rw [hI.pq hj] at z
  exact z
theorem y_z_compartmentOf (hK : WK K) (hS : kS K = S) (hI : IDo S) (hj : j < gp S) : Sp 8 0 0 mX10_compartmentOf [vR 0 0, vI (gid S j)] (world K) (PoI (gpl S j) (world K)) := by
  subst hS
  have z := z_compartmentOf K hK (gid (kS K) j) (by rw [hI.pq hj]; exact hj)
  rw [hI.pq hj] at z
  exact z
end YZ
abbrev lsJ (tu : Nat) (S : SH) : List (Nat × AV) := [(0, vK 60), (1, vR 0 0), (2, vI (nI tu)), (3, vI (nI (gc S))), (4, vI (nI (gp S))), (6, vI (tmI S))]
theorem nI_m1 {k : Nat} (h : 1 ≤ k) : nI k - 1 = nI (k - 1) := by rw [show (1 : Int32) = nI 1 from rfl, pk_sub h]
theorem fFst_in {p : Nat → Bool} {n : Nat} (h : fst p n < n) : fFst p n = 0 := if_pos h
section PHJ
variable {γ : CX} {tu B : Nat} {S : SH}
set_option maxRecDepth 4000 in
theorem ph_J (X : LX γ) {k0 n0 : Nat} (hk : k0 ≤ 400000) (hn : n0 ≤ 6000000) {K : KS'} (hJ : JK B K) (hS : kS K = S) (h4 : 4 ≤ gc S) {σ : Nat → Nat → Nat}
    (fin : ∀ K', JK B K' → kS K' = S → At γ σ (k0 + 24 * gc S) (n0 + 1400 * gc S) 977 [(0, vK 60), (1, vR 0 0), (2, vI (nI tu)), (3, vI (nI (gc S))), (4, vI (nI (gp S))), (6, vI (tmI S)), (14, vI (nI 0)), (15, vI NO)] [] (world K')) :
    At γ σ k0 n0 881 [(0, vK 60), (1, vR 0 0), (2, vI (nI tu)), (3, vI (nI (gc S))), (4, vI (nI (gp S))), (6, vI (tmI S)), (14, vI (nI 1))] [] (world K) := by
  have hV : VB S := hS ▸ hJ.2.1.1.1.1
  have hW : WF S := hS ▸ hJ.1.1
  have h8 := hW.1
  have loop : ∀ (m k : Nat), k + m = gc S → 1 ≤ k → ∀ K, JK B K → kS K = S → At γ σ (k0 + 24 * k) (n0 + 1400 * k) 881 [(0, vK 60), (1, vR 0 0), (2, vI (nI tu)), (3, vI (nI (gc S))), (4, vI (nI (gp S))), (6, vI (tmI S)), (14, vI (nI k))] [] (world K) := by
    intro m
    induction m with
    | zero =>
      intro k hk1 _ K hJ hS
      have hk1 : k = gc S := by omega
      subst hk1
      refine X.run okK_I [(970, [0, 1, 2, 3, 4, 6])] 60 ?_
      refine ⟨fun _ => ?_, fun h => absurd (nI_le (Nat.le_refl _) (by omega)) h⟩
      refine X.run okK_I [] 60 ?_
      refine X.no okK_I rfl ?_
      refine X.run okK_I [(977, [0, 1, 2, 3, 4, 6, 14, 15])] 60 ?_
      exact fin K hJ hS
    | succ m ih =>
      intro k hk1 h1 K hJ hS
      have ha := lAt_in hV hW (k := k - 1) (by omega)
      have hb := lAt_in hV hW (k := k) (by omega)
      refine X.run okK_I [] 60 ?_
      refine ⟨fun h => absurd h (nI_ge (by omega) (by omega)), fun _ => ?_⟩
      show At γ σ (k0 + 24 * k) (n0 + 1400 * k) 892 [(0, vK 60), (1, vR 0 0), (2, vI (nI tu)), (3, vI (nI (gc S))), (4, vI (nI (gp S))), (6, vI (tmI S)), (14, vI (nI k))] [vI (nI k - 1), vR 0 0] (world K)
      rw [nI_m1 h1]
      refine X.rd0 hJ hS [vI (nI (k - 1))] [] (y_m_compartmentByLoad hJ.1 hS (nI (k - 1))) (fFst_in ha.1) kX10_compartmentByLoad ln_L_103 (X.fit (by decide) (by omega) (by omega)) (dcV okK_I rfl) (fun K1 hJ1 hS1 => ?_)
      refine X.run okK_I [] 60 ?_
      refine X.rd0 hJ1 hS1 [vI (nI k)] [] (y_m_compartmentByLoad hJ1.1 hS1 (nI k)) (fFst_in hb.1) kX10_compartmentByLoad ln_L_103 (X.fit (by decide) (by omega) (by omega)) (dcV okK_I rfl) (fun K2 hJ2 hS2 => ?_)
      obtain ⟨a1, a2⟩ := ha
      obtain ⟨b1, b2'⟩ := hb
      generalize fst (lAt S (nI (k - 1))) (gc S) = a at a1 a2
      generalize fst (lAt S (nI k)) (gc S) = b at b1 b2'
      have hab : lbB S a b = true := rkL_tot hV hW a1 b1 (by omega)
      refine X.run okK_I [] 60 ?_
      refine At.lZ0 [vI (nI a)] [] X.1 (y_z_loadOf hJ2.1 hS2 a1) kX10_loadOf ln_L_192 (X.fit (by decide) (by omega) (by omega)) (dcV okK_I rfl) ?_
      refine X.run okK_I [] 60 ?_
      refine At.lZ0 [vI (nI b)] [vI (ldI S a)] X.1 (y_z_loadOf hJ2.1 hS2 b1) kX10_loadOf ln_L_192 (X.fit (by decide) (by omega) (by omega)) (dcV okK_I rfl) ?_
      refine X.run okK_I [] 60 ?_
      refine At.lZ0 [vI (nI a)] [] X.1 (y_z_water hJ2.1 hS2 a1) kX10_water ln_L_183 (X.fit (by decide) (by omega) (by omega)) (dcV okK_I rfl) ?_
      refine X.run okK_I [] 60 ?_
      refine At.lZ0 [vI (nI b)] [vI (gw S a)] X.1 (y_z_water hJ2.1 hS2 b1) kX10_water ln_L_183 (X.fit (by decide) (by omega) (by omega)) (dcV okK_I rfl) ?_
      have c964 : At γ σ (k0 + 24 * k + 12 + 12) (n0 + 1400 * k + 700 + 700) 964 [(0, vK 60), (1, vR 0 0), (2, vI (nI tu)), (3, vI (nI (gc S))), (4, vI (nI (gp S))), (6, vI (tmI S)), (14, vI (nI k))] [] (world K2) := by
        refine X.run okK_I [(881, [0, 1, 2, 3, 4, 6, 14])] 60 ?_
        have z := ih (k + 1) (by omega) (by omega) K2 hJ2 hS2
        rw [← nI_1] at z
        exact At.wid (by omega) (by omega) z
      refine X.run okK_I [(964, [0, 1, 2, 3, 4, 6, 14])] 60 ?_
      unfold lbB at hab
      rw [Bool.or_eq_true, Bool.and_eq_true, decide_eq_true_iff, decide_eq_true_iff, decide_eq_true_iff] at hab
      by_cases e : ldI S a - ldI S b = 0
      · rw [if_pos e] at hab
        refine ⟨fun q => absurd q (by rw [e]; decide), fun _ => ⟨fun _ => ⟨fun q => ?_, fun _ => ⟨fun w => ⟨fun _ => c964, fun q => ?_⟩, fun _ => c964⟩⟩, fun _ => c964⟩⟩
        · rcases hab with z | z
          · have a := bI_lt z
            have b := bI_lt q
            omega
          · rw [z.1] at q
            exact absurd q (by decide)
        · rcases hab with z | z
          · rw [w] at z
            exact absurd z (by decide)
          · exact absurd (nI_le (by omega) (by omega)) q
      · rw [if_neg e] at hab
        have hab : 0 < ldI S a - ldI S b := by
          rcases hab with z | z
          · exact z
          · exact absurd z.1 e
        refine ⟨fun q => ?_, fun _ => ⟨fun w => absurd w e, fun _ => c964⟩⟩
        have a := bI_lt hab
        have b := bI_lt q
        omega
  exact At.wid (Nat.le_add_right _ _) (Nat.le_add_right _ _) (loop (gc S - 1) 1 (by omega) (Nat.le_refl _) K hJ hS)
/-- the pump behind -/
def wasP (S : SH) (k : Nat) (x : Int32) : Prop := (k = 0 ∧ x = NO) ∨ (0 < k ∧ ∃ w, w < gc S ∧ x = nI w ∧ cpB (gu S) (gw S) w = true ∧ rkP S w = k - 1)
set_option maxRecDepth 4000 in
theorem ph_P (X : LX γ) {k0 n0 : Nat} (hk : k0 ≤ 400000) (hn : n0 ≤ 6000000) {K : KS'} (hJ : JK B K) (hS : kS K = S) {σ : Nat → Nat → Nat}
    (fin : ∀ K', JK B K' → kS K' = S → At γ σ (k0 + 400) (n0 + 20000) 1091 [(0, vK 60), (1, vR 0 0), (2, vI (nI tu)), (3, vI (nI (gc S))), (4, vI (nI (gp S))), (6, vI (tmI S)), (14, vI (nI 0))] [] (world K')) :
    At γ σ k0 n0 977 [(0, vK 60), (1, vR 0 0), (2, vI (nI tu)), (3, vI (nI (gc S))), (4, vI (nI (gp S))), (6, vI (tmI S)), (14, vI (nI 0)), (15, vI NO)] [] (world K) := by
  have hW : WF S := hS ▸ hJ.1.1
  have h8 := hW.1
  have loop : ∀ (m k : Nat), k + m = gc S → ∀ K x, JK B K → kS K = S → wasP S k x → At γ σ (k0 + 36 * k) (n0 + 2100 * k) 977 [(0, vK 60), (1, vR 0 0), (2, vI (nI tu)), (3, vI (nI (gc S))), (4, vI (nI (gp S))), (6, vI (tmI S)), (14, vI (nI k)), (15, vI x)] [] (world K) := by
    intro m
    induction m with
    | zero =>
      intro k hk1 K x hJ hS hx
      have h4 : fFst (pAt S (nI k)) (gc S) = 4 := if_neg fun z => by
        obtain ⟨z1, z2⟩ := pAt_in hW (by omega) z
        have := rkP_end z z1
        omega
      refine X.run okK_J [] 60 ?_
      refine X.rs0 hJ hS [vR 0 0, vI (nI k)] [] (y_w_pumpAt hJ.1 hS (nI k)) kL_pumpAt ln_L_294 (X.fit (by decide) (by omega) (by omega)) (dcS okK_J rfl) (fun K1 hJ1 hS1 => ?_)
      rw [h4, if_neg (by decide), show cdU 4 = NO from rfl]
      refine X.no okK_J rfl ?_
      refine X.run okK_J [(1091, [0, 1, 2, 3, 4, 6, 14])] 60 ?_
      exact ⟨fun _ => At.wid (by omega) (by omega) (fin K1 hJ1 hS1), fun e => absurd rfl e⟩
    | succ m ih =>
      intro k hk1 K x hJ hS hx
      refine X.run okK_J [] 60 ?_
      refine X.rs0 hJ hS [vR 0 0, vI (nI k)] [] (y_w_pumpAt hJ.1 hS (nI k)) kL_pumpAt ln_L_294 (X.fit (by decide) (by omega) (by omega)) (dcS okK_J rfl) (fun K1 hJ1 hS1 => ?_)
      by_cases hp : fst (pAt S (nI k)) (gc S) < gc S
      · have hf0 := fFst_in hp
        obtain ⟨z1, z2⟩ := pAt_in hW (by omega) hp
        rw [hf0, if_pos rfl]
        have nn : nI (fst (pAt S (nI k)) (gc S)) ≠ NO := fun e => by
          have := congrArg Int32.toInt e
          rw [nI_toInt (by omega), show NO.toInt = -3000000 from rfl] at this
          omega
        refine X.no okK_J rfl ?_
        refine X.run okK_J [] 60 ?_
        refine ⟨fun e => absurd e nn, fun _ => ?_⟩
        refine X.rd0 hJ1 hS1 [vI (nI k)] [] (y_m_pumpAt hJ1.1 hS1 (nI k)) hf0 kX10_pumpAt ln_L_69 (X.fit (by decide) (by omega) (by omega)) (dcV okK_J rfl) (fun K2 hJ2 hS2 => ?_)
        have y3 := fun (K' : KS') (hK' : WK K') (hS' : kS K' = S) => y_m_pumpAt hK' hS' (nI k)
        generalize fst (pAt S (nI k)) (gc S) = a at hp z1 z2 y3
        have hwa : ¬ gw S a = 0 := fun e => by
          unfold cpB at z1
          rw [Bool.and_eq_true, decide_eq_true_iff, decide_eq_true_iff] at z1
          rw [e] at z1
          exact absurd z1.2 (by decide)
        refine X.run okK_J [] 60 ?_
        refine At.lZ0 [vI (nI a)] [] X.1 (y_z_water hJ2.1 hS2 hp) kX10_water ln_L_183 (X.fit (by decide) (by omega) (by omega)) (dcV okK_J rfl) ?_
        refine X.run okK_J [] 60 ?_
        refine ⟨fun e => absurd e hwa, fun _ => ?_⟩
        have c1074 : At γ σ (k0 + 36 * k + 24) (n0 + 2100 * k + 1400) 1074 [(0, vK 60), (1, vR 0 0), (2, vI (nI tu)), (3, vI (nI (gc S))), (4, vI (nI (gp S))), (6, vI (tmI S)), (14, vI (nI k)), (15, vI x), (16, vI (nI a))] [] (world K2) := by
          refine X.run okK_J [] 60 ?_
          refine X.rd0 hJ2 hS2 [vI (nI k)] [] (y3 K2 hJ2.1 hS2) hf0 kX10_pumpAt ln_L_69 (X.fit (by decide) (by omega) (by omega)) (dcV okK_J rfl) (fun K3 hJ3 hS3 => ?_)
          refine X.run okK_J [(977, [0, 1, 2, 3, 4, 6, 14, 15])] 60 ?_
          have z := ih (k + 1) (by omega) K3 (nI a) hJ3 hS3 (Or.inr ⟨Nat.succ_pos _, a, hp, rfl, z1, by omega⟩)
          rw [← nI_1] at z
          exact At.wid (by omega) (by omega) z
        have c1049 : At γ σ (k0 + 36 * k + 24) (n0 + 2100 * k + 1400) 1049 [(0, vK 60), (1, vR 0 0), (2, vI (nI tu)), (3, vI (nI (gc S))), (4, vI (nI (gp S))), (6, vI (tmI S)), (14, vI (nI k)), (15, vI x), (16, vI (nI a))] [] (world K2) := by
          refine X.run okK_J [(1074, [0, 1, 2, 3, 4, 6, 14, 15, 16])] 60 ?_
          refine ⟨fun _ => c1074, fun e => ?_⟩
          have hk0 : ¬ k = 0 := fun z => e (by rw [z]; decide)
          obtain ⟨w, hw, rfl, cw, rw'⟩ : ∃ w, w < gc S ∧ x = nI w ∧ cpB (gu S) (gw S) w = true ∧ rkP S w = k - 1 := by
            rcases hx with z | z
            · exact absurd z.1 hk0
            · exact z.2
          refine At.lZ0 [vI (nI a)] [] X.1 (y_z_wouldPump hJ2.1 hS2 hp) kX10_wouldPump ln_L_296 (X.fit (by decide) (by omega) (by omega)) (dcV okK_J rfl) ?_
          refine X.run okK_J [(1074, [0, 1, 2, 3, 4, 6, 14, 15, 16])] 60 ?_
          refine ⟨fun _ => c1074, fun e2 => ?_⟩
          refine At.lZ0 [vI (nI w)] [] X.1 (y_z_wouldPump hJ2.1 hS2 hw) kX10_wouldPump ln_L_296 (X.fit (by decide) (by omega) (by omega)) (dcV okK_J rfl) ?_
          have ra : rnB (gu S) (gw S) (gc S) (gpw S) a = true := by
            rcases Bool.eq_false_or_eq_true (rnB (gu S) (gw S) (gc S) (gpw S) a) with q | q
            · exact q
            · rw [q] at e2
              exact absurd rfl e2
          have rw2 : rnB (gu S) (gw S) (gc S) (gpw S) w = true := by
            unfold rnB at ra ⊢
            rw [Bool.and_eq_true] at ra ⊢
            refine ⟨cw, decide_eq_true ?_⟩
            have q := bI_lt (of_decide_eq_true ra.2)
            rw [Int32.lt_iff_toInt_lt]
            rw [show rkN (gu S) (gw S) a (gc S) = k from z2, nI_toInt (by omega)] at q
            rw [show rkN (gu S) (gw S) w (gc S) = k - 1 from rw', nI_toInt (by omega)]
            omega
          rw [rw2]
          refine X.run okK_J [(1074, [0, 1, 2, 3, 4, 6, 14, 15, 16])] 60 ?_
          exact ⟨fun e => absurd e (by decide), fun _ => c1074⟩
        refine X.no okK_J rfl ?_
        refine X.run okK_J [(1049, [0, 1, 2, 3, 4, 6, 14, 15, 16])] 60 ?_
        refine ⟨fun _ => c1049, fun e => ?_⟩
        obtain ⟨w, hw, rfl, cw, rw'⟩ : ∃ w, w < gc S ∧ x = nI w ∧ cpB (gu S) (gw S) w = true ∧ rkP S w = k - 1 := by
          rcases hx with z | z
          · exact absurd z.2 e
          · exact z.2
        have hk0 : 0 < k := by
          rcases hx with z | z
          · exact absurd z.2 e
          · exact z.1
        have bef := pAt_bef hp z1 (i := w) (by omega) (fun q => by rw [q] at rw'; omega)
        refine At.lZ0 [vI (nI w)] [] X.1 (y_z_water hJ2.1 hS2 hw) kX10_water ln_L_183 (X.fit (by decide) (by omega) (by omega)) (dcV okK_J rfl) ?_
        refine X.run okK_J [] 60 ?_
        refine At.lZ0 [vI (nI a)] [vI (gw S w)] X.1 (y_z_water hJ2.1 hS2 hp) kX10_water ln_L_183 (X.fit (by decide) (by omega) (by omega)) (dcV okK_J rfl) ?_
        refine X.run okK_J [] 60 ?_
        refine ⟨fun q => ?_, fun _ => ?_⟩
        · have := bI_lt q
          omega
        refine At.lZ0 [vI (nI w)] [] X.1 (y_z_water hJ2.1 hS2 hw) kX10_water ln_L_183 (X.fit (by decide) (by omega) (by omega)) (dcV okK_J rfl) ?_
        refine X.run okK_J [] 60 ?_
        refine At.lZ0 [vI (nI a)] [vI (gw S w)] X.1 (y_z_water hJ2.1 hS2 hp) kX10_water ln_L_183 (X.fit (by decide) (by omega) (by omega)) (dcV okK_J rfl) ?_
        refine X.run okK_J [(1049, [0, 1, 2, 3, 4, 6, 14, 15, 16])] 60 ?_
        refine ⟨fun q => ⟨fun q2 => ?_, fun _ => c1049⟩, fun _ => c1049⟩
        have b := bI_lt q2
        rw [nI_toInt (by omega), nI_toInt (by omega)] at b
        rw [q] at bef
        omega
      · rw [show fFst (pAt S (nI k)) (gc S) = 4 from if_neg hp, if_neg (by decide), show cdU 4 = NO from rfl]
        refine X.no okK_J rfl ?_
        refine X.run okK_J [(1091, [0, 1, 2, 3, 4, 6, 14])] 60 ?_
        exact ⟨fun _ => At.wid (by omega) (by omega) (fin K1 hJ1 hS1), fun e => absurd rfl e⟩
  exact loop (gc S) 0 (Nat.zero_add _) K NO hJ hS (Or.inl ⟨rfl, rfl⟩)
end PHJ
