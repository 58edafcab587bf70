/-! ===== the law's turn: its search for the best transfer and the best move ===== -/
theorem abs_M {S : SH} (hV : VB S) (hW : WF S) : ∃ M, M < 2 ^ 30 ∧ absI (tmI S) = nI M := by
  have b := hV.tm hW
  have b1 := b.1
  have b2 := b.2
  by_cases h : 0 ≤ tmI S
  · have h' := bI_le h
    rw [show (0 : Int32).toInt = 0 from rfl] at h'
    refine ⟨(tmI S).toInt.toNat, by omega, ?_⟩
    unfold absI
    rw [if_pos h]
    apply Int32.toInt_inj.mp
    rw [nI_toInt (by omega)]
    omega
  · have h' := bI_lt (Int32.not_le.mp h)
    rw [show (0 : Int32).toInt = 0 from rfl] at h'
    refine ⟨(-(tmI S).toInt).toNat, by omega, ?_⟩
    unfold absI
    rw [if_neg h]
    apply Int32.toInt_inj.mp
    rw [nI_toInt (by omega), Int32.toInt_sub, show (0 : Int32).toInt = 0 from rfl, Int.bmod_eq_of_le (by omega) (by omega)]
    omega
theorem nI_neNO {n : Nat} (h : n < 2 ^ 31) : nI n ≠ NO := fun e => by
  have := congrArg Int32.toInt e
  rw [nI_toInt h, show NO.toInt = -3000000 from rfl] at this
  omega
theorem mv_eq {S : SH} {s t : Nat} {a : Int32} (hs : s < 2 ^ 31) (ht : t < 2 ^ 31) : mvI (gcp S) (gw S) (nI s) (nI t) a = (!(decide (nI s = nI t)) && (decide (a ≤ gw S s) && decide (gw S t + a ≤ gcp S t))) := by
  unfold mvI
  rw [nI_clamp hs, nI_clamp ht]
abbrev tLs (tu : Nat) (S : SH) (q : Nat) (a : Int32) (C : CS) : List (Nat × AV) := [(0, vK 60), (1, vR 0 0), (2, vI (nI tu)), (3, vI (nI (gc S))), (4, vI (nI (gp S))), (6, vI (tmI S)), (14, vI (nI q)), (15, vI a), (16, vI (srC C)), (17, vI (tgC C)), (18, vI (lsM C))]
section PHT
variable {γ : CX} {tu B : Nat} {S : SH}
set_option maxRecDepth 4000 in
/-- the inner loop -/
theorem ph_T1 (X : LX γ) {k n : Nat} (hk : k ≤ 500000) (hn : n ≤ 7000000) {K : KS'} (hJ : JK B K) (hS : kS K = S) {q : Nat} {a : Int32} {s : Nat} (hs : s < gc S) {C : CS} (hC : CIm S a (tmI S) C) {σ : Nat → Nat → Nat}
    (fin : At γ σ k n 1255 (tLs tu S q a (tIn (gcp S) (gw S) (gar S) a (tmI S) s C (gc S)) ++ [(19, vI (nI s))]) [] (world K)) :
    At γ σ k n 1151 (tLs tu S q a C ++ [(19, vI (nI s)), (20, vI (nI 0))]) [] (world K) := by
  have hW : WF S := hS ▸ hJ.1.1
  have h8 := hW.1
  have loop : ∀ (m t : Nat), t + m = gc S → At γ σ k n 1151 (tLs tu S q a (tIn (gcp S) (gw S) (gar S) a (tmI S) s C t) ++ [(19, vI (nI s)), (20, vI (nI t))]) [] (world K) := by
    intro m
    induction m with
    | zero =>
      intro t ht
      have ht : t = gc S := by omega
      subst ht
      refine X.run okK_K [(1255, [0, 1, 2, 3, 4, 6, 14, 15, 16, 17, 18, 19])] 60 ?_
      exact ⟨fun _ => fin, fun h => absurd (nI_le (Nat.le_refl _) (by omega)) h⟩
    | succ m ih =>
      intro t ht
      have htc : t < gc S := by omega
      have hD := CIm_in hs hC t (by omega)
      have hst : tIn (gcp S) (gw S) (gar S) a (tmI S) s C (t + 1) = if mvI (gcp S) (gw S) (nI s) (nI t) a = true then offS (tIn (gcp S) (gw S) (gar S) a (tmI S) s C t) (nI s) (nI t) (tmI S + a * (gar S t - gar S s)) else tIn (gcp S) (gw S) (gar S) a (tmI S) s C t := rfl
      have nx := ih (t + 1) (by omega)
      rw [hst, ← nI_1] at nx
      generalize tIn (gcp S) (gw S) (gar S) a (tmI S) s C t = D at hD nx
      rw [mv_eq (by omega) (by omega)] at nx
      have no : ¬ ((!(decide (nI s = nI t)) && (decide (a ≤ gw S s) && decide (gw S t + a ≤ gcp S t))) = true) → At γ σ k n 1249 (tLs tu S q a D ++ [(19, vI (nI s)), (20, vI (nI t))]) [] (world K) := fun h => by
        rw [if_neg h] at nx
        refine X.run okK_K [(1151, [0, 1, 2, 3, 4, 6, 14, 15, 16, 17, 18, 19, 20])] 60 ?_
        exact nx
      refine X.run okK_K [] 60 ?_
      refine ⟨fun h => absurd h (nI_ge (by omega) (by omega)), fun _ => ?_⟩
      refine At.lZ0 [vI (nI t)] [vI a, vI (tmI S)] X.1 (y_z_arm hJ.1 hS htc) kX10_arm ln_L_222 (X.fit (by decide) (by omega) (by omega)) (dcV okK_K rfl) ?_
      refine X.run okK_K [] 60 ?_
      refine At.lZ0 [vI (nI s)] [vI (gar S t), vI a, vI (tmI S)] X.1 (y_z_arm hJ.1 hS hs) kX10_arm ln_L_222 (X.fit (by decide) (by omega) (by omega)) (dcV okK_K rfl) ?_
      refine X.run okK_K [(1249, [0, 1, 2, 3, 4, 6, 14, 15, 16, 17, 18, 19, 20])] 60 ?_
      refine ⟨fun e => no (by rw [decide_eq_true e, Bool.not_true, Bool.false_and]; decide), fun e1 => ?_⟩
      refine At.lZ0 [vI (nI s)] [] X.1 (y_z_water hJ.1 hS hs) kX10_water ln_L_183 (X.fit (by decide) (by omega) (by omega)) (dcV okK_K rfl) ?_
      refine X.run okK_K [(1249, [0, 1, 2, 3, 4, 6, 14, 15, 16, 17, 18, 19, 20])] 60 ?_
      refine ⟨fun e => no (by rw [decide_eq_false (Int32.not_le.mpr e), Bool.false_and, Bool.and_false]; decide), fun e2 => ?_⟩
      refine At.lZ0 [vI (nI t)] [] X.1 (y_z_water hJ.1 hS htc) kX10_water ln_L_183 (X.fit (by decide) (by omega) (by omega)) (dcV okK_K rfl) ?_
      refine X.run okK_K [] 60 ?_
      refine At.lZ0 [vI (nI t)] [vI (gw S t + a)] X.1 (y_z_capacity hJ.1 hS htc) kX10_capacity ln_L_189 (X.fit (by decide) (by omega) (by omega)) (dcV okK_K rfl) ?_
      refine X.run okK_K [(1249, [0, 1, 2, 3, 4, 6, 14, 15, 16, 17, 18, 19, 20])] 60 ?_
      refine ⟨fun e => no (by rw [decide_eq_false (Int32.not_le.mpr e), Bool.and_false, Bool.and_false]; decide), fun e3 => ?_⟩
      have hmv : (!(decide (nI s = nI t)) && (decide (a ≤ gw S s) && decide (gw S t + a ≤ gcp S t))) = true := by
        rw [decide_eq_false e1, decide_eq_true (Int32.not_lt.mp e2), decide_eq_true (Int32.not_lt.mp e3)]; rfl
      rw [if_pos hmv] at nx
      have c1237 : (D.1 = 0 ∨ absI (tmI S + a * (gar S t - gar S s)) < absI D.2.2.2) → At γ σ k n 1237 (tLs tu S q a D ++ [(19, vI (nI s)), (20, vI (nI t)), (21, vI (tmI S + a * (gar S t - gar S s)))]) [] (world K) := fun h => by
        have ho : offS D (nI s) (nI t) (tmI S + a * (gar S t - gar S s)) = (1, nI s, nI t, tmI S + a * (gar S t - gar S s)) := if_pos h
        rw [ho] at nx
        refine X.run okK_K [(1151, [0, 1, 2, 3, 4, 6, 14, 15, 16, 17, 18, 19, 20])] 60 ?_
        exact nx
      refine X.no okK_K rfl ?_
      refine X.run okK_K [(1237, [0, 1, 2, 3, 4, 6, 14, 15, 16, 17, 18, 19, 20, 21])] 60 ?_
      refine ⟨fun e => c1237 (Or.inl ?_), fun e => ?_⟩
      · rcases hD with z | ⟨s', t', h1, h2, h3, h4, h5⟩
        · exact z
        · by_cases w : D.1 = 0
          · exact w
          · unfold srC at e
            rw [if_neg w, h3] at e
            exact absurd e (nI_neNO (by omega))
      · have hD0 : ¬ D.1 = 0 := fun z => e (by unfold srC; rw [if_pos z])
        refine At.mabs X.1 kabs ln_L_300 (X.fit (by decide) (by omega) (by omega)) (Nat.le_of_ble_eq_true rfl) (dcS okK_K rfl) ?_
        refine X.run okK_K [] 60 ?_
        refine At.mabs X.1 kabs ln_L_300 (X.fit (by decide) (by omega) (by omega)) (Nat.le_of_ble_eq_true rfl) (dcS okK_K rfl) ?_
        have hl : lsM D = D.2.2.2 := if_neg hD0
        refine X.run okK_K [(1237, [0, 1, 2, 3, 4, 6, 14, 15, 16, 17, 18, 19, 20, 21]), (1249, [0, 1, 2, 3, 4, 6, 14, 15, 16, 17, 18, 19, 20])] 60 ?_
        refine ⟨fun e4 => c1237 (Or.inr ?_), fun e4 => ?_⟩
        · have e4 : absI (tmI S + a * (gar S t - gar S s)) < absI (lsM D) := e4
          rw [hl] at e4
          exact e4
        · have e4 : ¬ absI (tmI S + a * (gar S t - gar S s)) < absI (lsM D) := e4
          rw [hl] at e4
          have ho : offS D (nI s) (nI t) (tmI S + a * (gar S t - gar S s)) = D := if_neg (fun z => z.elim hD0 e4)
          rw [ho] at nx
          refine X.run okK_K [(1151, [0, 1, 2, 3, 4, 6, 14, 15, 16, 17, 18, 19, 20])] 60 ?_
          exact nx
  exact loop (gc S) 0 (Nat.zero_add _)
/-- the outer loop -/
theorem ph_T2 (X : LX γ) {k n : Nat} (hk : k ≤ 500000) (hn : n ≤ 7000000) {K : KS'} (hJ : JK B K) (hS : kS K = S) {q : Nat} {a : Int32} {σ : Nat → Nat → Nat}
    (fin : At γ σ k n 1261 (tLs tu S q a (bS S a (tmI S) C00)) [] (world K)) :
    At γ σ k n 1142 (tLs tu S q a C00 ++ [(19, vI (nI 0))]) [] (world K) := by
  have hW : WF S := hS ▸ hJ.1.1
  have h8 := hW.1
  have loop : ∀ (m s : Nat), s + m = gc S → At γ σ k n 1142 (tLs tu S q a (tOut (gcp S) (gw S) (gar S) a (tmI S) (gc S) C00 s) ++ [(19, vI (nI s))]) [] (world K) := by
    intro m
    induction m with
    | zero =>
      intro s hs
      have hs : s = gc S := by omega
      subst hs
      refine X.run okK_K [(1261, [0, 1, 2, 3, 4, 6, 14, 15, 16, 17, 18])] 60 ?_
      exact ⟨fun _ => fin, fun h => absurd (nI_le (Nat.le_refl _) (by omega)) h⟩
    | succ m ih =>
      intro s hs
      have hC := CIm_out (S := S) (a := a) (bf := tmI S) (C := C00) (Or.inl rfl) s (by omega)
      refine X.run okK_K [(1151, [0, 1, 2, 3, 4, 6, 14, 15, 16, 17, 18, 19, 20])] 60 ?_
      refine ⟨fun h => absurd h (nI_ge (by omega) (by omega)), fun _ => ?_⟩
      refine ph_T1 X hk hn hJ hS (by omega) hC ?_
      have nx := ih (s + 1) (by omega)
      rw [← nI_1] at nx
      refine X.run okK_K [(1142, [0, 1, 2, 3, 4, 6, 14, 15, 16, 17, 18, 19])] 60 ?_
      exact nx
  exact loop (gc S) 0 (Nat.zero_add _)
set_option maxRecDepth 4000 in
/-- four amounts -/
theorem ph_T (X : LX γ) {k0 n0 : Nat} (hk : k0 ≤ 400000) (hn : n0 ≤ 6000000) {K : KS'} (hJ : JK B K) (hS : kS K = S) (htu : tu < 3) {σ : Nat → Nat → Nat}
    (fin : ∀ K', JK B K' → kS K' = S → At γ σ (k0 + 72 * 4) (n0 + 4200 * 4) 1348 (lsJ tu S) [] (world K')) :
    At γ σ k0 n0 1091 [(0, vK 60), (1, vR 0 0), (2, vI (nI tu)), (3, vI (nI (gc S))), (4, vI (nI (gp S))), (6, vI (tmI S)), (14, vI (nI 0))] [] (world K) := by
  have hV : VB S := hS ▸ hJ.2.1.1.1.1
  have hW : WF S := hS ▸ hJ.1.1
  have h8 := hW.1
  obtain ⟨M, hM1, hM2⟩ := abs_M hV hW
  have loop : ∀ (m q : Nat), q + m = 4 → ∀ K, JK B K → kS K = S → At γ σ (k0 + 72 * q) (n0 + 4200 * q) 1091 [(0, vK 60), (1, vR 0 0), (2, vI (nI tu)), (3, vI (nI (gc S))), (4, vI (nI (gp S))), (6, vI (tmI S)), (14, vI (nI q))] [] (world K) := by
    intro m
    induction m with
    | zero =>
      intro q hq K hJ hS
      have hq : q = 4 := by omega
      subst hq
      refine X.run okK_K [(1348, [0, 1, 2, 3, 4, 6])] 60 ?_
      exact ⟨fun _ => fin K hJ hS, fun h => absurd (by decide) h⟩
    | succ m ih =>
      intro q hq K hJ hS
      have eK : k0 + 72 * q + 72 = k0 + 72 * (q + 1) := by rw [Nat.mul_succ, Nat.add_assoc]
      have eN : n0 + 4200 * q + 4200 = n0 + 4200 * (q + 1) := by rw [Nat.mul_succ, Nat.add_assoc]
      -- the amount
      have amt : ∀ j, 1 ≤ j → j ≤ 200 → At γ σ (k0 + 72 * q) (n0 + 4200 * q) 1125 [(0, vK 60), (1, vR 0 0), (2, vI (nI tu)), (3, vI (nI (gc S))), (4, vI (nI (gp S))), (6, vI (tmI S)), (14, vI (nI q))] [vI (nI j)] (world K) := by
        intro j j1 j2
        have ha := amt_ok j1 j2
        refine X.run okK_K [] 60 ?_
        refine X.no okK_K rfl ?_
        refine X.run okK_K [] 60 ?_
        refine X.no okK_K rfl ?_
        refine X.run okK_K [] 60 ?_
        refine X.no okK_K rfl ?_
        refine X.run okK_K [(1142, [0, 1, 2, 3, 4, 6, 14, 15, 16, 17, 18, 19])] 60 ?_
        refine ph_T2 X (by omega) (by omega) hJ hS ?_
        -- the answers
        have wT : SpH hL_transfersToBalance 13 12 700 mL_transfersToBalance [vR 0 0, vI (nI j)] (world K) (PoU (fTB K (nI j)) (nI ((tbK K (nI j)).getD 0)) K K) := w_transfersToBalance K hJ.1 (nI j) ⟨M, hM1, by rw [hS]; exact hM2⟩
        obtain ⟨tv1, tv2, tv3⟩ := tv_facts hS ha hM1 hM2
        refine X.run okK_K [] 60 ?_
        refine X.rs0 hJ hS [vR 0 0, vI (nI j)] [] wT kL_transfersToBalance ln_L_305 (X.fit (by decide) (by omega) (by omega)) (dcS okK_K rfl) (fun K1 hJ1 hS1 => ?_)
        rw [show (if fTB K (nI j) = 0 then nI ((tbK K (nI j)).getD 0) else cdU (fTB K (nI j))) = tvN K (nI j) from rfl]
        generalize tvN K (nI j) = tv at tv1 tv2 tv3
        refine X.run okK_K [] 60 ?_
        refine X.rs0 hJ1 hS1 [vR 0 0, vI (nI j)] [] (y_w_bestSource hJ1.1 hS1 (nI j)) kL_bestSource ln_L_307 (X.fit (by decide) (by omega) (by omega)) (dcS okK_K rfl) (fun K2 hJ2 hS2 => ?_)
        rw [bt_val ha, show (if (bS S (nI j) (tmI S) (kC K1)).1 = 0 then NO else (bS S (nI j) (tmI S) (kC K1)).2.1) = srC (bS S (nI j) (tmI S) C00) from (eqC_bS S (nI j) (tmI S) (kC K1) C00).sr]
        refine X.run okK_K [] 60 ?_
        refine ⟨fun _ => ?_, fun e => absurd rfl e⟩
        refine X.rs0 hJ2 hS2 [vR 0 0, vI (nI j)] [] (y_w_bestTarget hJ2.1 hS2 (nI j)) kL_bestTarget ln_L_309 (X.fit (by decide) (by omega) (by omega)) (dcS okK_K rfl) (fun K3 hJ3 hS3 => ?_)
        rw [bt_val ha, show (if (bS S (nI j) (tmI S) (kC K2)).1 = 0 then NO else (bS S (nI j) (tmI S) (kC K2)).2.2.1) = tgC (bS S (nI j) (tmI S) C00) from (eqC_bS S (nI j) (tmI S) (kC K2) C00).tg]
        refine X.run okK_K [] 60 ?_
        refine ⟨fun _ => ?_, fun e => absurd rfl e⟩
        refine X.rs0 hJ3 hS3 [vR 0 0, vI (nI j)] [] (y_w_bestMoment hJ3.1 hS3 (nI j)) kL_bestMoment ln_L_311 (X.fit (by decide) (by omega) (by omega)) (dcS okK_K rfl) (fun K4 hJ4 hS4 => ?_)
        rw [bt_val ha, show (if (bS S (nI j) (tmI S) (kC K3)).1 = 0 then NO else (bS S (nI j) (tmI S) (kC K3)).2.2.2) = lsM (bS S (nI j) (tmI S) C00) from (eqC_bS S (nI j) (tmI S) (kC K3) C00).ls]
        refine X.run okK_K [] 60 ?_
        refine ⟨fun _ => ?_, fun e => absurd rfl e⟩
        refine X.rd0 hJ4 hS4 [] [] (y_m_isBalanced hJ4.1 hS4) rfl kX10_isBalanced ln_L_313 (X.fit (by decide) (by omega) (by omega)) (dcV okK_K rfl) (fun K5 hJ5 hS5 => ?_)
        have nx : ∀ (k n : Nat) (K : KS'), k ≤ k0 + 72 * q + 72 → n ≤ n0 + 4200 * q + 4200 → JK B K → kS K = S → At γ σ k n 1342 [(0, vK 60), (1, vR 0 0), (2, vI (nI tu)), (3, vI (nI (gc S))), (4, vI (nI (gp S))), (6, vI (tmI S)), (14, vI (nI q))] [] (world K) := by
          intro k n K hk hn hJ hS
          refine X.run okK_K [(1091, [0, 1, 2, 3, 4, 6, 14])] 60 ?_
          show At γ σ k n 1091 [(0, vK 60), (1, vR 0 0), (2, vI (nI tu)), (3, vI (nI (gc S))), (4, vI (nI (gp S))), (6, vI (tmI S)), (14, vI (nI q + 1))] [] (world K)
          rw [nI_1]
          exact At.wid (k2 := k0 + 72 * (q + 1)) (n2 := n0 + 4200 * (q + 1)) (eK ▸ hk) (eN ▸ hn) (ih (q + 1) (by omega) K hJ hS)
        rw [show (decide (absI (trimI (tmI S) (twI S)) ≤ glm S)) = balB S from rfl]
        have c1319 : (∀ e : balB S = false, tv ≠ 0 ∧ (srC (bS S (nI j) (tmI S) C00) = NO → tv = NO)) → At γ σ (k0 + 72 * q + 60) (n0 + 4200 * q + 3500) 1319 (tLs tu S q (nI j) (bS S (nI j) (tmI S) C00) ++ [(19, vI tv)]) [] (world K5) := by
          intro hb
          refine X.run okK_K [] 60 ?_
          refine X.rd0 hJ5 hS5 [] [] (y_m_isBalanced hJ5.1 hS5) rfl kX10_isBalanced ln_L_313 (X.fit (by decide) (by omega) (by omega)) (dcV okK_K rfl) (fun K6 hJ6 hS6 => ?_)
          rw [show (decide (absI (trimI (tmI S) (twI S)) ≤ glm S)) = balB S from rfl]
          have n6 := nx (k0 + 72 * q + 60 + 12) (n0 + 4200 * q + 3500 + 700) K6 (by omega) (by omega) hJ6 hS6
          refine X.run okK_K [(1342, [0, 1, 2, 3, 4, 6, 14])] 60 ?_
          refine ⟨fun e => ?_, fun e => n6⟩
          have hbf : balB S = false := by
            rcases Bool.eq_false_or_eq_true (balB S) with z | z
            · rw [z] at e
              exact absurd e (by decide)
            · exact z
          obtain ⟨h1, h2⟩ := hb hbf
          refine X.no okK_K rfl ?_
          refine X.run okK_K [(1342, [0, 1, 2, 3, 4, 6, 14])] 60 ?_
          refine ⟨fun e2 => ?_, fun e2 => n6⟩
          refine X.no okK_K rfl ?_
          refine X.run okK_K [(1342, [0, 1, 2, 3, 4, 6, 14])] 60 ?_
          exact ⟨fun _ => n6, fun e3 => absurd (h2 e2) e3⟩
        refine X.run okK_K [(1319, [0, 1, 2, 3, 4, 6, 14, 15, 16, 17, 18, 19])] 60 ?_
        rcases Bool.eq_false_or_eq_true (balB S) with hb | hb
        · have t0 := tv1 hb
          have c := c1319 (fun z => by rw [hb] at z; cases z)
          rw [hb]
          exact ⟨fun _ => ⟨fun _ => c, fun e => absurd rfl e⟩, fun e => absurd t0 e⟩
        · have t0 := tv2 hb
          have c := c1319 (fun _ => ⟨t0, fun e => tv3 hb (by
            by_cases w : (bS S (nI j) (tmI S) C00).1 = 0
            · exact w
            · unfold srC at e
              rw [if_neg w] at e
              rcases CIm_bst S (nI j) (tmI S) C00 with z | ⟨s', t', h1, h2, h3, h4, h5⟩
              · exact z
              · rw [h3] at e
                exact absurd e (nI_neNO (by omega)))⟩)
          rw [hb]
          exact ⟨fun e => absurd e t0, fun _ => ⟨fun _ => c, fun e => absurd rfl e⟩⟩
      have e100 : 100 + 4 * nI tu + nI q = nI (100 + 4 * tu + q) := by rw [show (4 : Int32) = nI 4 from rfl, nI_mul, show (100 : Int32) = nI 100 from rfl, nI_add, nI_add]
      have c1121 : ∀ m, 0 < m → m ≤ 200 → At γ σ (k0 + 72 * q) (n0 + 4200 * q) 1121 [(0, vK 60), (1, vR 0 0), (2, vI (nI tu)), (3, vI (nI (gc S))), (4, vI (nI (gp S))), (6, vI (tmI S)), (14, vI (nI q))] [vI (nI m), vI (100 + 4 * nI tu + nI q), vK 60, vI 1] (world K) := by
        intro m m1 m2
        rw [e100]
        refine At.sI [vK 60, vI (nI (100 + 4 * tu + q)), vI (nI m)] [vI 1] X.1 (s_some (100 + 4 * tu + q) m (by omega) m1 (by omega)) kL_some ln_L_112 (X.fit (by decide) (by omega) (by omega)) (dcS okK_K rfl) (fun x hx => ?_)
        obtain ⟨j, hj, rfl⟩ := hx
        refine X.run okK_K [(1125, [0, 1, 2, 3, 4, 6, 14])] 60 ?_
        show At γ σ (k0 + 72 * q) (n0 + 4200 * q) 1125 [(0, vK 60), (1, vR 0 0), (2, vI (nI tu)), (3, vI (nI (gc S))), (4, vI (nI (gp S))), (6, vI (tmI S)), (14, vI (nI q))] [vI (1 + nI j)] (world K)
        rw [show (1 : Int32) + nI j = nI (1 + j) from by rw [show (1 : Int32) = nI 1 from rfl, nI_add]]
        exact amt (1 + j) (by omega) (by omega)
      refine X.run okK_K [(1121, [0, 1, 2, 3, 4, 6, 14])] 60 ?_
      refine ⟨fun h => absurd h (nI_ge (a := q) (b := 4) (by omega) (by decide)), fun _ => ⟨fun _ => c1121 200 (by decide) (by decide), fun _ => c1121 20 (by decide) (by decide)⟩⟩
  exact loop 4 0 rfl K hJ hS
end PHT
