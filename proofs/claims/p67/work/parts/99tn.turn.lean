/-! ===== the law's turn: the best move of a piece; the turn; the loop ===== -/
def HIv (S : SH) (C : CS) : Prop := C.1 = 0 ∨ ∃ k, k < gp S ∧ C.2.1 = gid S k
theorem HIv_in {S : SH} {k : Nat} (hk : k < gp S) {C : CS} (h : HIv S C) : ∀ t, HIv S (hIn S k C t)
  | 0 => h
  | t + 1 => by
    unfold hIn
    split
    · exact HIv_in hk h t
    · unfold offS
      split
      · exact Or.inr ⟨k, hk, rfl⟩
      · exact HIv_in hk h t
theorem HIv_out {S : SH} {C : CS} (h : HIv S C) : ∀ k, k ≤ gp S → HIv S (hOut S C k)
  | 0, _ => h
  | k + 1, hk => HIv_in (by omega) (HIv_out h k (by omega)) _
abbrev sLs (tu : Nat) (S : SH) (C : CS) : List (Nat × AV) := [(0, vK 60), (1, vR 0 0), (2, vI (nI tu)), (3, vI (nI (gc S))), (4, vI (nI (gp S))), (6, vI (tmI S)), (14, vI (srC C)), (15, vI (tgC C)), (16, vI (smC C))]
theorem bh_val {S : SH} {x : Int32} {C : CS} : (if fBS S C = 0 then x else cdU (fBS S C)) = if (bstH S C).1 = 0 then NO else x := by
  unfold fBS
  by_cases h : (bstH S C).1 = 0
  · rw [if_pos h, if_pos h, if_neg (by decide)]; rfl
  · rw [if_neg h, if_neg h, if_pos rfl]
section PHS
variable {γ : CX} {tu B : Nat} {S : SH}
set_option maxRecDepth 4000 in
theorem ph_S1 (X : LX γ) {k n : Nat} (hk : k ≤ 500000) (hn : n ≤ 7000000) {K : KS'} (hJ : JK B K) (hS : kS K = S) {p : Nat} (hp : p < gp S) {C : CS} (hC : HIv S C) {σ : Nat → Nat → Nat}
    (fin : At γ σ k n 1465 (sLs tu S (hIn S p C (gc S)) ++ [(17, vI (nI p))]) [] (world K)) :
    At γ σ k n 1373 (sLs tu S C ++ [(17, vI (nI p)), (18, vI (nI 0))]) [] (world K) := by
  have hW : WF S := hS ▸ hJ.1.1
  have hG : GJ B S := hS ▸ hJ.2.1
  have hI := hG.2.2.1
  have h8 := hW.1
  obtain ⟨c, hc, ec⟩ := hW.2.2.2.2.2 p hp
  have loop : ∀ (m t : Nat), t + m = gc S → At γ σ k n 1373 (sLs tu S (hIn S p C t) ++ [(17, vI (nI p)), (18, vI (nI t))]) [] (world K) := by
    intro m
    induction m with
    | zero =>
      intro t ht
      have ht : t = gc S := by omega
      subst ht
      refine X.run okK_M [(1465, [0, 1, 2, 3, 4, 6, 14, 15, 16, 17])] 60 ?_
      exact ⟨fun _ => fin, fun h => absurd (nI_le (Nat.le_refl _) (by omega)) h⟩
    | succ m ih =>
      intro t ht
      have htc : t < gc S := by omega
      have hD := HIv_in hp hC t
      have hst : hIn S p C (t + 1) = if nI t = gpl S p then hIn S p C t else offS (hIn S p C t) (gid S p) (nI t) (tmI S + gwt S p * (gar S t - gar S (gpl S p).toNatClampNeg)) := rfl
      have nx := ih (t + 1) (by omega)
      rw [hst, ec, nI_clamp (by omega), ← nI_1] at nx
      generalize hIn S p C t = D at hD nx
      have zC : Sp 8 0 0 mX10_compartmentOf [vR 0 0, vI (gid S p)] (world K) (PoI (nI c) (world K)) := by
        have z := y_z_compartmentOf hJ.1 hS hI hp
        rw [ec] at z
        exact z
      refine X.run okK_M [] 60 ?_
      refine ⟨fun h => absurd h (nI_ge (by omega) (by omega)), fun _ => ?_⟩
      refine At.lZ0 [vI (nI p)] [] X.1 (y_z_idAt hJ.1 hS hp) kX10_idAt ln_L_75 (X.fit (by decide) (by omega) (by omega)) (dcV okK_M rfl) ?_
      refine X.run okK_M [] 60 ?_
      refine At.lZ0 [vI (gid S p)] [vI (tmI S)] X.1 (y_z_weightOf hJ.1 hS hI hp) kX10_weightOf ln_L_177 (X.fit (by decide) (by omega) (by omega)) (dcV okK_M rfl) ?_
      refine X.run okK_M [] 60 ?_
      refine At.lZ0 [vI (nI t)] [vI (gwt S p), vI (tmI S)] X.1 (y_z_arm hJ.1 hS htc) kX10_arm ln_L_222 (X.fit (by decide) (by omega) (by omega)) (dcV okK_M rfl) ?_
      refine X.run okK_M [] 60 ?_
      refine At.lZ0 [vI (gid S p)] [vR 0 0, vI (gar S t), vI (gwt S p), vI (tmI S)] X.1 zC kX10_compartmentOf ln_L_180 (X.fit (by decide) (by omega) (by omega)) (dcV okK_M rfl) ?_
      refine At.lZ0 [vI (nI c)] [vI (gar S t), vI (gwt S p), vI (tmI S)] X.1 (y_z_arm hJ.1 hS hc) kX10_arm ln_L_222 (X.fit (by decide) (by omega) (by omega)) (dcV okK_M rfl) ?_
      refine X.run okK_M [] 60 ?_
      refine At.mabs X.1 kabs ln_L_300 (X.fit (by decide) (by omega) (by omega)) (Nat.le_of_ble_eq_true rfl) (dcS okK_M rfl) ?_
      rw [show (if 0 ≤ tmI S + gwt S p * (gar S t - gar S c) then tmI S + gwt S p * (gar S t - gar S c) else 0 - (tmI S + gwt S p * (gar S t - gar S c))) = absI (tmI S + gwt S p * (gar S t - gar S c)) from rfl]
      refine X.run okK_M [] 60 ?_
      refine At.lZ0 [vI (gid S p)] [vI (nI t)] X.1 zC kX10_compartmentOf ln_L_180 (X.fit (by decide) (by omega) (by omega)) (dcV okK_M rfl) ?_
      refine X.run okK_M [(1459, [0, 1, 2, 3, 4, 6, 14, 15, 16, 17, 18])] 60 ?_
      refine ⟨fun e => ?_, fun e1 => ?_⟩
      · rw [if_pos e] at nx
        refine X.run okK_M [(1373, [0, 1, 2, 3, 4, 6, 14, 15, 16, 17, 18])] 60 ?_
        exact nx
      rw [if_neg e1] at nx
      have c1447 : (D.1 = 0 ∨ absI (tmI S + gwt S p * (gar S t - gar S c)) < absI D.2.2.2) → At γ σ k n 1447 (sLs tu S D ++ [(17, vI (nI p)), (18, vI (nI t)), (19, vI (gid S p)), (20, vI (absI (tmI S + gwt S p * (gar S t - gar S c))))]) [] (world K) := fun h => by
        have ho : offS D (gid S p) (nI t) (tmI S + gwt S p * (gar S t - gar S c)) = (1, gid S p, nI t, tmI S + gwt S p * (gar S t - gar S c)) := if_pos h
        rw [ho] at nx
        refine X.run okK_M [(1373, [0, 1, 2, 3, 4, 6, 14, 15, 16, 17, 18])] 60 ?_
        exact nx
      refine X.no okK_M rfl ?_
      refine X.run okK_M [(1447, [0, 1, 2, 3, 4, 6, 14, 15, 16, 17, 18, 19, 20]), (1459, [0, 1, 2, 3, 4, 6, 14, 15, 16, 17, 18])] 60 ?_
      refine ⟨fun e => c1447 (Or.inl ?_), fun e => ?_⟩
      · rcases hD with z | ⟨k', h1, h2⟩
        · exact z
        · by_cases w : D.1 = 0
          · exact w
          · unfold srC at e
            rw [if_neg w, h2] at e
            exact absurd e (hG.neNO h1)
      · have hD0 : ¬ D.1 = 0 := fun z => e (by unfold srC; rw [if_pos z])
        have hl : smC D = absI D.2.2.2 := if_neg hD0
        refine ⟨fun e4 => c1447 (Or.inr ?_), fun e4 => ?_⟩
        · rw [hl] at e4
          exact e4
        · rw [hl] at e4
          have ho : offS D (gid S p) (nI t) (tmI S + gwt S p * (gar S t - gar S c)) = D := if_neg (fun z => z.elim hD0 e4)
          rw [ho] at nx
          refine X.run okK_M [(1373, [0, 1, 2, 3, 4, 6, 14, 15, 16, 17, 18])] 60 ?_
          exact nx
  exact loop (gc S) 0 (Nat.zero_add _)
set_option maxRecDepth 4000 in
theorem ph_S (X : LX γ) {k0 n0 : Nat} (hk : k0 ≤ 400000) (hn : n0 ≤ 6000000) {K : KS'} (hJ : JK B K) (hS : kS K = S) {σ : Nat → Nat → Nat}
    (fin : ∀ K', JK B K' → kS K' = S → At γ σ (k0 + 24) (n0 + 1400) 1491 [(0, vK 60), (1, vR 0 0), (2, vI (nI tu))] [] (world K')) :
    At γ σ k0 n0 1348 (lsJ tu S) [] (world K) := by
  have hW : WF S := hS ▸ hJ.1.1
  have h16 := hW.2.1
  have loop : ∀ (m p : Nat), p + m = gp S → At γ σ k0 n0 1363 (sLs tu S (hOut S C00 p) ++ [(17, vI (nI p))]) [] (world K) := by
    intro m
    induction m with
    | zero =>
      intro p hp
      have hp : p = gp S := by omega
      subst hp
      refine X.run okK_M [(1471, [0, 1, 2, 3, 4, 6, 14, 15, 16])] 60 ?_
      refine ⟨fun _ => ?_, fun h => absurd (nI_le (Nat.le_refl _) (by omega)) h⟩
      refine X.run okK_M [] 60 ?_
      refine X.rs0 hJ hS [vR 0 0] [] (y_w_bestShiftPiece hJ.1 hS) kL_bestShiftPiece ln_L_316 (X.fit (by decide) (by omega) (by omega)) (dcS okK_M rfl) (fun K1 hJ1 hS1 => ?_)
      rw [bh_val, show (if (bstH S (kC K)).1 = 0 then NO else (bstH S (kC K)).2.1) = srC (hOut S C00 (gp S)) from (eqC_bH S (kC K) C00).sr]
      refine X.run okK_M [] 60 ?_
      refine ⟨fun _ => ?_, fun e => absurd rfl e⟩
      refine X.rs0 hJ1 hS1 [vR 0 0] [] (y_w_bestShiftCompartment hJ1.1 hS1) kL_bestShiftCompartment ln_L_318 (X.fit (by decide) (by omega) (by omega)) (dcS okK_M rfl) (fun K2 hJ2 hS2 => ?_)
      rw [bh_val, show (if (bstH S (kC K1)).1 = 0 then NO else (bstH S (kC K1)).2.2.1) = tgC (hOut S C00 (gp S)) from (eqC_bH S (kC K1) C00).tg]
      refine X.run okK_M [(1491, [0, 1, 2])] 60 ?_
      exact ⟨fun _ => At.wid (by omega) (by omega) (fin K2 hJ2 hS2), fun e => absurd rfl e⟩
    | succ m ih =>
      intro p hp
      have hC := HIv_out (S := S) (C := C00) (Or.inl rfl) p (by omega)
      refine X.run okK_M [(1373, [0, 1, 2, 3, 4, 6, 14, 15, 16, 17, 18])] 60 ?_
      refine ⟨fun h => absurd h (nI_ge (by omega) (by omega)), fun _ => ?_⟩
      refine ph_S1 X (by omega) (by omega) hJ hS (by omega) hC ?_
      have nx := ih (p + 1) (by omega)
      rw [← nI_1] at nx
      refine X.run okK_M [(1363, [0, 1, 2, 3, 4, 6, 14, 15, 16, 17])] 60 ?_
      exact nx
  refine X.no okK_M rfl ?_
  refine X.run okK_M [] 60 ?_
  refine X.no okK_M rfl ?_
  refine X.run okK_M [] 60 ?_
  refine X.no okK_M rfl ?_
  refine X.run okK_M [(1363, [0, 1, 2, 3, 4, 6, 14, 15, 16, 17])] 60 ?_
  exact loop (gp S) 0 (Nat.zero_add _)
/-! the turn -/
theorem ph_turn (X : LX γ) {k0 n0 : Nat} (hk : k0 ≤ 300000) (hn : n0 ≤ 5000000) {K : KS'} (hJ : JK B K) (hB : B ≤ 3000) (h4 : 4 ≤ gc (kS K)) (htu : tu < 3) {σ : Nat → Nat → Nat}
    (fin : ∀ σ' K', JK (B + 1) K' → 4 ≤ gc (kS K') → At γ σ' (k0 + 4000) (n0 + 600000) 15 [(0, vK 60), (1, vR 0 0), (2, vI (nI (tu + 1)))] [] (world K')) :
    At γ σ k0 n0 20 [(0, vK 60), (1, vR 0 0), (2, vI (nI tu))] [] (world K) := by
  have h8 := hJ.1.1.1
  refine ph_B X (by omega) (by omega) hJ rfl (fun σ1 => ?_)
  refine ph_C X (by omega) (by omega) hJ rfl rfl (fun f hf => ?_)
  refine ph_G X (by omega) (by omega) hJ (by omega) rfl hf (fun σ2 K2 hJ2 hS2 => ?_)
  refine ph_H X (by omega) (by omega) hJ2 (by omega) hS2 (fun σ3 K3 o hJ3 hS3 ho => ?_)
  refine ph_I1 X (by omega) (by omega) hJ3 (by omega) hS3 ho (fun σ4 K4 hJ4 hS4 => ?_)
  refine ph_I2 X (by omega) (by omega) hJ4 (by omega) hS4 h4 (fun K5 hJ5 hS5 => ?_)
  refine ph_J X (by omega) (by omega) hJ5 hS5 h4 (fun K6 hJ6 hS6 => ?_)
  refine ph_P X (by omega) (by omega) hJ6 hS6 (fun K7 hJ7 hS7 => ?_)
  refine ph_T X (by omega) (by omega) hJ7 hS7 htu (fun K8 hJ8 hS8 => ?_)
  refine ph_S X (by omega) (by omega) hJ8 hS8 (fun K9 hJ9 hS9 => ?_)
  refine At.wid (k2 := k0 + 3900) (n2 := n0 + 590000) (by omega) (by omega) ?_
  have h49 : 4 ≤ gc (kS K9) := by rw [hS9]; exact h4
  have e120 : 120 + 4 * nI tu = nI (120 + 4 * tu) := by rw [show (4 : Int32) = nI 4 from rfl, nI_mul, show (120 : Int32) = nI 120 from rfl, nI_add]
  refine X.run okK_N [] 60 ?_
  show At γ σ4 (k0 + 3900) (n0 + 590000) 1499 [(0, vK 60), (1, vR 0 0), (2, vI (nI tu))] [vI (120 + 4 * nI tu), vK 60, vR 0 0] (world K9)
  rw [e120]
  refine At.callS (P := R65) (hC := world K9) (rest := []) (As := [vR 0 0, vK 60, vI (nI (120 + 4 * tu))]) X.1 (s_acts B (by omega) K9 hJ9 (by omega) (120 + 4 * tu) (by omega)) kL_acts ln_L_123 nd65 (by
    have F := Fits_pre id65 (world_bd K9) (world_len K9) []
    rw [List.append_nil] at F
    exact F) rfl (X.fit (by decide) (by omega) (by omega)) (Nat.le_of_ble_eq_true rfl) (dcS okK_N rfl) rfl (fun v2 h2 hp => ?_) (fun E h2 hp => by cases hp.1)
  obtain ⟨e1, K', h1, h3, rfl⟩ := hp
  cases e1
  refine ⟨rfl, ?_⟩
  have e := plug_pre id65 (world_bd K') (world_len K9) (world_len K') []
  rw [List.append_nil, List.append_nil] at e
  rw [show plug R65 R65 (world K') (world K9) = world K' from e]
  refine X.run okK_N [(15, [0, 1, 2])] 60 ?_
  show At γ σ4 (k0 + 3900 + 12) (n0 + 590000 + 700) 15 [(0, vK 60), (1, vR 0 0), (2, vI (nI tu + 1))] [] (world K')
  rw [nI_1]
  exact At.wid (by omega) (by omega) (fin σ4 K' h1 (by omega))
theorem law_loop (X : LX γ) (fin : ∀ (σ : Nat → Nat → Nat) (k n : Nat) (ls : List (Nat × AV)) (h : AHp), k ≤ 600390 → n ≤ 7289120 → At γ σ k n 1509 ls [vI 1] h) :
    ∀ (m tu : Nat), tu + m = 3 → ∀ (σ : Nat → Nat → Nat) (K : KS'), JK (100 + tu) K → 4 ≤ gc (kS K) → At γ σ (1000 + 4000 * tu) (100000 + 600000 * tu) 15 [(0, vK 60), (1, vR 0 0), (2, vI (nI tu))] [] (world K) := by
  intro m
  induction m with
  | zero =>
    intro tu htu σ K hJ h4
    have htu : tu = 3 := by omega
    subst htu
    refine X.run okK_B [(1508, [0])] 60 ?_
    refine ⟨fun _ => ?_, fun h => absurd (by decide) h⟩
    refine X.run okK_N [(1509, [0])] 60 ?_
    exact fin σ _ _ _ _ (by decide) (by decide)
  | succ m ih =>
    intro tu htu σ K hJ h4
    refine X.run okK_B [(20, [0, 1, 2])] 60 ?_
    refine ⟨fun h => absurd h (nI_ge (a := tu) (b := 3) (by omega) (by decide)), fun _ => ?_⟩
    refine ph_turn X (by omega) (by omega) hJ (by omega) h4 (by omega) (fun σ' K' h1 h2 => ?_)
    exact At.wid (by omega) (by omega) (ih (tu + 1) (by omega) σ' K' h1 h2)
end PHS
