/-! ===== acts, build ===== -/
theorem gc_tick (S : SH) : gc (tick S) = gc S := by
  show (strike (stM S (gmn S + 1))).1.1 = _
  unfold strike
  (repeat' split) <;> rfl
theorem gc_tks : ∀ (n : Nat) (S : SH), gc (tks n S) = gc S
  | 0, _ => rfl
  | n + 1, S => by
    rw [tks_s]
    split
    · rw [gc_tks n, gc_tick]
    · rfl
theorem gc_step {f : Nat} {K : KS'} {S' : SH} (hc : gc (kS K) ≤ gc S') (T : SH) (C : CS) : gc (kS K) ≤ gc (kS (scr (if f = 0 then chg K S' else K) T C)) := by
  split
  · exact hc
  · exact Nat.le_refl _
def PoJ (B c : Nat) : Out → AHp → Prop := fun o h => o = .inl none ∧ ∃ K', JK B K' ∧ c ≤ gc (kS K') ∧ h = world K'
theorem nI_rv {v m : Nat} (hv : v < 60) (hm : 0 < m) (hm2 : m < 2 ^ 31) : nI v - nI v / nI m * nI m = nI (v % m) := nI_rem (by omega) hm hm2
theorem sch_le {M v : Nat} (hM : M ≤ 900000) : ((nI M + 1 + nI (v % 12)).toInt ≤ (nI M).toInt + 12) := by
  rw [nI_1, nI_add, nI_toInt (by omega), nI_toInt (by omega)]
  have := Nat.mod_lt v (show 0 < 12 by decide)
  omega
theorem s_acts (B : Nat) (hB : B ≤ 4000) (K : KS') (hJ : JK B K) (h0 : 0 < gc (kS K)) (q : Nat) (hq : q ≤ 1000) : Sp 20 12 700 mL_acts [vR 0 0, vK 60, vI (nI q)] (world K) (PoJ (B + 1) (gc (kS K))) := by
  refine Sp.of' false (fun h => by cases h) (by decide) rfl rfl (Nat.le_of_ble_eq_true rfl) fun γ σ Bd => ?_
  have hK := hJ.1
  have h8 := hK.1.1
  have hp16 := hK.1.2.1
  have hF : ∀ {k n d2 : Nat}, d2 ≤ 15 → k = 0 → n = 0 → Fit γ k n d2 0 0 := fun hd hk hn => Bd.fit (by omega) (by omega) (by omega)
  have hW : Fit γ 0 0 13 12 700 := Bd.fit (by decide) (by decide) (by decide)
  have fin : ∀ (k n : Nat) (K' : KS'), JK (B + 1) K' → gc (kS K) ≤ gc (kS K') → k ≤ 12 → n ≤ 700 → At γ σ k n 379 [] [] (world K') := fun k n K' h1 h2 hk hn => by
    refine Bd.run okL_acts [] 60 ?_
    exact ⟨⟨rfl, K', h1, h2, rfl⟩, hk, hn⟩
  have e2 : nI q + 2 = nI (q + 2) := by rw [show (2 : Int32) = nI 2 from rfl, nI_add]
  have e3 : nI q + 3 = nI (q + 3) := by rw [show (3 : Int32) = nI 3 from rfl, nI_add]
  refine Bd.run okL_acts [] 60 ?_
  show At γ σ 0 0 6 [(0, vR 0 0), (1, vK 60), (2, vI (nI q))] [vI 60, vI (nI q + 1), vK 60] (world K)
  rw [nI_1]
  refine At.sI [vK 60, vI (nI (q + 1)), vI (nI 60)] [] Bd.1 (s_some (q + 1) 60 (by omega) (by decide) (by decide)) kL_some ln_L_112 (hF (by decide) rfl rfl) (dcS okL_acts rfl) (fun x hx => ?_)
  obtain ⟨v, hv, rfl⟩ := hx
  refine Bd.run okL_acts [] 60 ?_
  refine At.lZ0 [] [vI (nI q + 2), vK 60] Bd.1 (z_compartmentCount K) kX10_compartmentCount ln_L_127 (hF (by decide) rfl rfl) (dcV okL_acts rfl) ?_
  rw [e2]
  refine At.sI [vK 60, vI (nI (q + 2)), vI (nI (gc (kS K)))] [] Bd.1 (s_some (q + 2) (gc (kS K)) (by omega) h0 (by omega)) kL_some ln_L_112 (hF (by decide) rfl rfl) (dcS okL_acts rfl) (fun x hx => ?_)
  obtain ⟨t, ht, rfl⟩ := hx
  refine Bd.run okL_acts [] 60 ?_
  refine At.lZ0 [] [vI (nI q + 3), vK 60] Bd.1 (z_compartmentCount K) kX10_compartmentCount ln_L_127 (hF (by decide) rfl rfl) (dcV okL_acts rfl) ?_
  rw [e3]
  refine At.sI [vK 60, vI (nI (q + 3)), vI (nI (gc (kS K)))] [] Bd.1 (s_some (q + 3) (gc (kS K)) (by omega) h0 (by omega)) kL_some ln_L_112 (hF (by decide) rfl rfl) (dcS okL_acts rfl) (fun x hx => ?_)
  obtain ⟨u, hu, rfl⟩ := hx
  refine Bd.run okL_acts [] 60 ?_
  refine At.lZ0 [] [] Bd.1 (z_pieceCount K) kX10_pieceCount ln_L_130 (hF (by decide) rfl rfl) (dcV okL_acts rfl) ?_
  refine Bd.run okL_acts [] 60 ?_
  refine At.sI [vK 60, vI (nI q), vI (nI 16)] [] Bd.1 (s_some q 16 (by omega) (by decide) (by decide)) kL_some ln_L_112 (hF (by decide) rfl rfl) (dcS okL_acts rfl) (fun x hx => ?_)
  obtain ⟨j, hj, rfl⟩ := hx
  generalize hp : gp (kS K) = p at hp16
  obtain ⟨len, dsw⟩ := dcSw (pc := 49) okL_acts rfl
  show At γ σ 0 0 49 [(0, vR 0 0), (1, vK 60), (2, vI (nI q)), (3, vI (nI v)), (4, vI (nI t)), (5, vI (nI u)), (6, vI (nI p))] [vI (nI j)] (world K)
  have c116 : At γ σ 0 0 116 [(0, vR 0 0), (1, vK 60), (2, vI (nI q)), (3, vI (nI v)), (4, vI (nI t)), (5, vI (nI u)), (6, vI (nI p))] [] (world K) := by
    refine Bd.run okL_acts [(379, [])] 60 ?_
    refine At.lZ0 [] [] Bd.1 (z_compartmentCount K) kX10_compartmentCount ln_L_127 (hF (by decide) rfl rfl) (dcV okL_acts rfl) ?_
    refine Bd.run okL_acts [(379, [])] 60 ?_
    refine ⟨fun _ => ?_, fun _ => ⟨by decide, ?_⟩⟩
    · exact fin _ _ _ (hJ.le (Nat.le_succ B)) (Nat.le_refl _) (by decide) (by decide)
    · show At γ σ 0 0 137 [(0, vR 0 0), (1, vK 60), (2, vI (nI q)), (3, vI (nI v)), (4, vI (nI t)), (5, vI (nI u)), (6, vI (nI p))] [vI (10 + nI v), vI (nI v - nI v / nI 19 * nI 19 - 9), vR 0 0] (world K)
      refine At.lS0 [vR 0 0, vI (nI v - nI v / nI 19 * nI 19 - 9), vI (10 + nI v)] [] Bd.1 (w_addCompartment K hK (nI v - nI v / nI 19 * nI 19 - 9) (10 + nI v)) kL_addCompartment ln_L_116 hW (dcS okL_acts rfl) (fun T C hT => ?_)
      refine Bd.run okL_acts [(379, [])] 60 ?_
      exact fin _ _ _ (hJ.step (fun hf => hJ.2.1.add (by omega) hf) hT C) (gc_step (by exact Nat.le_succ _) T C) (by decide) (by decide)
  have c149 : At γ σ 0 0 149 [(0, vR 0 0), (1, vK 60), (2, vI (nI q)), (3, vI (nI v)), (4, vI (nI t)), (5, vI (nI u)), (6, vI (nI p))] [] (world K) := by
    refine Bd.run okL_acts [(379, [])] 60 ?_
    refine ⟨fun _ => ?_, fun _ => ⟨by decide, ?_⟩⟩
    · exact fin _ _ _ (hJ.le (Nat.le_succ B)) (Nat.le_refl _) (by decide) (by decide)
    · show At γ σ 0 0 165 [(0, vR 0 0), (1, vK 60), (2, vI (nI q)), (3, vI (nI v)), (4, vI (nI t)), (5, vI (nI u)), (6, vI (nI p))] [vI (1 + (nI v - nI v / nI 50 * nI 50)), vI (nI t), vR 0 0] (world K)
      refine At.lS0 [vR 0 0, vI (nI t), vI (1 + (nI v - nI v / nI 50 * nI 50))] [] Bd.1 (w_load K hK (nI t) (1 + (nI v - nI v / nI 50 * nI 50))) kL_load ln_L_119 hW (dcS okL_acts rfl) (fun T C hT => ?_)
      refine Bd.run okL_acts [(379, [])] 60 ?_
      exact fin _ _ _ (hJ.step (fun hf => hJ.2.1.put (by omega) hf) hT C) (gc_step (by exact Nat.le_refl _) T C) (by decide) (by decide)
  have c177 : At γ σ 0 0 177 [(0, vR 0 0), (1, vK 60), (2, vI (nI q)), (3, vI (nI v)), (4, vI (nI t)), (5, vI (nI u)), (6, vI (nI p))] [] (world K) := by
    refine Bd.run okL_acts [(379, [])] 60 ?_
    refine ⟨fun _ => ?_, fun hp0 => ?_⟩
    · exact fin _ _ _ (hJ.le (Nat.le_succ B)) (Nat.le_refl _) (by decide) (by decide)
    · have hp1 : 0 < p := Nat.pos_of_ne_zero fun z => hp0 (by rw [z]; decide)
      have hvp : v % p < p := Nat.mod_lt _ hp1
      refine ⟨nI_ne0 hp1 (by omega), ?_⟩
      show At γ σ 0 0 188 [(0, vR 0 0), (1, vK 60), (2, vI (nI q)), (3, vI (nI v)), (4, vI (nI t)), (5, vI (nI u)), (6, vI (nI p))] [vI (nI v - nI v / nI p * nI p), vR 0 0, vR 0 0] (world K)
      rw [nI_rv hv hp1 (by omega)]
      refine At.lZ0 [vI (nI (v % p))] [vR 0 0] Bd.1 (z_idAt K hK (v % p) (by rw [hp]; exact hvp)) kX10_idAt ln_L_75 (hF (by decide) rfl rfl) (dcV okL_acts rfl) ?_
      refine At.lS0 [vR 0 0, vI (gid (kS K) (v % p))] [] Bd.1 (w_unload K hK (gid (kS K) (v % p))) kL_unload ln_L_133 hW (dcS okL_acts rfl) (fun T C hT => ?_)
      refine Bd.run okL_acts [(379, [])] 60 ?_
      exact fin _ _ _ (hJ.step (fun hf => hJ.2.1.rem (by omega) hf) hT C) (gc_step (by exact Nat.le_refl _) T C) (by decide) (by decide)
  have c203 : At γ σ 0 0 203 [(0, vR 0 0), (1, vK 60), (2, vI (nI q)), (3, vI (nI v)), (4, vI (nI t)), (5, vI (nI u)), (6, vI (nI p))] [] (world K) := by
    refine Bd.run okL_acts [(379, [])] 60 ?_
    refine ⟨fun _ => ?_, fun hp0 => ?_⟩
    · exact fin _ _ _ (hJ.le (Nat.le_succ B)) (Nat.le_refl _) (by decide) (by decide)
    · have hp1 : 0 < p := Nat.pos_of_ne_zero fun z => hp0 (by rw [z]; decide)
      have hvp : v % p < p := Nat.mod_lt _ hp1
      refine ⟨nI_ne0 hp1 (by omega), ?_⟩
      show At γ σ 0 0 214 [(0, vR 0 0), (1, vK 60), (2, vI (nI q)), (3, vI (nI v)), (4, vI (nI t)), (5, vI (nI u)), (6, vI (nI p))] [vI (nI v - nI v / nI p * nI p), vR 0 0, vR 0 0] (world K)
      rw [nI_rv hv hp1 (by omega)]
      refine At.lZ0 [vI (nI (v % p))] [vR 0 0] Bd.1 (z_idAt K hK (v % p) (by rw [hp]; exact hvp)) kX10_idAt ln_L_75 (hF (by decide) rfl rfl) (dcV okL_acts rfl) ?_
      refine Bd.run okL_acts [(379, [])] 60 ?_
      refine At.lS0 [vR 0 0, vI (gid (kS K) (v % p)), vI (nI t)] [] Bd.1 (w_shift K hK (gid (kS K) (v % p)) (nI t)) kL_shift ln_L_136 hW (dcS okL_acts rfl) (fun T C hT => ?_)
      refine Bd.run okL_acts [(379, [])] 60 ?_
      exact fin _ _ _ (hJ.step (fun hf => hJ.2.1.car (by omega) hf) hT C) (gc_step (by exact Nat.le_refl _) T C) (by decide) (by decide)
  have c231 : At γ σ 0 0 231 [(0, vR 0 0), (1, vK 60), (2, vI (nI q)), (3, vI (nI v)), (4, vI (nI t)), (5, vI (nI u)), (6, vI (nI p))] [] (world K) := by
    refine Bd.run okL_acts [(379, [])] 60 ?_
    refine ⟨by decide, ?_⟩
    show At γ σ 0 0 238 [(0, vR 0 0), (1, vK 60), (2, vI (nI q)), (3, vI (nI v)), (4, vI (nI t)), (5, vI (nI u)), (6, vI (nI p))] [vI (nI v - nI v / nI 21 * nI 21), vI (nI t), vR 0 0] (world K)
    refine At.lS0 [vR 0 0, vI (nI t), vI (nI v - nI v / nI 21 * nI 21)] [] Bd.1 (w_setLeak K hK (nI t) (nI v - nI v / nI 21 * nI 21)) kL_setLeak ln_L_121 hW (dcS okL_acts rfl) (fun T C hT => ?_)
    refine Bd.run okL_acts [(379, [])] 60 ?_
    exact fin _ _ _ (hJ.step (fun hf => hJ.2.1.lk (by omega) hf) hT C) (gc_step (by exact Nat.le_refl _) T C) (by decide) (by decide)
  have c246 : At γ σ 0 0 246 [(0, vR 0 0), (1, vK 60), (2, vI (nI q)), (3, vI (nI v)), (4, vI (nI t)), (5, vI (nI u)), (6, vI (nI p))] [] (world K) := by
    refine Bd.run okL_acts [(379, [])] 60 ?_
    refine ⟨by decide, ?_⟩
    show At γ σ 0 0 253 [(0, vR 0 0), (1, vK 60), (2, vI (nI q)), (3, vI (nI v)), (4, vI (nI t)), (5, vI (nI u)), (6, vI (nI p))] [vI (nI v - nI v / nI 21 * nI 21), vI (nI t), vR 0 0] (world K)
    refine At.lS0 [vR 0 0, vI (nI t), vI (nI v - nI v / nI 21 * nI 21)] [] Bd.1 (w_setPump K hK (nI t) (nI v - nI v / nI 21 * nI 21)) kL_setPump ln_L_138 hW (dcS okL_acts rfl) (fun T C hT => ?_)
    refine Bd.run okL_acts [(379, [])] 60 ?_
    exact fin _ _ _ (hJ.step (fun hf => hJ.2.1.gu (by omega) hf) hT C) (gc_step (by exact Nat.le_refl _) T C) (by decide) (by decide)
  have c261 : At γ σ 0 0 261 [(0, vR 0 0), (1, vK 60), (2, vI (nI q)), (3, vI (nI v)), (4, vI (nI t)), (5, vI (nI u)), (6, vI (nI p))] [] (world K) := by
    refine Bd.run okL_acts [(379, [])] 60 ?_
    show At γ σ 0 0 269 [(0, vR 0 0), (1, vK 60), (2, vI (nI q)), (3, vI (nI v)), (4, vI (nI t)), (5, vI (nI u)), (6, vI (nI p))] [vI (1 + nI v), vI (nI u), vI (nI t), vR 0 0] (world K)
    refine At.lS0 [vR 0 0, vI (nI t), vI (nI u), vI (1 + nI v)] [] Bd.1 (w_transfer K hK (nI t) (nI u) (1 + nI v)) kL_transfer ln_L_140 hW (dcS okL_acts rfl) (fun T C hT => ?_)
    refine Bd.run okL_acts [(379, [])] 60 ?_
    exact fin _ _ _ (hJ.step (fun hf => hJ.2.1.mov (by omega) hf) hT C) (gc_step (by exact Nat.le_refl _) T C) (by decide) (by decide)
  have c277 : At γ σ 0 0 277 [(0, vR 0 0), (1, vK 60), (2, vI (nI q)), (3, vI (nI v)), (4, vI (nI t)), (5, vI (nI u)), (6, vI (nI p))] [] (world K) := by
    refine Bd.run okL_acts [(379, [])] 60 ?_
    show At γ σ 0 0 281 [(0, vR 0 0), (1, vK 60), (2, vI (nI q)), (3, vI (nI v)), (4, vI (nI t)), (5, vI (nI u)), (6, vI (nI p))] [vI (1 + nI v), vR 0 0] (world K)
    refine At.lS0 [vR 0 0, vI (1 + nI v)] [] Bd.1 (w_balance K hK (1 + nI v)) kL_balance ln_L_143 hW (dcS okL_acts rfl) (fun T C hT => ?_)
    refine Bd.run okL_acts [(379, [])] 60 ?_
    exact fin _ _ _ (hJ.step (fun hf => hJ.2.1.bal hf) hT C) (gc_step (by exact Nat.le_refl _) T C) (by decide) (by decide)
  have c289 : At γ σ 0 0 289 [(0, vR 0 0), (1, vK 60), (2, vI (nI q)), (3, vI (nI v)), (4, vI (nI t)), (5, vI (nI u)), (6, vI (nI p))] [] (world K) := by
    refine Bd.run okL_acts [(379, [])] 60 ?_
    refine ⟨by decide, fun _ => ⟨by decide, ?_⟩, fun _ => ⟨by decide, ?_⟩⟩
    · show At γ σ 0 0 300 [(0, vR 0 0), (1, vK 60), (2, vI (nI q)), (3, vI (nI v)), (4, vI (nI t)), (5, vI (nI u)), (6, vI (nI p))] [vI (nI v - nI v / nI 9 * nI 9), vR 0 0] (world K)
      refine At.lS0 [vR 0 0, vI (nI v - nI v / nI 9 * nI 9)] [] Bd.1 (w_setPower K hK (nI v - nI v / nI 9 * nI 9)) kL_setPower ln_L_145 hW (dcS okL_acts rfl) (fun T C hT => ?_)
      refine Bd.run okL_acts [(379, [])] 60 ?_
      exact fin _ _ _ (hJ.step (fun hf => hJ.2.1.pow (by omega) hf) hT C) (gc_step (by exact Nat.le_refl _) T C) (by decide) (by decide)
    · show At γ σ 0 0 313 [(0, vR 0 0), (1, vK 60), (2, vI (nI q)), (3, vI (nI v)), (4, vI (nI t)), (5, vI (nI u)), (6, vI (nI p))] [vI (1 + (nI v - nI v / nI 9 * nI 9)), vR 0 0] (world K)
      refine At.lS0 [vR 0 0, vI (1 + (nI v - nI v / nI 9 * nI 9))] [] Bd.1 (w_setLimit K hK (1 + (nI v - nI v / nI 9 * nI 9))) kL_setLimit ln_L_147 hW (dcS okL_acts rfl) (fun T C hT => ?_)
      refine Bd.run okL_acts [(379, [])] 60 ?_
      exact fin _ _ _ (hJ.step (fun hf => hJ.2.1.lim hf) hT C) (gc_step (by exact Nat.le_refl _) T C) (by decide) (by decide)
  have c321 : At γ σ 0 0 321 [(0, vR 0 0), (1, vK 60), (2, vI (nI q)), (3, vI (nI v)), (4, vI (nI t)), (5, vI (nI u)), (6, vI (nI p))] [] (world K) := by
    refine Bd.run okL_acts [(379, [])] 60 ?_
    refine At.lZ0 [] [vR 0 0] Bd.1 (z_minute K) kX10_minute ln_L_149 (hF (by decide) rfl rfl) (dcV okL_acts rfl) ?_
    refine Bd.run okL_acts [(379, [])] 60 ?_
    refine ⟨by decide, by decide, ?_⟩
    show At γ σ 0 0 339 [(0, vR 0 0), (1, vK 60), (2, vI (nI q)), (3, vI (nI v)), (4, vI (nI t)), (5, vI (nI u)), (6, vI (nI p))] [vI (1 + (nI v - nI v / nI 9 * nI 9)), vI (gmn (kS K) + 1 + (nI v - nI v / nI 12 * nI 12)), vR 0 0] (world K)
    rw [nI_rv hv (by decide) (by decide) (m := 12)]
    obtain ⟨M, PP, m1, m2, -, -⟩ := hJ.2.1.1.2.2.1
    refine At.lS0 [vR 0 0, vI (gmn (kS K) + 1 + nI (v % 12)), vI (1 + (nI v - nI v / nI 9 * nI 9))] [] Bd.1 (w_schedule K hK (gmn (kS K) + 1 + nI (v % 12)) (1 + (nI v - nI v / nI 9 * nI 9))) kL_schedule ln_L_152 hW (dcS okL_acts rfl) (fun T C hT => ?_)
    refine Bd.run okL_acts [(379, [])] 60 ?_
    exact fin _ _ _ (hJ.step (fun hf => hJ.2.1.sch (by omega) (by rw [m2]; exact sch_le (by omega)) hf) hT C) (gc_step (by exact Nat.le_refl _) T C) (by decide) (by decide)
  have c347 : At γ σ 0 0 347 [(0, vR 0 0), (1, vK 60), (2, vI (nI q)), (3, vI (nI v)), (4, vI (nI t)), (5, vI (nI u)), (6, vI (nI p))] [] (world K) := by
    refine Bd.run okL_acts [(379, [])] 60 ?_
    refine At.lZ0 [] [vR 0 0] Bd.1 (z_minute K) kX10_minute ln_L_149 (hF (by decide) rfl rfl) (dcV okL_acts rfl) ?_
    refine Bd.run okL_acts [(379, [])] 60 ?_
    refine ⟨by decide, ?_⟩
    show At γ σ 0 0 359 [(0, vR 0 0), (1, vK 60), (2, vI (nI q)), (3, vI (nI v)), (4, vI (nI t)), (5, vI (nI u)), (6, vI (nI p))] [vI (gmn (kS K) + 1 + (nI v - nI v / nI 9 * nI 9)), vR 0 0] (world K)
    refine At.lS0 [vR 0 0, vI (gmn (kS K) + 1 + (nI v - nI v / nI 9 * nI 9))] [] Bd.1 (w_cancelStorm K hK (gmn (kS K) + 1 + (nI v - nI v / nI 9 * nI 9))) kL_cancelStorm ln_L_154 hW (dcS okL_acts rfl) (fun T C hT => ?_)
    refine Bd.run okL_acts [(379, [])] 60 ?_
    exact fin _ _ _ (hJ.step (fun hf => hJ.2.1.can hf) hT C) (gc_step (by exact Nat.le_refl _) T C) (by decide) (by decide)
  have c367 : At γ σ 0 0 367 [(0, vR 0 0), (1, vK 60), (2, vI (nI q)), (3, vI (nI v)), (4, vI (nI t)), (5, vI (nI u)), (6, vI (nI p))] [] (world K) := by
    refine Bd.run okL_acts [(379, [])] 60 ?_
    refine ⟨by decide, ?_⟩
    show At γ σ 0 0 374 [(0, vR 0 0), (1, vK 60), (2, vI (nI q)), (3, vI (nI v)), (4, vI (nI t)), (5, vI (nI u)), (6, vI (nI p))] [vI (1 + (nI v - nI v / nI 6 * nI 6)), vR 0 0] (world K)
    refine At.lS0 [vR 0 0, vI (1 + (nI v - nI v / nI 6 * nI 6))] [] Bd.1 (w_pass K hK (1 + (nI v - nI v / nI 6 * nI 6))) kL_pass ln_L_156 hW (dcS okL_acts rfl) (fun T C hT => ?_)
    refine Bd.run okL_acts [(379, [])] 60 ?_
    exact fin _ _ _ (hJ.step (fun hf => hJ.2.1.pas (by omega) hf) hT C) (gc_step (by exact Nat.le_of_eq (gc_tks _ _).symm) T C) (by decide) (by decide)
  have hj : j = 0 ∨ j = 1 ∨ j = 2 ∨ j = 3 ∨ j = 4 ∨ j = 5 ∨ j = 6 ∨ j = 7 ∨ j = 8 ∨ j = 9 ∨ j = 10 ∨ j = 11 ∨ j = 12 ∨ j = 13 ∨ j = 14 ∨ j = 15 := by omega
  rcases hj with rfl | rfl | rfl | rfl | rfl | rfl | rfl | rfl | rfl | rfl | rfl | rfl | rfl | rfl | rfl | rfl
  · exact At.swIn Bd.1 dsw (by decide) (by decide) (off := 67) (t := 116) rfl rfl c116
  · exact At.swIn Bd.1 dsw (by decide) (by decide) (off := 100) (t := 149) rfl rfl c149
  · exact At.swIn Bd.1 dsw (by decide) (by decide) (off := 128) (t := 177) rfl rfl c177
  · exact At.swIn Bd.1 dsw (by decide) (by decide) (off := 154) (t := 203) rfl rfl c203
  · exact At.swIn Bd.1 dsw (by decide) (by decide) (off := 182) (t := 231) rfl rfl c231
  · exact At.swIn Bd.1 dsw (by decide) (by decide) (off := 197) (t := 246) rfl rfl c246
  · exact At.swIn Bd.1 dsw (by decide) (by decide) (off := 212) (t := 261) rfl rfl c261
  · exact At.swIn Bd.1 dsw (by decide) (by decide) (off := 212) (t := 261) rfl rfl c261
  · exact At.swIn Bd.1 dsw (by decide) (by decide) (off := 228) (t := 277) rfl rfl c277
  · exact At.swIn Bd.1 dsw (by decide) (by decide) (off := 240) (t := 289) rfl rfl c289
  · exact At.swIn Bd.1 dsw (by decide) (by decide) (off := 272) (t := 321) rfl rfl c321
  · exact At.swIn Bd.1 dsw (by decide) (by decide) (off := 272) (t := 321) rfl rfl c321
  · exact At.swIn Bd.1 dsw (by decide) (by decide) (off := 298) (t := 347) rfl rfl c347
  · exact At.swOut Bd.1 dsw (by decide) (t := 367) rfl c367
  · exact At.swOut Bd.1 dsw (by decide) (t := 367) rfl c367
  · exact At.swOut Bd.1 dsw (by decide) (t := 367) rfl c367
/-- the ship that the law builds -/
theorem s_build (K : KS') (hJ : JK 0 K) (hc : gc (kS K) = 0) : Sp 22 500 30000 mL_build [vR 0 0, vK 60] (world K) (PoJ 40 4) := by
  refine Sp.of' false (fun h => by cases h) (by decide) rfl rfl (Nat.le_of_ble_eq_true rfl) fun γ σ Bd => ?_
  have hF : ∀ {k n d2 : Nat}, d2 ≤ 20 → k ≤ 500 → n ≤ 30000 → Fit γ k n d2 0 0 := fun hd hk hn => Bd.fit (by omega) (by omega) (by omega)
  have e4 : ∀ k : Nat, 4 + nI k = nI (4 + k) := fun k => by rw [show (4 : Int32) = nI 4 from rfl, nI_add]
  have e8 : ∀ k : Nat, 8 + nI k = nI (8 + k) := fun k => by rw [show (8 : Int32) = nI 8 from rfl, nI_add]
  have e14 : ∀ k : Nat, 14 + nI k = nI (14 + k) := fun k => by rw [show (14 : Int32) = nI 14 from rfl, nI_add]
  have e20 : ∀ k : Nat, 20 + nI k = nI (20 + k) := fun k => by rw [show (20 : Int32) = nI 20 from rfl, nI_add]
  have e24 : ∀ k : Nat, 24 + 4 * nI k = nI (24 + 4 * k) := fun k => by rw [show (24 : Int32) = nI 24 from rfl, show (4 : Int32) = nI 4 from rfl, nI_mul, nI_add]
  -- acts
  have l4 : ∀ (m k : Nat), k + m = 18 → ∀ K, JK (13 + k) K → 4 ≤ gc (kS K) → At γ σ (156 + 12 * k) (9100 + 700 * k) 111 [(0, vR 0 0), (1, vK 60), (3, vI (nI k))] [] (world K) := by
    intro m
    induction m with
    | zero =>
      intro k hk K hJ h4
      have hk : k = 18 := by omega
      subst hk
      refine Bd.run okL_build [(111, [0, 1, 3])] 60 ?_
      exact ⟨fun _ => ⟨⟨rfl, K, hJ.le (by decide), h4, rfl⟩, by decide, by decide⟩, fun h => absurd (by decide) h⟩
    | succ m ih =>
      intro k hk K hJ h4
      refine Bd.run okL_build [(111, [0, 1, 3])] 60 ?_
      refine ⟨fun h => absurd h (nI_ge (a := k) (b := 18) (by omega) (by decide)), fun _ => ?_⟩
      show At γ σ (156 + 12 * k) (9100 + 700 * k) 125 [(0, vR 0 0), (1, vK 60), (3, vI (nI k))] [vI (24 + 4 * nI k), vK 60, vR 0 0] (world K)
      rw [e24]
      have F := Fits_pre id65 (world_bd K) (world_len K) []
      rw [List.append_nil] at F
      refine At.callS (P := R65) (rest := []) Bd.1 (s_acts (13 + k) (by omega) K hJ (by omega) (24 + 4 * k) (by omega)) kL_acts ln_L_123 nd65 F rfl (Bd.fit (by decide) (by omega) (by omega)) (by decide) (dcS okL_build rfl) rfl (fun v h2 hp => ?_) (fun E h2 hp => by cases hp.1)
      obtain ⟨e1, K', h1, h2, rfl⟩ := hp
      cases e1
      refine ⟨rfl, ?_⟩
      have e := plug_pre id65 (world_bd K') (world_len K) (world_len K') []
      rw [List.append_nil, List.append_nil] at e
      rw [show plug R65 R65 (world K') (world K) = world K' from e]
      have z := ih (k + 1) (by omega) K' (h1.le (by omega)) (by omega)
      rw [← nI_1] at z
      refine Bd.run okL_build [(111, [0, 1, 3])] 60 ?_
      exact At.wid (by omega) (by omega) z
  -- leaks
  have l3 : ∀ (m k : Nat), k + m = 4 → ∀ K, JK (9 + k) K → 4 ≤ gc (kS K) → At γ σ (108 + 12 * k) (6300 + 700 * k) 82 [(0, vR 0 0), (1, vK 60), (3, vI (nI k))] [] (world K) := by
    intro m
    induction m with
    | zero =>
      intro k hk K hJ h4
      have hk : k = 4 := by omega
      subst hk
      refine Bd.run okL_build [(82, [0, 1, 3]), (111, [0, 1, 3])] 60 ?_
      exact ⟨fun _ => l4 18 0 rfl K hJ h4, fun h => absurd (by decide) h⟩
    | succ m ih =>
      intro k hk K hJ h4
      refine Bd.run okL_build [(82, [0, 1, 3])] 60 ?_
      refine ⟨fun h => absurd h (nI_ge (a := k) (b := 4) (by omega) (by decide)), fun _ => ?_⟩
      show At γ σ (108 + 12 * k) (6300 + 700 * k) 96 [(0, vR 0 0), (1, vK 60), (3, vI (nI k))] [vI 12, vI (20 + nI k), vK 60, vI (nI k), vR 0 0] (world K)
      rw [e20]
      refine At.sI [vK 60, vI (nI (20 + k)), vI (nI 12)] [vI (nI k), vR 0 0] Bd.1 (s_some (20 + k) 12 (by omega) (by decide) (by decide)) kL_some ln_L_112 (hF (by decide) (by omega) (by omega)) (dcS okL_build rfl) (fun x hx => ?_)
      refine At.lS0 [vR 0 0, vI (nI k), vI x] [] Bd.1 (w_setLeak K hJ.1 (nI k) x) kL_setLeak ln_L_121 (Bd.fit (by decide) (by omega) (by omega)) (dcS okL_build rfl) (fun T C hT => ?_)
      have z := ih (k + 1) (by omega) _ (hJ.step (fun hf => hJ.2.1.lk (by omega) hf) hT C) (Nat.le_trans h4 (gc_step (f := fRat (kS K) (nI k) x) (S' := eLk (kS K) (nI k) x) (by exact Nat.le_refl _) T C))
      rw [← nI_1] at z
      refine Bd.run okL_build [(82, [0, 1, 3])] 60 ?_
      exact At.wid (by omega) (by omega) z
  -- pieces
  have l2 : ∀ (m k : Nat), k + m = 5 → ∀ K, JK (4 + k) K → 4 ≤ gc (kS K) → At γ σ (48 + 12 * k) (2800 + 700 * k) 43 [(0, vR 0 0), (1, vK 60), (3, vI (nI k))] [] (world K) := by
    intro m
    induction m with
    | zero =>
      intro k hk K hJ h4
      have hk : k = 5 := by omega
      subst hk
      refine Bd.run okL_build [(43, [0, 1, 3]), (82, [0, 1, 3])] 60 ?_
      exact ⟨fun _ => l3 4 0 rfl K hJ h4, fun h => absurd (by decide) h⟩
    | succ m ih =>
      intro k hk K hJ h4
      refine Bd.run okL_build [(43, [0, 1, 3])] 60 ?_
      refine ⟨fun h => absurd h (nI_ge (a := k) (b := 5) (by omega) (by decide)), fun _ => ?_⟩
      show At γ σ (48 + 12 * k) (2800 + 700 * k) 55 [(0, vR 0 0), (1, vK 60), (3, vI (nI k))] [vI 4, vI (8 + nI k), vK 60, vR 0 0] (world K)
      rw [e8]
      refine At.sI [vK 60, vI (nI (8 + k)), vI (nI 4)] [vR 0 0] Bd.1 (s_some (8 + k) 4 (by omega) (by decide) (by decide)) kL_some ln_L_112 (hF (by decide) (by omega) (by omega)) (dcS okL_build rfl) (fun x hx => ?_)
      refine Bd.run okL_build [(43, [0, 1, 3])] 60 ?_
      show At γ σ (48 + 12 * k) (2800 + 700 * k) 66 [(0, vR 0 0), (1, vK 60), (3, vI (nI k))] [vI 50, vI (14 + nI k), vK 60, vI 1, vI x, vR 0 0] (world K)
      rw [e14]
      refine At.sI [vK 60, vI (nI (14 + k)), vI (nI 50)] [vI 1, vI x, vR 0 0] Bd.1 (s_some (14 + k) 50 (by omega) (by decide) (by decide)) kL_some ln_L_112 (hF (by decide) (by omega) (by omega)) (dcS okL_build rfl) (fun y hy => ?_)
      refine Bd.run okL_build [(43, [0, 1, 3])] 60 ?_
      refine At.lS0 [vR 0 0, vI x, vI (1 + y)] [] Bd.1 (w_load K hJ.1 x (1 + y)) kL_load ln_L_119 (Bd.fit (by decide) (by omega) (by omega)) (dcS okL_build rfl) (fun T C hT => ?_)
      have z := ih (k + 1) (by omega) _ (hJ.step (fun hf => hJ.2.1.put (by omega) hf) hT C) (Nat.le_trans h4 (gc_step (f := fLoad (kS K) x (1 + y)) (S' := ePut (kS K) x (1 + y)) (by exact Nat.le_refl _) T C))
      rw [← nI_1] at z
      refine Bd.run okL_build [(43, [0, 1, 3])] 60 ?_
      exact At.wid (by omega) (by omega) z
  -- compartments
  have l1 : ∀ (m k : Nat), k + m = 4 → ∀ K, JK k K → gc (kS K) = k → At γ σ (12 * k) (700 * k) 2 [(0, vR 0 0), (1, vK 60), (3, vI (nI k))] [] (world K) := by
    intro m
    induction m with
    | zero =>
      intro k hk K hJ h4
      have hk : k = 4 := by omega
      subst hk
      refine Bd.run okL_build [(2, [0, 1, 3]), (43, [0, 1, 3])] 60 ?_
      exact ⟨fun _ => l2 5 0 rfl K hJ (by omega), fun h => absurd (by decide) h⟩
    | succ m ih =>
      intro k hk K hJ h4
      refine Bd.run okL_build [(2, [0, 1, 3])] 60 ?_
      refine ⟨fun h => absurd h (nI_ge (a := k) (b := 4) (by omega) (by decide)), fun _ => ?_⟩
      refine At.sI [vK 60, vI (nI k), vI (nI 19)] [vR 0 0] Bd.1 (s_some k 19 (by omega) (by decide) (by decide)) kL_some ln_L_112 (hF (by decide) (by omega) (by omega)) (dcS okL_build rfl) (fun x hx => ?_)
      obtain ⟨x, hx, rfl⟩ := hx
      refine Bd.run okL_build [(2, [0, 1, 3])] 60 ?_
      show At γ σ (12 * k) (700 * k) 27 [(0, vR 0 0), (1, vK 60), (3, vI (nI k))] [vI 181, vI (4 + nI k), vK 60, vI 20, vI (nI x - 9), vR 0 0] (world K)
      rw [e4]
      refine At.sI [vK 60, vI (nI (4 + k)), vI (nI 181)] [vI 20, vI (nI x - 9), vR 0 0] Bd.1 (s_some (4 + k) 181 (by omega) (by decide) (by decide)) kL_some ln_L_112 (hF (by decide) (by omega) (by omega)) (dcS okL_build rfl) (fun y hy => ?_)
      obtain ⟨y, hy, rfl⟩ := hy
      refine Bd.run okL_build [(2, [0, 1, 3])] 60 ?_
      have hf : fAdd (kS K) (nI x - 9) (20 + nI y) = 0 := by
        have h1 : wiB (nI x - 9) (-9) 9 = true := by
          have : ∀ x, x < 19 → wiB (nI x - 9) (-9) 9 = true := by decide
          exact this x hx
        have h2 : wiB (20 + nI y) 10 200 = true := by
          have : ∀ y, y < 181 → wiB (20 + nI y) 10 200 = true := by decide +kernel
          exact this y hy
        unfold fAdd
        rw [h1, h2, if_pos (show (true && true) = true from rfl), if_pos (by omega)]
      refine At.lS0 [vR 0 0, vI (nI x - 9), vI (20 + nI y)] [] Bd.1 (w_addCompartment K hJ.1 (nI x - 9) (20 + nI y)) kL_addCompartment ln_L_116 (Bd.fit (by decide) (by omega) (by omega)) (dcS okL_build rfl) (fun T C hT => ?_)
      have z := ih (k + 1) (by omega) _ (hJ.step (fun hf => hJ.2.1.add (by omega) hf) hT C) (by rw [if_pos hf]; show gc (kS K) + 1 = _; omega)
      rw [← nI_1] at z
      refine Bd.run okL_build [(2, [0, 1, 3])] 60 ?_
      exact At.wid (by omega) (by omega) z
  refine Bd.run okL_build [(2, [0, 1, 3])] 60 ?_
  exact l1 4 0 rfl K hJ hc
