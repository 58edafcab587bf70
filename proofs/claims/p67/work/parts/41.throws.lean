/-! ===== throws of BallastControl: sites, texts ===== -/
theorem T_A : TSok RX10 158 162 xA nRE := ⟨by decide +kernel, by decide +kernel, FT_all (l := [_]) (by decide +kernel) (by decide +kernel) _ List.mem_cons_self, FT_all (l := [_]) (by decide +kernel) (by decide +kernel) _ List.mem_cons_self, FT_all (by decide +kernel) (by decide +kernel), by decide +kernel⟩
theorem T_S : TSok RX10 134 138 xS nRE := ⟨by decide +kernel, by decide +kernel, FT_all (l := [_]) (by decide +kernel) (by decide +kernel) _ List.mem_cons_self, FT_all (l := [_]) (by decide +kernel) (by decide +kernel) _ List.mem_cons_self, FT_all (by decide +kernel) (by decide +kernel), by decide +kernel⟩
theorem T_M : TSok RX10 460 464 xM nRE := ⟨by decide +kernel, by decide +kernel, FT_all (l := [_]) (by decide +kernel) (by decide +kernel) _ List.mem_cons_self, FT_all (l := [_]) (by decide +kernel) (by decide +kernel) _ List.mem_cons_self, FT_all (by decide +kernel) (by decide +kernel), by decide +kernel⟩
theorem ex_141 : (RX10, 136, "no transfer makes the moment smaller") ∈ exL := List.mem_of_getElem? (i := 0) rfl
theorem ex_165 : (RX10, 160, "limit out of range") ∈ exL := List.mem_of_getElem? (i := 1) rfl
theorem ex_230 : (RX10, 225, "no such rank") ∈ exL := List.mem_of_getElem? (i := 2) rfl
theorem ex_233 : (RX10, 228, "never full") ∈ exL := List.mem_of_getElem? (i := 3) rfl
theorem ex_238 : (RX10, 233, "no such position") ∈ exL := List.mem_of_getElem? (i := 4) rfl
theorem ex_253 : (RX10, 248, "no piece on board") ∈ exL := List.mem_of_getElem? (i := 5) rfl
theorem ex_288 : (RX10, 283, "transfers do not balance the ship") ∈ exL := List.mem_of_getElem? (i := 6) rfl
theorem ex_293 : (RX10, 288, "number of minutes out of range") ∈ exL := List.mem_of_getElem? (i := 7) rfl
theorem ex_300 : (RX10, 295, "no storm is scheduled") ∈ exL := List.mem_of_getElem? (i := 8) rfl
theorem ex_365 : (RX10, 360, "the line has no such index") ∈ exL := List.mem_of_getElem? (i := 9) rfl
theorem ex_445 : (RX10, 443, "no such compartment") ∈ exL := List.mem_of_getElem? (i := 10) rfl
theorem ex_447 : (RX10, 445, "argument out of range") ∈ exL := List.mem_of_getElem? (i := 11) rfl
theorem ex_452 : (RX10, 450, "not possible now") ∈ exL := List.mem_of_getElem? (i := 12) rfl
theorem ex_457 : (RX10, 455, "no such piece") ∈ exL := List.mem_of_getElem? (i := 13) rfl
theorem ex_464 : (RX10, 462, "no compartments") ∈ exL := List.mem_of_getElem? (i := 14) rfl
theorem ex_471 : (RX10, 469, "no such storm") ∈ exL := List.mem_of_getElem? (i := 15) rfl
theorem ex_476 : (RX10, 474, "no transfer is possible") ∈ exL := List.mem_of_getElem? (i := 16) rfl
theorem ex_481 : (RX10, 479, "no piece can be moved") ∈ exL := List.mem_of_getElem? (i := 17) rfl
section TH
variable {γ : CX} {σ : Nat → Nat → Nat} {k n pc N0 mc ms d ik ic is : Nat} {ls : List (Nat × AV)} {st : List AV} {h : AHp} {Po : Out → AHp → Prop} {ini : Bool} {M : MR} {E text : String}
theorem Bd.thr (B : Bd γ σ ini M d mc ms N0 Po) {code : List IE} (hc : okL ini (mO M) (mB M) code = true) (T : TSok RX10 ik ic E nRE) (hx : (RX10, is, text) ∈ exL) (hp : Po (.inr E) h) (hk : k + 1 ≤ mc) (hs : n + 6 ≤ ms) (hd : 6 ≤ d) (hM : cn (mO M) = RX10 := by rfl) (hrw : wsum st ≤ 100 := by exact Nat.le_of_ble_eq_true rfl)
    (q0 : dec_of code pc = some (.new ik) := by rfl) (q3 : dec_of code (pc + 3) = some .dup := by rfl) (q4 : dec_of code (pc + 4) = some (.ldc is) := by rfl) (q6 : dec_of code (pc + 6) = some (.invokespecial ic) := by rfl) (q9 : dec_of code (pc + 9) = some .athrow := by rfl) : At γ σ k n pc ls st h := by
  have O : OK γ RX10 (mB M) := hM ▸ B.1
  exact At.throwS O B.2.1 T hx B.2.2.2.1 hd hrw (dcN hc q0) (dc1 hc q3 (Or.inl rfl)) (dcL hc q4) (dcI hc q6) (dc1 hc q9 (Or.inr rfl)) hk hs (Or.inl rfl) hp
theorem Bd.thrW (B : Bd γ σ ini M d mc ms N0 Po) {code : List IE} (hc : okL ini (mO M) (mB M) code = true) (T : TSok RX10 ik ic E nRE) (hx : (RX10, is, text) ∈ exL) (hp : Po (.inr E) h) (hk : k + 1 ≤ mc) (hs : n + 6 ≤ ms) (hd : 6 ≤ d) (hM : cn (mO M) = RX10 := by rfl) (hrw : wsum st ≤ 100 := by exact Nat.le_of_ble_eq_true rfl)
    (q0 : dec_of code pc = some (.new ik) := by rfl) (q3 : dec_of code (pc + 3) = some .dup := by rfl) (q4 : dec_of code (pc + 4) = some (.ldc_w is) := by rfl) (q6 : dec_of code (pc + 7) = some (.invokespecial ic) := by rfl) (q9 : dec_of code (pc + 10) = some .athrow := by rfl) : At γ σ k n pc ls st h := by
  have O : OK γ RX10 (mB M) := hM ▸ B.1
  exact At.throwSW O B.2.1 T hx B.2.2.2.1 hd hrw (dcN hc q0) (dc1 hc q3 (Or.inl rfl)) (dcW hc q4) (dcI hc q6) (dc1 hc q9 (Or.inr rfl)) hk hs (Or.inl rfl) hp
end TH
def TNok (own : String) (ik ic : Nat) (E : String) : Prop := Bundle.fit E = true ∧ Cond.classLink own ik E ∈ FT ∧ Cond.initialized E ∈ FT ∧ (∀ w ∈ atN own ic E, w ∈ FT) ∧ ∀ w ∈ Cond.classLink own ik E :: Cond.initialized E :: atN own ic E, vx_ot w = true
theorem T_N : TNok RX10 223 227 xN := ⟨by decide +kernel, FT_all (l := [_]) (by decide +kernel) (by decide +kernel) _ List.mem_cons_self, FT_all (l := [_]) (by decide +kernel) (by decide +kernel) _ List.mem_cons_self, FT_all (by decide +kernel) (by decide +kernel), by decide +kernel⟩
section ATN
variable {γ : CX} {own : String} {cc : ByteArray} {σ σ0 : Nat → Nat → Nat} {k n pc N0 mc ms ik ic is d : Nat} {ls : List (Nat × AV)} {st rest : List AV} {h : AHp} {ret : Option FieldType} {Po : Out → AHp → Prop} {E text : String}
theorem At.throwN (O : OK γ own cc) (Fi : Fin γ σ0 N0 mc ms ret Po) (T : TNok own ik ic E) (hx : (own, is, text) ∈ exL) (hR : cR γ = rmD d mc ms) (hd : 6 ≤ d) (hrw : wsum st ≤ 100)
    (d0 : decode cc pc = .ok (.new ik, 3)) (d3 : decode cc (pc + 3) = .ok (.dup, 1)) {q : Nat} (d4 : (decode cc (pc + 4) = .ok (.ldc is, 2) ∧ q = pc + 6) ∨ (decode cc (pc + 4) = .ok (.ldc_w is, 3) ∧ q = pc + 7)) (d6 : decode cc q = .ok (.invokespecial ic, 3)) (d9 : decode cc (q + 3) = .ok (.athrow, 1))
    (hk : k + 1 ≤ mc) (hs : n + 6 ≤ ms) (hσ : σ = σ0 ∨ (N0 < h.length ∧ ∀ r, r < N0 → ∀ o, σ r o = σ0 r o)) (hp : Po (.inr E) h) : At γ σ k n pc ls st h := fun η H locs lsA a b c => by
  obtain ⟨f1, f2, η0, h0, sz, f3, f4, f5⟩ := Fi
  subst f3
  obtain ⟨sa, hsa⟩ := O.2.2.2.2.2.1.2.2.1 _ hx
  obtain ⟨t1, t3, t4, t5, t6⟩ := T
  unfold cW
  rw [f5]
  refine vx_throwN (is := is) (ic := ic) (cls := E) (A := cF γ) O.1 O.2.1 O.2.2.2.2.2.2.2.1 O.2.2.1 t1 (FT_hts O t3) (FT_hts O t4) hsa (fun w hw => FT_hts O (t5 w hw)) t6 O.2.2.2.2.2.1.2.2.2.2.1 O.2.2.2.2.2.1.2.2.2.2.2.1 b c.1 d0 d3 d4 d6 d9
    (fun x hx => absurd (f2 x hx) id) (by rw [hR]; show 2 + 3 < d; omega) ?_ (by rw [hR]; exact hk) (by rw [hR]; exact hs) O.2.2.2.2.2.2.2.2 (fun t hal hz hq => ?_) (fun z hz => by rw [← f4]; exact b.2.2 z hz) hk hs
  · rw [hR]
    have := wsum_eq (σ := σ) (κ := cκ γ) st
    show _ + (13 * 3 + 43) ≤ 48 * d
    omega
  · refine ⟨σ, h, η, hp, ?_, ?_, ?_, ?_⟩
    · rcases hσ with rfl | h9
      · exact fun _ _ _ => rfl
      · exact h9.2
    · rcases hσ with rfl | h9
      · exact fun _ => rfl
      · exact fun e => absurd e (by omega)
    · rw [← f4]
      refine ⟨fun r o c hg => ?_, a.2⟩
      have h1 := (a.1 r o c hg).moved hal
      refine h1.kept ?_ fun hsb => ?_
      · exact hq _ (Rep.size a (hget_pl hg))
      · exact hq _ (Rep.size a (p := (r, o, true)) ⟨c, hg, fun _ => hsb⟩)
    · rw [← f4]
      exact ⟨Nat.le_trans b.1 hz, fun q h1 h2 => by rw [hq q (Nat.lt_of_lt_of_le h1 b.1)]; exact b.2.1 q h1 h2⟩
variable {ini : Bool} {M : MR}
theorem Bd.thrN (B : Bd γ σ ini M d mc ms N0 Po) {code : List IE} (hc : okL ini (mO M) (mB M) code = true) (T : TNok RX10 ik ic E) (hx : (RX10, is, text) ∈ exL) (hp : Po (.inr E) h) (hk : k + 1 ≤ mc) (hs : n + 6 ≤ ms) (hd : 6 ≤ d) (hM : cn (mO M) = RX10 := by rfl) (hrw : wsum st ≤ 100 := by exact Nat.le_of_ble_eq_true rfl)
    (q0 : dec_of code pc = some (.new ik) := by rfl) (q3 : dec_of code (pc + 3) = some .dup := by rfl) (q4 : dec_of code (pc + 4) = some (.ldc is) := by rfl) (q6 : dec_of code (pc + 6) = some (.invokespecial ic) := by rfl) (q9 : dec_of code (pc + 9) = some .athrow := by rfl) : At γ σ k n pc ls st h := by
  have O : OK γ RX10 (mB M) := hM ▸ B.1
  exact At.throwN O B.2.1 T hx B.2.2.2.1 hd hrw (dcN hc q0) (dc1 hc q3 (Or.inl rfl)) (Or.inl ⟨dcL hc q4, rfl⟩) (dcI hc q6) (dc1 hc q9 (Or.inr rfl)) hk hs (Or.inl rfl) hp
theorem Bd.thrNW (B : Bd γ σ ini M d mc ms N0 Po) {code : List IE} (hc : okL ini (mO M) (mB M) code = true) (T : TNok RX10 ik ic E) (hx : (RX10, is, text) ∈ exL) (hp : Po (.inr E) h) (hk : k + 1 ≤ mc) (hs : n + 6 ≤ ms) (hd : 6 ≤ d) (hM : cn (mO M) = RX10 := by rfl) (hrw : wsum st ≤ 100 := by exact Nat.le_of_ble_eq_true rfl)
    (q0 : dec_of code pc = some (.new ik) := by rfl) (q3 : dec_of code (pc + 3) = some .dup := by rfl) (q4 : dec_of code (pc + 4) = some (.ldc_w is) := by rfl) (q6 : dec_of code (pc + 7) = some (.invokespecial ic) := by rfl) (q9 : dec_of code (pc + 10) = some .athrow := by rfl) : At γ σ k n pc ls st h := by
  have O : OK γ RX10 (mB M) := hM ▸ B.1
  exact At.throwN O B.2.1 T hx B.2.2.2.1 hd hrw (dcN hc q0) (dc1 hc q3 (Or.inl rfl)) (Or.inr ⟨dcW hc q4, rfl⟩) (dcI hc q6) (dc1 hc q9 (Or.inr rfl)) hk hs (Or.inl rfl) hp
end ATN
/-- the exception of a fault -/
def exF : Nat → String
  | 1 => xI
  | 2 => xA
  | 3 => xS
  | 4 => xN
  | _ => xM
def ouF (f : Nat) (v : Option AV) : Out := if f = 0 then .inl v else .inr (exF f)
def PoF (f : Nat) (v : Option AV) (h0 : AHp) : Out → AHp → Prop := fun o h => o = ouF f v ∧ h = h0
section AF
variable {γ : CX} {own : String} {cc : ByteArray} {σ : Nat → Nat → Nat} {k n pc N0 mc ms f : Nat} {ls : List (Nat × AV)} {st : List AV} {h hC hC2 : AHp} {mc2 ms2 d2 ix na r o : Nat} {M : MR} {c : ACell} {v : Option AV} {Po : Out → AHp → Prop} {ret : Option FieldType}
/-- a call that may throw: it goes on, or the throw is this method's own end -/
theorem At.fV (P : List Nat) (As rest : List AV) (O : OK γ own cc) (Fi : Fin γ σ N0 mc ms ret Po) {ci : Nat} {fs : List AV} {T : u_T} {N : Nat} (S : Sp d2 mc2 ms2 M (vR r o :: As) hC (PoF f v hC2)) (K : KV M na) (w : Cond.methodLink own ix (mY M) ∈ GT) (F : Fits P P hC h) (hf : Fit γ k n d2 mc2 ms2) (hk : k + mc2 ≤ mc) (hs : n + ms2 ≤ ms) (d : decode cc pc = .ok (.invokevirtual ix, 3))
    (g : f = 0 → At γ σ (k + mc2) (n + ms2) (pc + 3) ls ((v.toList.map (ren P)) ++ rest) (plug P P hC2 h)) (gx : ¬ f = 0 → Po (.inr (exF f)) (plug P P hC2 h)) (hn : va_nd P = true := by rfl) (hg : hget hC r o = some (aO ci fs) := by rfl) (hc : vwCl[ci]? = some ((mY M).cls, T, N) := by rfl) (hna : As.length = na := by rfl) (hrw : wsum rest ≤ 8 := by exact Nat.le_of_ble_eq_true rfl) (hst : st = (As.map (ren P)).reverse ++ vR (rn P r) o :: rest := by rfl) (hl : hC2.length = hC.length := by rfl) : At γ σ k n pc ls st h :=
  At.callV O S K w hn F hg hc hna hf hrw d hst (fun v2 h2 hp => by
    obtain ⟨hv, rfl⟩ := hp
    unfold ouF at hv
    by_cases hf : f = 0
    · rw [if_pos hf] at hv
      cases hv
      exact ⟨hl, g hf⟩
    · rw [if_neg hf] at hv
      cases hv) (fun E h2 hp => by
    obtain ⟨hv, rfl⟩ := hp
    unfold ouF at hv
    by_cases hf : f = 0
    · rw [if_pos hf] at hv
      cases hv
    · rw [if_neg hf] at hv
      cases hv
      exact ⟨hl, AtX.out O Fi hk hs (Or.inl rfl) (gx hf)⟩)
theorem At.fS (P : List Nat) (As rest : List AV) (O : OK γ own cc) (Fi : Fin γ σ N0 mc ms ret Po) (S : Sp d2 mc2 ms2 M As hC (PoF f v hC2)) (K : KS M na) (w : Cond.methodLink own ix (mY M) ∈ GT) (F : Fits P P hC h) (hf : Fit γ k n d2 mc2 ms2) (hk : k + mc2 ≤ mc) (hs : n + ms2 ≤ ms) (d : decode cc pc = .ok (.invokestatic ix, 3))
    (g : f = 0 → At γ σ (k + mc2) (n + ms2) (pc + 3) ls ((v.toList.map (ren P)) ++ rest) (plug P P hC2 h)) (gx : ¬ f = 0 → Po (.inr (exF f)) (plug P P hC2 h)) (hn : va_nd P = true := by rfl) (hna : As.length = na := by rfl) (hrw : wsum rest ≤ 8 := by exact Nat.le_of_ble_eq_true rfl) (hst : st = (As.map (ren P)).reverse ++ rest := by rfl) (hl : hC2.length = hC.length := by rfl) : At γ σ k n pc ls st h :=
  At.callS O S K w hn F hna hf hrw d hst (fun v2 h2 hp => by
    obtain ⟨hv, rfl⟩ := hp
    unfold ouF at hv
    by_cases hf : f = 0
    · rw [if_pos hf] at hv
      cases hv
      exact ⟨hl, g hf⟩
    · rw [if_neg hf] at hv
      cases hv) (fun E h2 hp => by
    obtain ⟨hv, rfl⟩ := hp
    unfold ouF at hv
    by_cases hf : f = 0
    · rw [if_pos hf] at hv
      cases hv
    · rw [if_neg hf] at hv
      cases hv
      exact ⟨hl, AtX.out O Fi hk hs (Or.inl rfl) (gx hf)⟩)
end AF
theorem s_refuse (f : Nat) (hf : f < 5) : Sp 6 1 6 mX10_refuse [vK f] [] (PoF f none []) := by
  refine Sp.of' false (fun h => by cases h) (by decide) rfl rfl (Nat.le_of_ble_eq_true rfl) fun γ σ B => ?_
  refine B.run okX10_refuse [] 60 ?_
  refine At.getFault B.1 (i := 1) rfl fs_X10_442 (dcG okX10_refuse rfl) ?_
  refine At.acmpK B.1 hf (by decide) (dcA okX10_refuse rfl) (t := 18) rfl (fun h1 => ?_) (fun h1 => by subst h1; exact B.thrW okX10_refuse T_I ex_445 ⟨rfl, rfl⟩ (by decide) (by decide) (by decide))
  refine B.run okX10_refuse [] 60 ?_
  refine At.getFault B.1 (i := 2) rfl fs_X10_439 (dcG okX10_refuse rfl) ?_
  refine At.acmpK B.1 hf (by decide) (dcA okX10_refuse rfl) (t := 36) rfl (fun h2 => ?_) (fun h1 => by subst h1; exact B.thrW okX10_refuse T_A ex_447 ⟨rfl, rfl⟩ (by decide) (by decide) (by decide))
  refine B.run okX10_refuse [] 60 ?_
  refine At.getFault B.1 (i := 3) rfl fs_X10_449 (dcG okX10_refuse rfl) ?_
  refine At.acmpK B.1 hf (by decide) (dcA okX10_refuse rfl) (t := 54) rfl (fun h3 => ?_) (fun h1 => by subst h1; exact B.thrW okX10_refuse T_S ex_452 ⟨rfl, rfl⟩ (by decide) (by decide) (by decide))
  refine B.run okX10_refuse [] 60 ?_
  refine At.getFault B.1 (i := 4) rfl fs_X10_454 (dcG okX10_refuse rfl) ?_
  refine At.acmpK B.1 hf (by decide) (dcA okX10_refuse rfl) (t := 72) rfl (fun h4 => ?_) (fun h1 => by subst h1; exact B.thrNW okX10_refuse T_N ex_457 ⟨rfl, rfl⟩ (by decide) (by decide) (by decide))
  refine B.run okX10_refuse [] 60 ?_
  have h0 : f = 0 := by omega
  subst h0
  exact ⟨⟨rfl, rfl⟩, by decide, by decide⟩
def fAmt (x : Int32) : Nat := if wiB x 1 200 = true then 0 else 2
theorem s_fAmt (x : Int32) : Sp 1 0 0 mX10_faultOfAmount [vI x] [] (PoA (vK (fAmt x)) []) := by
  refine Sp.of' false (fun h => by cases h) (by decide) rfl rfl (Nat.le_of_ble_eq_true rfl) fun γ σ B => ?_
  refine B.run okX10_faultOfAmount [] 60 ?_
  refine At.cSI [] [vI x, vI 1, vI 200] [] B.1 (s_isWithin x 1 200) kX10_isWithin ln_X10_154 trivial (B.fit (by decide) (by omega) (by omega)) (dcS okX10_faultOfAmount rfl) ?_
  refine B.run okX10_faultOfAmount [] 60 ?_
  constructor
  · intro h
    have h := b2_eq0.mp h
    refine At.getFault B.1 (i := 2) rfl fs_X10_439 (dcG okX10_faultOfAmount rfl) ?_
    refine B.run okX10_faultOfAmount [] 60 ?_
    exact rA (by unfold fAmt; rw [h]; rfl)
  · intro h
    have h := b2_ne0.mp h
    refine At.getFault B.1 (i := 0) rfl fs_X10_402 (dcG okX10_faultOfAmount rfl) ?_
    refine B.run okX10_faultOfAmount [] 60 ?_
    exact rA (by unfold fAmt; rw [if_pos h])
