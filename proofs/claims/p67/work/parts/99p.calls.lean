/-! ===== calls over the class's world with more behind it ===== -/
section LCA
variable {γ : CX} {own : String} {cc : ByteArray} {σ : Nat → Nat → Nat} {k n pc ix na d2 ms2 mc2 f : Nat} {ls : List (Nat × AV)} {st rest : List AV} {hh : HH} {M : MR} {K K1 K0 : KS'} {e : AHp} {x v : Int32}
/-- a read that makes no cell -/
theorem At.lZ (As rest : List AV) (O : OK γ own cc) (S : Sp d2 0 0 M (vR 0 0 :: As) (world K) (PoI x (world K))) (Kx : KV M na) (w : Cond.methodLink own ix (mY M) ∈ GT) (hf : Fit γ k n d2 0 0) (dd : decode cc pc = .ok (.invokevirtual ix, 3))
    (g : At γ σ k n (pc + 3) ls (vI x :: rest) (world K ++ e)) (hcls : (mY M).cls = RX10 := by rfl) (hna : As.length = na := by rfl) (hrw : wsum rest ≤ 8 := by exact Nat.le_of_ble_eq_true rfl) (hst : st = As.reverse ++ vR 0 0 :: rest := by rfl) (ha : As.map (ren R65) = As := by rfl) : At γ σ k n pc ls st (world K ++ e) := by
  refine At.callV (P := R65) (rest := rest) O S Kx w nd65 (Fits_pre id65 (world_bd K) (world_len K) e) (ci := 11) (T := TX10) (N := 13) rfl (by rw [hcls]; rfl) hna hf hrw dd (by rw [ha]; exact hst) (fun v2 h2 hp => ?_) (fun E h2 hp => by cases hp.1)
  obtain ⟨e1, rfl⟩ := hp
  cases e1
  refine ⟨rfl, ?_⟩
  rw [show plug R65 R65 (world K) (world K ++ e) = world K ++ e from plug_pre id65 (world_bd K) (world_len K) (world_len K) e]
  exact g
theorem At.lZ0 (As rest : List AV) (O : OK γ own cc) (S : Sp d2 0 0 M (vR 0 0 :: As) (world K) (PoI x (world K))) (Kx : KV M na) (w : Cond.methodLink own ix (mY M) ∈ GT) (hf : Fit γ k n d2 0 0) (dd : decode cc pc = .ok (.invokevirtual ix, 3))
    (g : At γ σ k n (pc + 3) ls (vI x :: rest) (world K)) (hcls : (mY M).cls = RX10 := by rfl) (hna : As.length = na := by rfl) (hrw : wsum rest ≤ 8 := by exact Nat.le_of_ble_eq_true rfl) (hst : st = As.reverse ++ vR 0 0 :: rest := by rfl) (ha : As.map (ren R65) = As := by rfl) : At γ σ k n pc ls st (world K) := by
  have z := At.lZ (e := []) As rest O S Kx w hf dd (by rw [List.append_nil]; exact g) hcls hna hrw hst ha
  rw [List.append_nil] at z
  exact z
/-- the class's method, where it doesn't throw -/
theorem At.lC (As rest : List AV) {v : AV} (O : OK γ own cc) (S : Sp 12 12 ms2 M (vR 0 0 :: As) (world K) (PoC f (some v) K1 K0)) (hf0 : f = 0) (Kx : KV M na) (w : Cond.methodLink own ix (mY M) ∈ GT) (hf : Fit γ k n 12 12 ms2) (dd : decode cc pc = .ok (.invokevirtual ix, 3))
    (g : ∀ T C, WF T → At γ σ (k + 12) (n + ms2) (pc + 3) ls (v :: rest) (world (scr K1 T C) ++ e)) (hcls : (mY M).cls = RX10 := by rfl) (hv : ren R65 v = v := by rfl) (hna : As.length = na := by rfl) (hrw : wsum rest ≤ 8 := by exact Nat.le_of_ble_eq_true rfl) (hst : st = As.reverse ++ vR 0 0 :: rest := by rfl) (ha : As.map (ren R65) = As := by rfl) : At γ σ k n pc ls st (world K ++ e) := by
  refine At.callV (P := R65) (rest := rest) O S Kx w nd65 (Fits_pre id65 (world_bd K) (world_len K) e) (ci := 11) (T := TX10) (N := 13) rfl (by rw [hcls]; rfl) hna hf hrw dd (by rw [ha]; exact hst) (fun v2 h2 hp => ?_) (fun E h2 hp => ?_)
  · obtain ⟨T, C, hT, h0, h1⟩ := hp
    obtain ⟨e1, rfl⟩ := h0 hf0
    cases e1
    refine ⟨rfl, ?_⟩
    rw [show plug R65 R65 (world (scr K1 T C)) (world K ++ e) = world (scr K1 T C) ++ e from plug_pre id65 (world_bd _) (world_len K) (world_len _) e, show List.map (ren R65) (Option.toList (some v)) = [v] from by show [ren R65 v] = [v]; rw [hv]]
    exact g T C hT
  · obtain ⟨T, C, hT, h0, h1⟩ := hp
    cases (h0 hf0).1
/-- a wrapper -/
theorem At.lS (As rest : List AV) (O : OK γ own cc) (S : SpH hh 13 12 ms2 M As (world K) (PoU f v K1 K0)) (Kx : KSH M hh na) (w : Cond.methodLink own ix (mY M) ∈ GT) (hf : Fit γ k n 13 12 ms2) (dd : decode cc pc = .ok (.invokestatic ix, 3))
    (g : ∀ T C, WF T → At γ σ (k + 12) (n + ms2) (pc + 3) ls (vI (if f = 0 then v else cdU f) :: rest) (world (scr (if f = 0 then K1 else K0) T C) ++ e)) (hna : As.length = na := by rfl) (hrw : wsum rest ≤ 8 := by exact Nat.le_of_ble_eq_true rfl) (hst : st = (As.map (ren R65)).reverse ++ rest := by rfl) : At γ σ k n pc ls st (world K ++ e) := by
  refine At.callSH (P := R65) (rest := rest) O S Kx w nd65 (Fits_pre id65 (world_bd K) (world_len K) e) hna hf hrw dd hst (fun v2 h2 hp => ?_) (fun E h2 hp => ?_)
  · obtain ⟨T, C, hT, e1, rfl⟩ := hp
    cases e1
    refine ⟨rfl, ?_⟩
    rw [show plug R65 R65 (world (scr (if f = 0 then K1 else K0) T C)) (world K ++ e) = world (scr (if f = 0 then K1 else K0) T C) ++ e from plug_pre id65 (world_bd _) (world_len K) (world_len _) e]
    exact g T C hT
  · obtain ⟨T, C, hT, e1, -⟩ := hp
    cases e1
theorem At.lS0 (As rest : List AV) (O : OK γ own cc) (S : SpH hh 13 12 ms2 M As (world K) (PoU f v K1 K0)) (Kx : KSH M hh na) (w : Cond.methodLink own ix (mY M) ∈ GT) (hf : Fit γ k n 13 12 ms2) (dd : decode cc pc = .ok (.invokestatic ix, 3))
    (g : ∀ T C, WF T → At γ σ (k + 12) (n + ms2) (pc + 3) ls (vI (if f = 0 then v else cdU f) :: rest) (world (scr (if f = 0 then K1 else K0) T C))) (hna : As.length = na := by rfl) (hrw : wsum rest ≤ 8 := by exact Nat.le_of_ble_eq_true rfl) (hst : st = (As.map (ren R65)).reverse ++ rest := by rfl) : At γ σ k n pc ls st (world K) := by
  have z := At.lS (e := []) As rest O S Kx w hf dd (fun T C hT => by rw [List.append_nil]; exact g T C hT) hna hrw hst
  rw [List.append_nil] at z
  exact z
/-- an int of which something is known; no cell is looked at -/
def PoX (R : Int32 → Prop) : Out → AHp → Prop := fun o h => ∃ x, R x ∧ o = .inl (some (vI x)) ∧ h = []
theorem At.sI (As rest : List AV) {R : Int32 → Prop} {h : AHp} (O : OK γ own cc) (S : Sp d2 mc2 ms2 M As [] (PoX R)) (Kx : KS M na) (w : Cond.methodLink own ix (mY M) ∈ GT) (hf : Fit γ k n d2 mc2 ms2) (dd : decode cc pc = .ok (.invokestatic ix, 3))
    (g : ∀ x, R x → At γ σ (k + mc2) (n + ms2) (pc + 3) ls (vI x :: rest) h) (hna : As.length = na := by rfl) (hrw : wsum rest ≤ 8 := by exact Nat.le_of_ble_eq_true rfl) (hst : st = (As.map (ren [])).reverse ++ rest := by rfl) : At γ σ k n pc ls st h := by
  refine At.callS (P := []) (hC := []) (rest := rest) O S Kx w rfl trivial hna hf hrw dd hst (fun v2 h2 hp => ?_) (fun E h2 hp => by obtain ⟨_, _, z, _⟩ := hp; cases z)
  obtain ⟨x, hx, e1, rfl⟩ := hp
  cases e1
  exact ⟨rfl, g x hx⟩
theorem At.ushr {h : AHp} (O : OK γ own cc) {y z : Int32} (d : decode cc pc = .ok (.iushr, 1)) (hv : (x.toUInt32 >>> (y.toUInt32 &&& Int32.toUInt32 31)).toInt32 = z) (g : At γ σ k n (pc + 1) ls (vI z :: st) h) : At γ σ k n pc ls (vI y :: vI x :: st) h := fun η H locs lsA a b c => lv_iushr O.1 O.2.1 d hv (g η H locs lsA a b c)
end LCA
theorem dcUs {ini : Bool} {o : Nat} {cc : ByteArray} {l : List IE} (h : okL ini o cc l = true) {pc : Nat} (hd : dec_of l pc = some .iushr) : decode cc pc = .ok (.iushr, 1) := by
  obtain ⟨e, rfl, e2, h1, -⟩ := okL_dec h hd
  obtain ⟨len, h3, h4⟩ := okD_spec h1
  rw [e2] at h3 h4
  rw [h3, beq_iff_eq.mp h4]
  rfl
theorem nI_mul (a b : Nat) : nI a * nI b = nI (a * b) := by
  show Int32.ofNat a * Int32.ofNat b = Int32.ofNat (a * b)
  exact (Int32.ofNat_mul a b).symm
theorem nI_rem {z m : Nat} (hz : z < 2 ^ 31) (hm : 0 < m) (hm2 : m < 2 ^ 31) : nI z - nI z / nI m * nI m = nI (z % m) := by
  have h := Nat.div_add_mod z m
  rw [Nat.mul_comm] at h
  rw [pk_div hz hm hm2, nI_mul, pk_sub (by omega)]
  congr 1
  omega
/-! ===== cell, some ===== -/
theorem s_cell (q : Nat) (hq : q < 2 ^ 31) : Sp 1 0 0 mL_cell [vK 60, vI (nI q)] [] (PoX fun _ => True) := by
  refine Sp.of' false (fun h => by cases h) (by decide) rfl rfl (Nat.le_of_ble_eq_true rfl) fun γ σ B => ?_
  obtain ⟨L, f, hL, hT⟩ := (sx B.1).1.2.1
  refine B.run okL_cell [] 60 ?_
  refine At.tlen B.1 hT (x := vK 60) rfl (dc1L okL_cell rfl (by simp [L1])) ?_
  refine B.run okL_cell [] 60 ?_
  constructor
  · intro _
    exact ⟨⟨_, trivial, rfl, rfl⟩, by decide, by decide⟩
  · intro h
    have hqL : q < L := Nat.lt_of_not_le fun z => h (nI_le z hq)
    refine At.tiald B.1 hT (x := vK 60) (v := vI (f q)) rfl (vp_in_nI hqL hL) (by rw [nI_clamp hq]; rfl) (dc1L okL_cell rfl (by simp [L1])) ?_
    refine B.run okL_cell [] 60 ?_
    exact ⟨⟨_, trivial, rfl, rfl⟩, by decide, by decide⟩
theorem nI_bv (x : Int32) : x = nI x.toBitVec.toNat := by
  apply Int32.toBitVec_inj.mp
  apply BitVec.eq_of_toNat_eq
  show x.toBitVec.toNat = x.toBitVec.toNat % 2 ^ 32
  have := x.toBitVec.isLt
  omega
theorem s_some (q m : Nat) (hq : q < 2 ^ 31) (hm : 0 < m) (hm2 : m < 2 ^ 31) : Sp 3 0 0 mL_some [vK 60, vI (nI q), vI (nI m)] [] (PoX fun x => ∃ j, j < m ∧ x = nI j) := by
  refine Sp.of' false (fun h => by cases h) (by decide) rfl rfl (Nat.le_of_ble_eq_true rfl) fun γ σ B => ?_
  refine B.run okL_some [] 60 ?_
  refine At.sI [vK 60, vI (nI q)] [] B.1 (s_cell q hq) kL_cell ln_L_7 (B.fit (by decide) (by decide) (by decide)) (dcS okL_some rfl) (fun x _ => ?_)
  refine B.run okL_some [] 60 ?_
  have hb := x.toBitVec.isLt
  refine At.ushr B.1 (dcUs okL_some rfl) (z := nI (x.toBitVec.toNat / 2 ^ 3)) ?_ ?_
  · have e := pk_ushrN (n := x.toBitVec.toNat) (by omega) 3 3 (by decide)
    rw [← nI_bv x] at e
    exact e
  generalize hz : x.toBitVec.toNat / 2 ^ 3 = z
  have hz2 : z < 2 ^ 31 := by omega
  refine B.run okL_some [] 60 ?_
  refine ⟨nI_ne0 hm hm2, ?_⟩
  exact ⟨⟨_, ⟨z % m, Nat.mod_lt _ hm, nI_rem hz2 hm hm2⟩, rfl, rfl⟩, by decide, by decide⟩
/-! ===== isLine ===== -/
theorem s_isLn0 (K : KS') : Sp 14 0 0 mL_isLine [vR 0 0, vI (nI 0), vK 15] (world K) (PoI 1 (world K)) := by
  refine Sp.of' false (fun h => by cases h) (by decide) rfl rfl (Nat.le_of_ble_eq_true rfl) fun γ σ B => ?_
  have hS := sx_str B.1 (j := 0) (by decide)
  refine B.run okL_isLine [] 60 ?_
  refine At.qK [] [] [vI (nI 0)] B.1 (x := vK (15 + 0)) (fun _ => rfl) hS.1 (s_strN 0 (by decide)) kJ0_length_8abf5 ln_L_158 trivial (B.fit (by decide) (by decide) (by decide)) (dcV okL_isLine rfl) ?_
  refine B.run okL_isLine [] 60 ?_
  refine ⟨fun _ => ⟨fun _ => ⟨Or.inr rfl, rI rfl⟩, fun h => absurd (by decide) h⟩, fun h => absurd rfl h⟩
/-- a string's two regions behind the class's world and the regions e -/
abbrev sR (g n : Nat) (f : Nat → Int32) : AHp := [[sO (g + 1)], [sY n f]]
theorem s_isLn (K : KS') (hK : WK K) (n : Nat) (t : Nat → Nat) (f : Nat → Int32) (hn : (kL K).1 = n) (h1 : n ≤ 1000) (hL : sb_Lat t n f) (ht : ∀ j, j < n → t j = (kL K).2.2 j) : Sp 14 0 0 mL_isLine [vR 0 0, vI (nI n), vR 65 0] (world K ++ sR 65 n f) (PoI 1 (world K ++ sR 65 n f)) := by
  subst hn
  refine Sp.of' false (fun h => by cases h) (by decide) rfl rfl (Nat.le_of_ble_eq_true rfl) fun γ σ B => ?_
  have loop : ∀ (m i : Nat), i + m = (kL K).1 → At γ σ 0 0 12 [(0, vR 0 0), (1, vI (nI (kL K).1)), (2, vR 65 0), (3, vI (nI i))] [] (world K ++ sR 65 (kL K).1 f) := by
    intro m
    induction m with
    | zero =>
      intro i hi
      have hi : i = (kL K).1 := by omega
      subst hi
      refine B.run okL_isLine [(12, [0, 1, 2, 3])] 60 ?_
      exact ⟨fun _ => ⟨Or.inr rfl, rI rfl⟩, fun h => absurd (nI_le (Nat.le_refl _) (by omega)) h⟩
    | succ m ih =>
      intro i hi
      have hil : i < (kL K).1 := by omega
      refine B.run okL_isLine [(12, [0, 1, 2, 3])] 60 ?_
      refine ⟨fun h => absurd h (nI_ge (by omega) (by omega)), fun _ => ?_⟩
      refine At.lZ [vI (nI i)] [] B.1 (z_lineChar K hK i h1 hil) kX10_lineChar ln_L_163 (B.fit (by decide) (by decide) (by decide)) (dcV okL_isLine rfl) ?_
      refine B.run okL_isLine [(12, [0, 1, 2, 3])] 60 ?_
      refine At.qV [65, 66] [vI (nI i)] [vI (nI ((kL K).2.2 i))] B.1 (c := sO 1) (s_hchr (kL K).1 i t f hL hil (by omega)) kJ0_charAt_5068e ln_L_167 ⟨rfl, rfl, trivial⟩ (B.fit (by decide) (by decide) (by decide)) (dcV okL_isLine rfl) rcvS ?_
      show At γ σ 0 0 27 [(0, vR 0 0), (1, vI (nI (kL K).1)), (2, vR 65 0), (3, vI (nI i))] [vI (nI (t i)), vI (nI ((kL K).2.2 i))] (world K ++ sR 65 (kL K).1 f)
      refine B.run okL_isLine [(12, [0, 1, 2, 3])] 60 ?_
      refine ⟨fun _ => ?_, fun h => absurd (by rw [ht i hil]) h⟩
      show At γ σ 0 0 12 [(0, vR 0 0), (1, vI (nI (kL K).1)), (2, vR 65 0), (3, vI (nI i + 1))] [] (world K ++ sR 65 (kL K).1 f)
      rw [nI_1]
      exact ih (i + 1) (by omega)
  refine B.run okL_isLine [] 60 ?_
  refine At.qV [65, 66] [] [vI (nI (kL K).1)] B.1 (c := sO 1) (s_hlen (kL K).1 f) kJ0_length_8abf5 ln_L_158 ⟨rfl, rfl, trivial⟩ (B.fit (by decide) (by decide) (by decide)) (dcV okL_isLine rfl) rcvS ?_
  show At γ σ 0 0 5 [(0, vR 0 0), (1, vI (nI (kL K).1)), (2, vR 65 0)] [vI (nI (kL K).1), vI (nI (kL K).1)] (world K ++ sR 65 (kL K).1 f)
  refine B.run okL_isLine [(12, [0, 1, 2, 3])] 60 ?_
  exact ⟨fun _ => loop (kL K).1 0 (by omega), fun h => absurd rfl h⟩
