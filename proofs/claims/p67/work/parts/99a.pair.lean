/-! ===== the class's ship and the model's: all the same but the order of the storms ===== -/
def SP (S T : SH) : Prop := ∃ a b, T = stSt S (gsc S, a, b, glc S, glg S) ∧ PM (gsc S) (gmi S) (gsg S) a b ∧ SO (gsc S) (gmi S)
theorem SP.wf {S T : SH} (h : SP S T) (hS : WF S) : WF T := by
  obtain ⟨a, b, rfl, p, s⟩ := h
  exact hS
theorem SP.vb {S T : SH} (h : SP S T) (hS : VB S) : VB T := by
  obtain ⟨a, b, rfl, p, s⟩ := h
  exact hS
theorem SP.vs {S T : SH} (h : SP S T) (hS : VS S) : VS T := by
  obtain ⟨a, b, rfl, p, s⟩ := h
  refine ⟨hS.1, fun i hi => ?_⟩
  obtain ⟨j, hj, e1, e2⟩ := p.2.2.2 i hi
  show bI (b i) 1 9
  rw [← e2]
  exact hS.2 j hj
theorem SP_leak {S T : SH} (h : SP S T) : SP (leakS S) (leakS T) := by
  obtain ⟨a, b, rfl, p, s⟩ := h
  exact ⟨a, b, rfl, p, s⟩
theorem SP_pump {S T : SH} (h : SP S T) : SP (pumpS S) (pumpS T) := by
  obtain ⟨a, b, rfl, p, s⟩ := h
  exact ⟨a, b, rfl, p, s⟩
theorem SP_sink {S T : SH} (h : SP S T) : SP (sinkS S) (sinkS T) := by
  obtain ⟨a, b, rfl, p, s⟩ := h
  exact ⟨a, b, rfl, p, s⟩
theorem SP_stM {S T : SH} (h : SP S T) (x : Int32) : SP (stM S x) (stM T x) := by
  obtain ⟨a, b, rfl, p, s⟩ := h
  exact ⟨a, b, rfl, p, s⟩
theorem SP_stL {S T : SH} (h : SP S T) (x : FI) : SP (stL S x) (stL T x) := by
  obtain ⟨a, b, rfl, p, s⟩ := h
  exact ⟨a, b, rfl, p, s⟩
theorem PM_rem' {n : Nat} {a b a' b' : FI} (h : PM n a b a' b') (hs : SO n a) {q q' : Nat} (hq : q < n) (hq' : q' < n) (e : a q = a' q') : PM (n - 1) (shl a q (n - 1)) (shl b q (n - 1)) (shl a' q' (n - 1)) (shl b' q' (n - 1)) ∧ SO (n - 1) (shl a q (n - 1)) := by
  obtain ⟨k, rfl⟩ : ∃ k, n = k + 1 := ⟨n - 1, by omega⟩
  exact ⟨PM_rem h hq hq' e, SO_shl hs⟩
theorem SP_stQ {S : SH} {a b : FI} (p : PM (gsc S) (gmi S) (gsg S) a b) (s : SO (gsc S) (gmi S)) {x : Int32} (hf : fst (eqB (gmi S) x) (gsc S) < gsc S) : SP (stQ S (fst (eqB (gmi S) x) (gsc S))) (stQ (stSt S (gsc S, a, b, glc S, glg S)) (fst (eqB a x) (gsc S))) := by
  have hf' := (p.has x).mpr hf
  obtain ⟨p1, s1⟩ := PM_rem' p s hf hf' (by rw [fst_val hf, fst_val hf'])
  exact ⟨_, _, rfl, p1, s1⟩
theorem SP_strike {S T : SH} (h : SP S T) : SP (strike S) (strike T) := by
  obtain ⟨a, b, rfl, p, s⟩ := h
  unfold strike
  by_cases hf : fst (eqB (gmi S) (gmn S)) (gsc S) < gsc S
  · have hf' : fst (eqB a (gmn S)) (gsc S) < gsc S := (p.has _).mpr hf
    have hq := SP_stQ p s hf
    have hg : b (fst (eqB a (gmn S)) (gsc S)) = gsg S (fst (eqB (gmi S) (gmn S)) (gsc S)) := p.str hf
    rw [if_pos hf]
    show SP _ (if fst (eqB a (gmn S)) (gsc S) < gsc S then (if 0 < gc S then stL (stQ (stSt S (gsc S, a, b, glc S, glg S)) (fst (eqB a (gmn S)) (gsc S))) (upd (gl S) (fuN (ldI S) (gc S)) (minI (gl S (fuN (ldI S) (gc S)) + b (fst (eqB a (gmn S)) (gsc S))) 20)) else stQ (stSt S (gsc S, a, b, glc S, glg S)) (fst (eqB a (gmn S)) (gsc S))) else _)
    rw [if_pos hf', hg]
    split
    · exact SP_stL hq _
    · exact hq
  · have hf' : ¬ fst (eqB a (gmn S)) (gsc S) < gsc S := fun w => hf ((p.has _).mp w)
    rw [if_neg hf]
    show SP _ (if fst (eqB a (gmn S)) (gsc S) < gsc S then _ else stSt S (gsc S, a, b, glc S, glg S))
    rw [if_neg hf']
    exact ⟨a, b, rfl, p, s⟩
theorem SP.mn {S T : SH} (h : SP S T) : gmn T = gmn S := by
  obtain ⟨a, b, rfl, p, s⟩ := h
  rfl
theorem SP.sk {S T : SH} (h : SP S T) : gsk T = gsk S := by
  obtain ⟨a, b, rfl, p, s⟩ := h
  rfl
theorem SP_tick {S T : SH} (h : SP S T) : SP (tick S) (tick T) := by
  unfold tick
  rw [h.mn]
  exact SP_sink (SP_pump (SP_leak (SP_strike (SP_stM h _))))
theorem SP_tks : ∀ (n : Nat) {S T : SH}, SP S T → SP (tks n S) (tks n T)
  | 0, _, _, h => h
  | n + 1, S, T, h => by
    rw [tks_s, tks_s, h.sk]
    split
    · exact SP_tks n (SP_tick h)
    · exact h
theorem SP_tkc : ∀ (n : Nat) {S T : SH}, SP S T → tkc n T = tkc n S
  | 0, _, _, _ => rfl
  | n + 1, S, T, h => by
    rw [tkc_s, tkc_s, h.sk, SP_tkc n (SP_tick h)]
/-! the changes -/
theorem SP.add {S T : SH} (h : SP S T) (x y : Int32) : SP (eAdd S x y) (eAdd T x y) ∧ fAdd T x y = fAdd S x y := by
  obtain ⟨a, b, rfl, p, s⟩ := h
  exact ⟨⟨a, b, rfl, p, s⟩, rfl⟩
theorem SP.put {S T : SH} (h : SP S T) (x y : Int32) : SP (ePut S x y) (ePut T x y) ∧ fLoad T x y = fLoad S x y := by
  obtain ⟨a, b, rfl, p, s⟩ := h
  exact ⟨⟨a, b, rfl, p, s⟩, rfl⟩
theorem SP.rem {S T : SH} (h : SP S T) (x : Int32) : SP (eRem S x) (eRem T x) ∧ fUnl T x = fUnl S x := by
  obtain ⟨a, b, rfl, p, s⟩ := h
  exact ⟨⟨a, b, rfl, p, s⟩, rfl⟩
theorem SP.car {S T : SH} (h : SP S T) (x y : Int32) : SP (eCar S x y) (eCar T x y) ∧ fShf T x y = fShf S x y := by
  obtain ⟨a, b, rfl, p, s⟩ := h
  exact ⟨⟨a, b, rfl, p, s⟩, rfl⟩
theorem SP.rat {S T : SH} (h : SP S T) (x y : Int32) : SP (eLk S x y) (eLk T x y) ∧ SP (eGu S x y) (eGu T x y) ∧ fRat T x y = fRat S x y := by
  obtain ⟨a, b, rfl, p, s⟩ := h
  exact ⟨⟨a, b, rfl, p, s⟩, ⟨a, b, rfl, p, s⟩, rfl⟩
theorem SP.mov {S T : SH} (h : SP S T) (x y z : Int32) : SP (eMov S x y z) (eMov T x y z) ∧ fMov T x y z = fMov S x y z := by
  obtain ⟨a, b, rfl, p, s⟩ := h
  exact ⟨⟨a, b, rfl, p, s⟩, rfl⟩
theorem SP.pow {S T : SH} (h : SP S T) (x : Int32) : SP (ePow S x) (ePow T x) ∧ SP (eLim S x) (eLim T x) := by
  obtain ⟨a, b, rfl, p, s⟩ := h
  exact ⟨⟨a, b, rfl, p, s⟩, ⟨a, b, rfl, p, s⟩⟩
theorem SP.pas {S T : SH} (h : SP S T) (x : Int32) : SP (ePas S x) (ePas T x) ∧ fPas T x = fPas S x := by
  refine ⟨SP_tks _ h, ?_⟩
  obtain ⟨a, b, rfl, p, s⟩ := h
  rfl
theorem SP.fsch {S T : SH} (h : SP S T) (x y : Int32) : fSch T x y = fSch S x y := by
  obtain ⟨a, b, rfl, p, s⟩ := h
  unfold fSch
  show (if gmn S < x ∧ x - gmn S ≤ 999 ∧ wiB y 1 9 = true then (if ¬ fst (eqB a x) (gsc S) < gsc S ∧ gsc S < 6 then 0 else 3) else 2) = _
  simp only [p.has x]
theorem SP.sch {S T : SH} (h : SP S T) {x y : Int32} (hf : fSch S x y = 0) : SP (eSch S x y) (schT T x y) := by
  obtain ⟨a, b, rfl, p, s⟩ := h
  have hn : ¬ fst (eqB (gmi S) x) (gsc S) < gsc S := by
    unfold fSch at hf
    split at hf
    · split at hf
      · rename_i w; exact w.1
      · cases hf
    · cases hf
  have hx : ∀ i, i < gsc S → gmi S i ≠ x := fun i hi e => hn (fst_ex.mpr ⟨i, hi, decide_eq_true e⟩)
  have hp := insP_le (gmi S) x (gsc S)
  have h1 := PM_add (y := y) p (p := insP (gmi S) x (gsc S)) (p' := gsc S) (by omega) (by omega) hx
  rw [ins_last, ins_last] at h1
  exact ⟨_, _, rfl, h1, SO_ins s hx⟩
theorem SP.fstm {S T : SH} (h : SP S T) (x : Int32) : fStm T x = fStm S x ∧ (fStm S x = 0 → gsg T (tq T x) = gsg S (tq S x)) := by
  obtain ⟨a, b, rfl, p, s⟩ := h
  have e : fStm (stSt S (gsc S, a, b, glc S, glg S)) x = fStm S x := by
    unfold fStm
    show (if fst (eqB a x) (gsc S) < gsc S then 0 else 4) = _
    simp only [p.has x]
  refine ⟨e, fun hf => ?_⟩
  have hn : fst (eqB (gmi S) x) (gsc S) < gsc S := by
    unfold fStm at hf
    split at hf
    · assumption
    · cases hf
  exact p.str hn
theorem SP.can {S T : SH} (h : SP S T) {x : Int32} (hf : fStm S x = 0) : SP (eCan S x) (eCan T x) := by
  obtain ⟨a, b, rfl, p, s⟩ := h
  have hn : fst (eqB (gmi S) x) (gsc S) < gsc S := by
    unfold fStm at hf
    split at hf
    · assumption
    · cases hf
  have hn' := (p.has x).mpr hn
  obtain ⟨p1, s1⟩ := PM_rem' p s hn hn' (by rw [fst_val hn, fst_val hn'])
  exact ⟨_, _, rfl, p1, s1⟩
/-! the text of the storms -/
theorem ct_lt : ∀ (n k : Nat), k ≤ n → ctB (fun i => decide (i < k)) n = k
  | 0, k, h => by
    have : k = 0 := by omega
    subst this
    rfl
  | n + 1, k, h => by
    show ctB (fun i => decide (i < k)) n + (if decide (n < k) = true then 1 else 0) = k
    by_cases e : k = n + 1
    · subst e
      rw [if_pos (decide_eq_true (Nat.lt_succ_self n))]
      have : ctB (fun i => decide (i < n + 1)) n = ctB (fun i => decide (i < n)) n := ctB_cg fun i hi => by
        rw [decide_eq_true (show i < n + 1 by omega), decide_eq_true hi]
      rw [this, ct_lt n n (Nat.le_refl _)]
    · rw [if_neg (by rw [decide_eq_false (by omega)]; decide), ct_lt n k (by omega), Nat.add_zero]
theorem SO.rank {n : Nat} {a : FI} (h : SO n a) {k : Nat} (hk : k < n) : ctB (fun i => decide (a i < a k)) n = k := by
  refine Eq.trans (ctB_cg fun i hi => ?_) (ct_lt n k (by omega))
  by_cases e : i < k
  · rw [decide_eq_true e, decide_eq_true (Int32.lt_iff_toInt_lt.mpr (h i k e hk))]
  · rw [decide_eq_false e, decide_eq_false fun w => ?_]
    have w := bI_lt w
    by_cases e2 : i = k
    · rw [e2] at w; omega
    · have := h k i (by omega) hi
      omega
theorem pN_pos (L : SBB) (x : Int32) : 1 ≤ (pN L x).1 := by
  have := (itL_in (decide (x < 0)) x.toInt.natAbs).1
  show 1 ≤ L.1 + itL (decide (x < 0)) x.toInt.natAbs
  omega