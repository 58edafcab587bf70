/-! ===== what holds of the law's ship ===== -/
theorem SO.inj {n : Nat} {a : FI} (h : SO n a) : injN n a := fun i j hi hj e => by
  rcases Nat.lt_trichotomy i j with z | z | z
  · have := h i j z hj
    rw [e] at this; omega
  · exact z
  · have := h j i z hi
    rw [e] at this; omega
theorem SP_self {S : SH} (h : SO (gsc S) (gmi S)) : SP S S := ⟨gmi S, gsg S, rfl, ⟨h.inj, h.inj, fun i hi => ⟨i, hi, rfl, rfl⟩, fun i hi => ⟨i, hi, rfl, rfl⟩⟩, h⟩
theorem SP.so {S T : SH} (h : SP S T) : SO (gsc S) (gmi S) := by
  obtain ⟨a, b, -, -, s⟩ := h
  exact s
/-- ids stand in their order, below the next one -/
def IDo (S : SH) : Prop := SO (gp S) (gid S) ∧ ∀ k, k < gp S → (gid S k).toInt < (gnx S).toInt
/-- storms are due within twelve minutes -/
def WN (S : SH) : Prop := ∀ i, i < gsc S → (gmn S).toInt < (gmi S i).toInt ∧ (gmi S i).toInt ≤ (gmn S).toInt + 12
/-- what floats isn't too heavy -/
def AF (S : SH) : Prop := gsk S = 0 → (twI S).toInt ≤ 900
def GJ (B : Nat) (S : SH) : Prop := GS B S ∧ SO (gsc S) (gmi S) ∧ IDo S ∧ WN S ∧ AF S
theorem GJ.le {B C : Nat} {S : SH} (h : GJ B S) (hb : B ≤ C) : GJ C S := ⟨h.1.le hb, h.2⟩
theorem wi_in {x a b : Int32} (h : wiB x a b = true) : a.toInt ≤ x.toInt ∧ x.toInt ≤ b.toInt := bI_wi h
/-! weights -/
theorem tw_add {S : SH} {x y : Int32} (hS : WF S) (hS2 : WF (eAdd S x y)) : twI (eAdd S x y) = twI S := by
  rw [tw_parts hS2, tw_parts hS]
  show sumI (upd (gw S) (gc S) 0) (gc S + 1) + sumI (gwt S) (gp S) = _
  have e : sumI (upd (gw S) (gc S) 0) (gc S + 1) = sumI (upd (gw S) (gc S) 0) (gc S) + upd (gw S) (gc S) 0 (gc S) := rfl
  rw [e, upd_eq, sumI_cong (g := gw S) fun i hi => upd_ne _ _ (by omega)]
  grind
theorem tw_put {S : SH} {x y : Int32} (hS : WF S) (hS2 : WF (ePut S x y)) : twI (ePut S x y) = twI S + y := by
  rw [tw_parts hS2, tw_parts hS]
  show sumI (gw S) (gc S) + sumI (upd (gwt S) (gp S) y) (gp S + 1) = _
  have e : sumI (upd (gwt S) (gp S) y) (gp S + 1) = sumI (upd (gwt S) (gp S) y) (gp S) + upd (gwt S) (gp S) y (gp S) := rfl
  rw [e, upd_eq, sumI_cong (g := gwt S) fun i hi => upd_ne _ _ (by omega)]
  grind
theorem sum_shl {f : FI} {q : Nat} : ∀ {n : Nat}, q ≤ n → sumI (shl f q n) n = sumI f (n + 1) - f q
  | 0, h => by
    have : q = 0 := by omega
    subst this
    show (0 : Int32) = (0 + f 0) - f 0
    grind
  | n + 1, h => by
    have e1 : sumI (shl f q (n + 1)) (n + 1) = sumI (shl f q (n + 1)) n + shl f q (n + 1) n := rfl
    have e2 : sumI f (n + 1 + 1) = sumI f (n + 1) + f (n + 1) := rfl
    rcases Nat.lt_or_ge q (n + 1) with z | z
    · have ih := sum_shl (f := f) (n := n) (q := q) (by omega)
      have e3 : sumI (shl f q (n + 1)) n = sumI (shl f q n) n := sumI_cong fun i hi => by
        unfold shl
        by_cases w : q ≤ i
        · rw [if_pos ⟨w, by omega⟩, if_pos ⟨w, hi⟩]
        · rw [if_neg (fun v => w v.1), if_neg (fun v => w v.1)]
      have e4 : shl f q (n + 1) n = f (n + 1) := by
        unfold shl
        rw [if_pos ⟨by omega, by omega⟩]
      rw [e1, e2, e3, e4, ih]
      grind
    · have : q = n + 1 := by omega
      subst this
      have e3 : sumI (shl f (n + 1) (n + 1)) (n + 1) = sumI f (n + 1) := sumI_cong fun i hi => by
        unfold shl
        rw [if_neg (by omega)]
      rw [e3, e2]
      grind
theorem tw_rem {S : SH} {x : Int32} (hS : WF S) (hS2 : WF (eRem S x)) (hq : pq S x < gp S) : twI (eRem S x) = twI S - gwt S (pq S x) := by
  rw [tw_parts hS2, tw_parts hS]
  show sumI (gw S) (gc S) + sumI (shl (gwt S) (pq S x) (gp S - 1)) (gp S - 1) = _
  rw [sum_shl (by omega), show gp S - 1 + 1 = gp S by omega]
  grind
theorem tw_car {S : SH} {x y : Int32} (hS : WF S) (hS2 : WF (eCar S x y)) : twI (eCar S x y) = twI S := by
  rw [tw_parts hS2, tw_parts hS]
  rfl
/-! each command -/
theorem GJ.add {B : Nat} {S : SH} (h : GJ B S) (hB : B ≤ 5000) {x y : Int32} (hf : fAdd S x y = 0) : GJ (B + 1) (eAdd S x y) := by
  have g : GS (B + 1) (eAdd S x y) := h.1.eK hB x y 0 0 (by decide) hf
  refine ⟨g, ((SP_self h.2.1).add x y).1.so, h.2.2.1, h.2.2.2.1, fun z => ?_⟩
  rw [tw_add h.1.2.1 g.2.1]
  exact h.2.2.2.2 z
theorem GJ.put {B : Nat} {S : SH} (h : GJ B S) (hB : B ≤ 5000) {x y : Int32} (hf : fLoad S x y = 0) : GJ (B + 1) (ePut S x y) := by
  have g : GS (B + 1) (ePut S x y) := h.1.eK hB x y 0 1 (by decide) hf
  obtain ⟨N, n1, n2, n3⟩ := h.1.2.2.2.1
  have e1 : (gnx S).toInt = N := by rw [n2]; exact nI_toInt (by omega)
  have e2 : (gnx S + 1).toInt = N + 1 := by
    rw [n2, nI_1]
    exact nI_toInt (by omega)
  refine ⟨g, ((SP_self h.2.1).put x y).1.so, ⟨fun i j hij hj => ?_, fun k hk => ?_⟩, h.2.2.2.1, fun z => ?_⟩
  · have hj : j < gp S + 1 := hj
    show (upd (gid S) (gp S) (gnx S) i).toInt < (upd (gid S) (gp S) (gnx S) j).toInt
    rw [upd_ne _ _ (by omega)]
    by_cases w : j = gp S
    · rw [w, upd_eq]
      exact h.2.2.1.2 i (by omega)
    · rw [upd_ne _ _ w]
      exact h.2.2.1.1 i j hij (by omega)
  · have hk : k < gp S + 1 := hk
    show (upd (gid S) (gp S) (gnx S) k).toInt < (gnx S + 1).toInt
    rw [e2]
    by_cases w : k = gp S
    · rw [w, upd_eq]; omega
    · rw [upd_ne _ _ w]
      have := h.2.2.1.2 k (by omega)
      omega
  · rw [tw_put h.1.2.1 g.2.1]
    unfold fLoad at hf
    split at hf
    · split at hf
      · split at hf
        · rename_i w
          have := bI_le w.2
          rw [show (900 : Int32).toInt = 900 from rfl] at this
          exact this
        · cases hf
      · cases hf
    · cases hf
theorem GJ.rem {B : Nat} {S : SH} (h : GJ B S) (hB : B ≤ 5000) {x : Int32} (hf : fUnl S x = 0) : GJ (B + 1) (eRem S x) := by
  have g : GS (B + 1) (eRem S x) := h.1.eK hB x 0 0 2 (by decide) hf
  have hq : pq S x < gp S := by
    unfold fUnl at hf
    split at hf
    · assumption
    · cases hf
  refine ⟨g, ((SP_self h.2.1).rem x).1.so, ⟨?_, fun k hk => ?_⟩, h.2.2.2.1, fun z => ?_⟩
  · obtain ⟨n, hn⟩ : ∃ n, gp S = n + 1 := ⟨gp S - 1, by omega⟩
    have := h.2.2.1.1
    show SO (gp S - 1) (shl (gid S) (pq S x) (gp S - 1))
    rw [hn] at this ⊢
    exact SO_shl this
  · have hk : k < gp S - 1 := hk
    show (shl (gid S) (pq S x) (gp S - 1) k).toInt < (gnx S).toInt
    unfold shl
    split
    · exact h.2.2.1.2 (k + 1) (by omega)
    · exact h.2.2.1.2 k (by omega)
  · rw [tw_rem h.1.2.1 g.2.1 hq]
    have a := h.2.2.2.2 z
    have b := h.1.1.1.tw h.1.2.1
    have c := h.1.1.1.2.1 _ hq
    rw [Int32.toInt_sub, Int.bmod_eq_of_le (by have := b.1; have := c.2; omega) (by have := b.2; have := c.1; omega)]
    have := c.1
    omega
theorem GJ.car {B : Nat} {S : SH} (h : GJ B S) (hB : B ≤ 5000) {x y : Int32} (hf : fShf S x y = 0) : GJ (B + 1) (eCar S x y) := by
  have g : GS (B + 1) (eCar S x y) := h.1.eK hB x y 0 3 (by decide) hf
  refine ⟨g, ((SP_self h.2.1).car x y).1.so, h.2.2.1, h.2.2.2.1, fun z => ?_⟩
  rw [tw_car h.1.2.1 g.2.1]
  exact h.2.2.2.2 z
theorem GJ.lk {B : Nat} {S : SH} (h : GJ B S) (hB : B ≤ 5000) {x y : Int32} (hf : fRat S x y = 0) : GJ (B + 1) (eLk S x y) := ⟨h.1.eK hB x y 0 4 (by decide) hf, h.2⟩
theorem GJ.gu {B : Nat} {S : SH} (h : GJ B S) (hB : B ≤ 5000) {x y : Int32} (hf : fRat S x y = 0) : GJ (B + 1) (eGu S x y) := ⟨h.1.eK hB x y 0 5 (by decide) hf, h.2⟩
theorem GJ.movN {B C : Nat} {S : SH} (h : GJ B S) {s t : Nat} {a : Int32} (hs : s < gc S) (ht : t < gc S) (g : GS C (eMovN S s t a)) : GJ C (eMovN S s t a) := by
  refine ⟨g, h.2.1, h.2.2.1, h.2.2.2.1, fun z => ?_⟩
  rw [tw_mov S s t a hs ht]
  exact h.2.2.2.2 z
theorem GJ.mov {B : Nat} {S : SH} (h : GJ B S) (hB : B ≤ 5000) {x y a : Int32} (hf : fMov S x y a = 0) : GJ (B + 1) (eMov S x y a) := by
  have g : GS (B + 1) (eMov S x y a) := h.1.eK hB x y a 6 (by decide) hf
  have hb : hsB (gc S) x = true ∧ hsB (gc S) y = true := by
    unfold fMov at hf
    split at hf
    · rename_i w
      simpa using w
    · cases hf
  obtain ⟨s, hs, rfl⟩ := hsB_in h.1.2.1 hb.1
  obtain ⟨t, ht, rfl⟩ := hsB_in h.1.2.1 hb.2
  have hc := h.1.2.1.1
  rw [eMov_n (by omega) (by omega)] at g ⊢
  exact h.movN hs ht g
theorem GJ.bal {B : Nat} {S : SH} (h : GJ B S) {a : Int32} {C : CS} (hf : fBal S a C = 0) : GJ (B + 1) (eBal S a C) := by
  have g := h.1.bal hf
  obtain ⟨s, t, hs, ht, e, -, -⟩ := bal_mov hf
  have hc := h.1.2.1.1
  rw [e, eMov_n (by omega) (by omega)] at g ⊢
  exact h.movN hs ht g
theorem GJ.pow {B : Nat} {S : SH} (h : GJ B S) (hB : B ≤ 5000) {x : Int32} (hf : fPow x = 0) : GJ (B + 1) (ePow S x) := ⟨h.1.eK hB x 0 0 7 (by decide) hf, h.2⟩
theorem GJ.lim {B : Nat} {S : SH} (h : GJ B S) {x : Int32} (hf : fLim x = 0) : GJ (B + 1) (eLim S x) := ⟨h.1.lim hf, h.2⟩
theorem GJ.can {B : Nat} {S : SH} (h : GJ B S) {x : Int32} (hf : fStm S x = 0) : GJ (B + 1) (eCan S x) := by
  refine ⟨h.1.can x, ((SP_self h.2.1).can hf).so, h.2.2.1, fun i hi => ?_, h.2.2.2.2⟩
  have hi : i < gsc S - 1 := hi
  show (gmn S).toInt < (shl (gmi S) (tq S x) (gsc S - 1) i).toInt ∧ (shl (gmi S) (tq S x) (gsc S - 1) i).toInt ≤ (gmn S).toInt + 12
  unfold shl
  split
  · exact h.2.2.2.1 (i + 1) (by omega)
  · exact h.2.2.2.1 i (by omega)
theorem GJ.sch {B : Nat} {S : SH} (h : GJ B S) (hB : B ≤ 5000) {x y : Int32} (hx : x.toInt ≤ (gmn S).toInt + 12) (hf : fSch S x y = 0) : GJ (B + 1) (eSch S x y) := by
  have g : GS (B + 1) (eSch S x y) := h.1.eK hB x y 0 8 (by decide) hf
  obtain ⟨w1, -, -⟩ := fSch_w hf
  have w1 := bI_lt w1
  refine ⟨g, ((SP_self h.2.1).sch hf).so, h.2.2.1, fun i hi => ?_, h.2.2.2.2⟩
  have hi : i < gsc S + 1 := hi
  show (gmn S).toInt < (upd (shr (gmi S) (insP (gmi S) x (gsc S)) (gsc S)) (insP (gmi S) x (gsc S)) x i).toInt ∧ (upd (shr (gmi S) (insP (gmi S) x (gsc S)) (gsc S)) (insP (gmi S) x (gsc S)) x i).toInt ≤ (gmn S).toInt + 12
  have hp := insP_le (gmi S) x (gsc S)
  generalize insP (gmi S) x (gsc S) = p at hp
  by_cases e : i = p
  · rw [e, upd_eq]; exact ⟨w1, hx⟩
  · rw [upd_ne _ _ e]
    unfold shr
    split
    · exact h.2.2.2.1 (i - 1) (by omega)
    · exact h.2.2.2.1 i (by omega)
theorem strike_st (S : SH) : (gsc (strike S) = gsc S ∧ gmi (strike S) = gmi S ∧ ¬ fst (eqB (gmi S) (gmn S)) (gsc S) < gsc S) ∨ (gsc (strike S) = gsc S - 1 ∧ gmi (strike S) = shl (gmi S) (fst (eqB (gmi S) (gmn S)) (gsc S)) (gsc S - 1) ∧ fst (eqB (gmi S) (gmn S)) (gsc S) < gsc S) := by
  unfold strike
  split
  · rename_i w
    split
    · exact Or.inr ⟨rfl, rfl, w⟩
    · exact Or.inr ⟨rfl, rfl, w⟩
  · rename_i w
    exact Or.inl ⟨rfl, rfl, w⟩
theorem WN_tick {B : Nat} {S : SH} (hM : MP B S) (hB : B ≤ 900000) (hs : SO (gsc S) (gmi S)) (h : WN S) : WN (tick S) := by
  obtain ⟨M, P, m1, m2, -, -⟩ := hM
  have e0 : (gmn S).toInt = M := by rw [m2]; exact nI_toInt (by omega)
  have e1 : (gmn S + 1).toInt = M + 1 := by
    rw [m2, nI_1]
    exact nI_toInt (by omega)
  have em : gmn (tick S) = gmn S + 1 := (strike_mn (stM S (gmn S + 1))).1
  intro i hi
  rw [em, e1]
  have key : ∀ k, k < gsc S → gmi S k ≠ gmn S + 1 → (M : Int) + 1 < (gmi S k).toInt ∧ (gmi S k).toInt ≤ M + 1 + 12 := fun k hk hne => by
    obtain ⟨a, b⟩ := h k hk
    have : (gmi S k).toInt ≠ M + 1 := fun z => hne (Int32.toInt_inj.mp (z.trans e1.symm))
    omega
  rcases strike_st (stM S (gmn S + 1)) with ⟨q1, q2, q3⟩ | ⟨q1, q2, q3⟩
  · have hi : i < gsc (strike (stM S (gmn S + 1))) := hi
    rw [q1] at hi
    show (M : Int) + 1 < (gmi (strike (stM S (gmn S + 1))) i).toInt ∧ _
    have eg : gmi (tick S) i = gmi S i := congrFun q2 i
    rw [eg]
    have : gmi (strike (stM S (gmn S + 1))) i = gmi S i := congrFun q2 i
    rw [this]
    refine key i hi fun z => q3 ?_
    exact fst_ex.mpr ⟨i, hi, decide_eq_true z⟩
  · have hi : i < gsc (strike (stM S (gmn S + 1))) := hi
    rw [q1] at hi
    have hi : i < gsc S - 1 := hi
    have eg : gmi (tick S) i = shl (gmi S) (fst (eqB (gmi S) (gmn S + 1)) (gsc S)) (gsc S - 1) i := congrFun q2 i
    rw [eg]
    have q3 : fst (eqB (gmi S) (gmn S + 1)) (gsc S) < gsc S := q3
    have hv := fst_val q3
    generalize fst (eqB (gmi S) (gmn S + 1)) (gsc S) = q at q3 hv
    rw [shl_sk _ _ _ _ hi]
    refine key _ (by have := sk_lt (q := q) hi; omega) fun z => ?_
    have := hs.inj (skN q i) q (by have := sk_lt (q := q) hi; omega) q3 (z.trans hv.symm)
    exact sk_ne q i this
theorem AF_tick (S : SH) : AF (tick S) := fun z => by
  have z : (if 900 < twI (pumpS (leakS (strike (stM S (gmn S + 1))))) then (1 : Int32) else 0) = 0 := z
  split at z
  · cases z
  · rename_i w
    have := bI_le (Int32.not_lt.mp w)
    exact this
theorem IDo_tks : ∀ (n : Nat) {S : SH}, IDo S → IDo (tks n S)
  | 0, _, h => h
  | n + 1, S, h => by
    rw [tks_s]
    split
    · refine IDo_tks n ?_
      have e : (tick S).2.1 = S.2.1 := by
        show (strike (stM S (gmn S + 1))).2.1 = _
        unfold strike
        (repeat' split) <;> rfl
      show SO (tick S).2.1.1 (tick S).2.1.2.2.1 ∧ ∀ k, k < (tick S).2.1.1 → ((tick S).2.1.2.2.1 k).toInt < ((tick S).2.1.2.1).toInt
      rw [e]
      exact h
    · exact h
theorem WA_tks : ∀ (n B : Nat) {S : SH}, MP B S → B + n ≤ 900000 → VS S → WF S → SO (gsc S) (gmi S) → WN S → AF S → WN (tks n S) ∧ AF (tks n S)
  | 0, _, _, _, _, _, _, _, h1, h2 => ⟨h1, h2⟩
  | n + 1, B, S, hM, hB, hV, hS, hs, h1, h2 => by
    rw [tks_s]
    split
    · exact WA_tks n (B + 1) (hM.tick1 (by omega) hV hS) (by omega) (VS_tick hV hS) (WF_tick hS) (SP_tick (SP_self hs)).so (WN_tick hM (by omega) hs h1) (AF_tick S)
    · exact ⟨h1, h2⟩
theorem GJ.pas {B : Nat} {S : SH} (h : GJ B S) (hB : B ≤ 5000) {x : Int32} (hf : fPas S x = 0) : GJ (B + 1) (ePas S x) := by
  have g : GS (B + 1) (ePas S x) := h.1.eK hB x 0 0 9 (by decide) hf
  have hx : x.toNatClampNeg ≤ 120 := by
    unfold fPas at hf
    split at hf
    · rename_i w
      have := wi_in w
      rw [show (120 : Int32).toInt = 120 from rfl] at this
      show x.toInt.toNat ≤ 120
      omega
    · cases hf
  obtain ⟨w1, w2⟩ := WA_tks x.toNatClampNeg (120 * B) h.1.2.2.1 (by omega) h.1.1 h.1.2.1 h.2.1 h.2.2.2.1 h.2.2.2.2
  exact ⟨g, ((SP_self h.2.1).pas x).1.so, IDo_tks _ h.2.2.1, w1, w2⟩
/-! the class's object -/
theorem WK_chg {K : KS'} {S' : SH} (h : WK K) (hS : WF S') : WK (chg K S') := by
  obtain ⟨h1, h2, h3, h4, h5, h6, h7⟩ := h
  refine ⟨hS, h2, h3, h4, Nat.mod_lt _ (by decide), ?_, fun i => ?_⟩
  · show (if (kH K).2.1 < 8 then (kH K).2.1 + 1 else 8) ≤ 8
    split <;> omega
  · show WF (updS (kH K).2.2 (kH K).1 (cpS ((kH K).2.2 (kH K).1) (kS K)) i)
    unfold updS
    split
    · exact h1
    · exact h7 i
/-- the class's object as the law has it, after at most B commands -/
def JK (B : Nat) (K : KS') : Prop := WK K ∧ GJ B (kS K) ∧ 16 ≤ (kL K).2.1
theorem JK.le {B C : Nat} {K : KS'} (h : JK B K) (hb : B ≤ C) : JK C K := ⟨h.1, h.2.1.le hb, h.2.2⟩
theorem JK.sc {B : Nat} {K : KS'} (h : JK B K) {T : SH} (hT : WF T) (C : CS) : JK B (scr K T C) := ⟨⟨h.1.1, hT, h.1.2.2⟩, h.2⟩
theorem JK.step {B f : Nat} {K : KS'} {S' : SH} (h : JK B K) (hg : f = 0 → GJ (B + 1) S') {T : SH} (hT : WF T) (C : CS) : JK (B + 1) (scr (if f = 0 then chg K S' else K) T C) := by
  by_cases hf : f = 0
  · rw [if_pos hf]
    refine JK.sc (K := chg K S') ⟨WK_chg h.1 (hg hf).1.2.1, hg hf, h.2.2⟩ hT C
  · rw [if_neg hf]
    exact (h.le (Nat.le_succ B)).sc hT C
theorem JK.rd {B f : Nat} {K : KS'} (h : JK B K) {T : SH} (hT : WF T) (C : CS) : JK B (scr (if f = 0 then K else K) T C) := by
  rw [ite_self]
  exact h.sc hT C
