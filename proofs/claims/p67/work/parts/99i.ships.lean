/-! ===== what holds of every ship, whatever was called ===== -/
def IDS (B : Nat) (S : SH) : Prop := (∃ N : Nat, N ≤ B ∧ gnx S = nI N ∧ ∀ k, k < gp S → bI (gid S k) 0 N) ∧ ∀ i, i < gsc S → bI (gmi S i) 0 900000
/-- after at most B commands -/
def GS (B : Nat) (S : SH) : Prop := VS S ∧ WF S ∧ MP (120 * B) S ∧ IDS B S
theorem IDS.le {B C : Nat} {S : SH} (h : IDS B S) (hb : B ≤ C) : IDS C S := by
  obtain ⟨⟨N, h1, h2, h3⟩, h4⟩ := h
  exact ⟨⟨N, by omega, h2, h3⟩, h4⟩
theorem GS.le {B C : Nat} {S : SH} (h : GS B S) (hb : B ≤ C) : GS C S := ⟨h.1, h.2.1, h.2.2.1.le (by omega), h.2.2.2.le hb⟩
theorem GS_cp {B : Nat} {S : SH} (h : GS B S) (A : SH) : GS B (cpS A S) := h
theorem ID_stQ {B : Nat} {S : SH} (h : IDS B S) (q : Nat) : IDS B (stQ S q) := by
  refine ⟨h.1, fun i hi => ?_⟩
  have hi : i < gsc S - 1 := hi
  show bI (shl (gmi S) q (gsc S - 1) i) 0 900000
  unfold shl
  split
  · exact h.2 (i + 1) (by omega)
  · exact h.2 i (by omega)
theorem ID_strike {B : Nat} {S : SH} (h : IDS B S) : IDS B (strike S) := by
  unfold strike
  split
  · split
    · exact ID_stQ h _
    · exact ID_stQ h _
  · exact h
theorem ID_tick {B : Nat} {S : SH} (h : IDS B S) : IDS B (tick S) := ID_strike (S := stM S (gmn S + 1)) h
theorem ID_tks {B : Nat} : ∀ (n : Nat) {S : SH}, IDS B S → IDS B (tks n S)
  | 0, _, h => h
  | n + 1, S, h => by
    rw [tks_s]
    split
    · exact ID_tks n (ID_tick h)
    · exact h
theorem ID_put {B : Nat} {S : SH} (h : IDS B S) (hB : B ≤ 5000) (x y : Int32) : IDS (B + 1) (ePut S x y) := by
  obtain ⟨⟨N, h1, h2, h3⟩, h4⟩ := h
  refine ⟨⟨N + 1, by omega, ?_, fun k hk => ?_⟩, h4⟩
  · show gnx S + 1 = _
    rw [h2, nI_1]
  · have hk : k < gp S + 1 := hk
    show bI (upd (gid S) (gp S) (gnx S) k) 0 ((N + 1 : Nat) : Int)
    by_cases e : k = gp S
    · subst e
      rw [upd_eq, h2]
      exact (bI_n (by omega)).mono (by omega) (by omega)
    · rw [upd_ne _ _ e]
      exact (h3 k (by omega)).mono (by omega) (by omega)
theorem ID_rem {B : Nat} {S : SH} (h : IDS B S) (x : Int32) : IDS B (eRem S x) := by
  obtain ⟨⟨N, h1, h2, h3⟩, h4⟩ := h
  refine ⟨⟨N, h1, h2, fun k hk => ?_⟩, h4⟩
  have hk : k < gp S - 1 := hk
  show bI (shl (gid S) (pq S x) (gp S - 1) k) 0 N
  unfold shl
  split
  · exact h3 (k + 1) (by omega)
  · exact h3 k (by omega)
theorem ID_can {B : Nat} {S : SH} (h : IDS B S) (x : Int32) : IDS B (eCan S x) := by
  refine ⟨h.1, fun i hi => ?_⟩
  have hi : i < gsc S - 1 := hi
  show bI (shl (gmi S) (tq S x) (gsc S - 1) i) 0 900000
  unfold shl
  split
  · exact h.2 (i + 1) (by omega)
  · exact h.2 i (by omega)
theorem ID_sch {B : Nat} {S : SH} (h : IDS B S) (hM : MP 800000 S) {x y : Int32} (hf : fSch S x y = 0) : IDS B (eSch S x y) := by
  obtain ⟨M, P, m1, m2, -, -⟩ := hM
  obtain ⟨w1, w2, -⟩ := fSch_w hf
  have hx : bI x 0 900000 := by
    have e := nI_toInt (n := M) (by omega)
    rw [m2] at w1 w2
    have z1 := bI_lt w1
    have z2 := bI_le w2
    rw [e] at z1
    have hx := x.toInt_lt
    rw [Int32.toInt_sub, e, Int.bmod_eq_of_le (by omega) (by omega), show (999 : Int32).toInt = 999 from rfl] at z2
    constructor <;> omega
  refine ⟨h.1, fun i hi => ?_⟩
  have hi : i < gsc S + 1 := hi
  show bI (upd (shr (gmi S) (insP (gmi S) x (gsc S)) (gsc S)) (insP (gmi S) x (gsc S)) x i) 0 900000
  have hp := insP_le (gmi S) x (gsc S)
  generalize insP (gmi S) x (gsc S) = p at hp
  by_cases e : i = p
  · rw [e, upd_eq]; exact hx
  · rw [upd_ne _ _ e]
    unfold shr
    split
    · exact h.2 (i - 1) (by omega)
    · exact h.2 i (by omega)
theorem ID_eK {B : Nat} {S : SH} (h : IDS B S) (hB : B ≤ 5000) (hM : MP 800000 S) (a b c : Int32) : ∀ o, o < 10 → fK o S a b c = 0 → IDS (B + 1) (eK o S a b c) := by
  have h1 : IDS (B + 1) S := h.le (by omega)
  refine ten ?_ ?_ ?_ ?_ ?_ ?_ ?_ ?_ ?_ ?_
  · exact fun _ => h1
  · exact fun _ => ID_put h hB a b
  · exact fun _ => ID_rem h1 a
  · exact fun _ => h1
  · exact fun _ => h1
  · exact fun _ => h1
  · exact fun _ => h1
  · exact fun _ => h1
  · exact fun hf => ID_sch h1 hM hf
  · exact fun _ => ID_tks _ h1
theorem GS.eK {B : Nat} {S : SH} (h : GS B S) (hB : B ≤ 5000) (a b c : Int32) : ∀ o, o < 10 → fK o S a b c = 0 → GS (B + 1) (eK o S a b c) := fun o ho hf =>
  ⟨VS_eK h.1 h.2.1 a b c o ho hf, WF_eK h.2.1 a b c o ho hf, (MP_eK h.2.2.1 (by omega) h.1 h.2.1 a b c o ho hf).le (by omega), ID_eK h.2.2.2 hB (h.2.2.1.le (by omega)) a b c o ho hf⟩
theorem GS.lim {B : Nat} {S : SH} (h : GS B S) {x : Int32} (hf : fLim x = 0) : GS (B + 1) (eLim S x) := by
  have w : wiB x 1 9 = true := by
    unfold fLim at hf
    split at hf
    · assumption
    · cases hf
  have h := h.le (Nat.le_succ B)
  exact ⟨VS_eLim h.1 w, h.2.1, h.2.2.1, h.2.2.2⟩
theorem GS.can {B : Nat} {S : SH} (h : GS B S) (x : Int32) : GS (B + 1) (eCan S x) := by
  have h := h.le (Nat.le_succ B)
  exact ⟨VS_eCan h.1, WF_eCan h.2.1, h.2.2.1, ID_can h.2.2.2 x⟩
theorem bal_mov {S : SH} {a : Int32} {C : CS} (hf : fBal S a C = 0) : ∃ s t, s < gc S ∧ t < gc S ∧ eBal S a C = eMov S (nI s) (nI t) a ∧ wiB a 1 200 = true ∧ mvI (gcp S) (gw S) (nI s) (nI t) a = true := by
  unfold fBal at hf
  by_cases q : fAmt a = 0
  · rw [if_pos q] at hf
    by_cases q2 : impB (bS S a (tmI S) C) (tmI S) = true
    · rcases CIv_bst S a (tmI S) C with z | ⟨s, t, hs, ht, es, et, -, hm⟩
      · exact absurd z (impB_f q2)
      · refine ⟨s, t, hs, ht, ?_, ?_, hm⟩
        · unfold eBal
          rw [es, et]
        · unfold fAmt at q
          split at q
          · assumption
          · cases q
    · rw [if_neg q2] at hf
      cases hf
  · rw [if_neg q] at hf
    exact absurd hf q
theorem GS.bal {B : Nat} {S : SH} (h : GS B S) {a : Int32} {C : CS} (hf : fBal S a C = 0) : GS (B + 1) (eBal S a C) := by
  obtain ⟨s, t, hs, ht, e, w, hm⟩ := bal_mov hf
  have h := h.le (Nat.le_succ B)
  have hc := h.2.1.1
  rw [e, eMov_n (by omega) (by omega)]
  exact ⟨⟨h.1.1.mov h.2.1 hs ht (bI_wi w) hm, h.1.2⟩, h.2.1, h.2.2.1, h.2.2.2⟩
theorem SP.bal {S T : SH} (h : SP S T) (a : Int32) (C : CS) : SP (eBal S a C) (eBal T a C) ∧ fBal T a C = fBal S a C := by
  obtain ⟨a', b', rfl, p, s⟩ := h
  exact ⟨⟨a', b', rfl, p, s⟩, rfl⟩
/-- what the texts want -/
theorem GS.nb {B : Nat} {S : SH} (h : GS B S) (hB : B ≤ 5000) : NBS S := by
  obtain ⟨hV, hS, hM, ⟨N, n1, n2, n3⟩, n4⟩ := h
  refine ⟨fun i hi => ?_, fun k hk => ?_, fun i hi => ?_⟩
  · obtain ⟨b1, b2, b3, b4, b5, b6⟩ := hV.1.1 i hi
    exact ⟨NB_b b1 (by omega) (by omega), NB_b b3 (by omega) (by omega), NB_b b2 (by omega) (by omega), NB_b b5 (by omega) (by omega), NB_b (cg_b hV.1 hS _) (by omega) (by omega)⟩
  · exact ⟨NB_b (n3 k hk) (by omega) (by omega), NB_b (hV.1.2.1 k hk) (by omega) (by omega)⟩
  · exact ⟨NB_b (n4 i hi) (by omega) (by omega), NB_b (hV.2 i hi) (by omega) (by omega)⟩
theorem SP.nb {S T : SH} (h : SP S T) (hN : NBS S) : NBS T := by
  obtain ⟨a, b, rfl, p, s⟩ := h
  refine ⟨hN.1, hN.2.1, fun j hj => ?_⟩
  obtain ⟨i, hi, e1, e2⟩ := p.2.2.2 j hj
  show NB (a j) ∧ NB (b j)
  rw [← e1, ← e2]
  exact hN.2.2 i hi
