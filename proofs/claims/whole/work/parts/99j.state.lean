/-! ===== the class's state and the model's ===== -/
/-- letters below 256, a builder of 16 at least -/
def LC (L : SBB) : Prop := (∀ j, j < L.1 → L.2.2 j < 256) ∧ 16 ≤ L.2.1
theorem LC_cat {L : SBB} (h : LC L) {n q : Nat} {f : Nat → Nat} (hf : ∀ j, j < n → f j < 256) : LC (L.1 + n, sb_cap q L.2.1, sb_cat L.2.2 L.1 f) := by
  refine ⟨fun j hj => ?_, Nat.le_trans h.2 (sb_cap_gem _ _)⟩
  have hj : j < L.1 + n := hj
  show sb_cat L.2.2 L.1 f j < 256
  unfold sb_cat
  split
  · rename_i z; exact h.1 j z
  · exact hf _ (by omega)
theorem LC_pC {L : SBB} (h : LC L) {c : Nat} (hc : c < 256) : LC (pC L c) := LC_cat h fun _ _ => hc
theorem LC_pN {L : SBB} (h : LC L) (x : Int32) : LC (pN L x) := LC_cat h fun j _ => itT_lt _ _ _
theorem LC_pX {L : SBB} (h : LC L) {j : Nat} (hj : j < 19) (hl : (sxB j).length ≤ 10) : LC (pX L j) := LC_cat h fun i hi => Nat.lt_trans (sxC_lt j hj i (by omega)) (by decide)
theorem LC_0 {L : SBB} (h : LC L) : LC (L0 L) := ⟨fun j hj => absurd hj (Nat.not_lt_zero _), h.2⟩
theorem LC_sep {L : SBB} (h : LC L) {c : Nat} (hc : c < 256) : LC (sepL L c) := by
  unfold sepL
  split
  · exact h
  · exact LC_pC h hc
theorem LC_fc {L : SBB} (h : LC L) (S : SH) (x : Int32) (j : Nat) : LC (fcL S x j L) := by
  have a : LC (fcA S x j L) := LC_pN (LC_pX (LC_pN (LC_pC (LC_pN (LC_pC (LC_pN (LC_pX (LC_pN (LC_pC (LC_0 h) (by decide)) _) (by decide) (by decide)) _) (by decide)) _) (by decide)) _) (by decide) (by decide)) _
  unfold fcL
  split
  · exact LC_pN (LC_pX a (by decide) (by decide)) _
  · exact a
theorem LC_fg {L : SBB} (h : LC L) (S : SH) (x : Int32) : ∀ n, LC (fgL S x L n)
  | 0 => LC_0 h
  | n + 1 => by
    unfold fgL
    split
    · exact LC_pN (LC_pC (LC_pN (LC_sep (LC_fg h S x n) (by decide)) _) (by decide)) _
    · exact LC_fg h S x n
theorem LC_fs {L : SBB} (h : LC L) (S : SH) : ∀ n, LC (fsL S L n)
  | 0 => LC_0 h
  | n + 1 => LC_pN (LC_pC (LC_pN (LC_sep (LC_fs h S n) (by decide)) _) (by decide)) _
/-- a flag with its number, in the class and in the model -/
def FLR (h e z : Int32) : Prop := (h = 0 ∧ z = -1) ∨ (h = 1 ∧ ∃ p : Nat, p ≤ 60 ∧ e = nI p ∧ z = nI p)
/-- the objects after at most B commands -/
def EQ (B : Nat) (K : KS') (m : MS) : Prop :=
  (WK K ∧ GS B (kS K) ∧ (∀ i, GS B ((kH K).2.2 i)) ∧ GS B (kV K)) ∧ RP (kS K) (zA m) ∧ HRel (kH K) m ∧
  (∃ b, zV m = b2 b ∧ (kF K).1 = b2 b ∧ (b = true → RP (kV K) (fun j => zA m (116 * 9 + j)))) ∧
  (FLR (kF K).2.1 (kF K).2.2.1 (zEa m) ∧ FLR (kF K).2.2.2.1 (kF K).2.2.2.2 (zFa m)) ∧
  (LR (kL K) m ∧ LC (kL K)) ∧ (IR (kI K) m ∧ 16 ≤ (kI K).2.1) ∧ ∀ z, (kP K).2.2.2.1 z < 10
theorem EQ.le {B C : Nat} {K : KS'} {m : MS} (h : EQ B K m) (hb : B ≤ C) : EQ C K m := ⟨⟨h.1.1, h.1.2.1.le hb, fun i => (h.1.2.2.1 i).le hb, h.1.2.2.2.le hb⟩, h.2⟩
theorem EQ.scr {B : Nat} {K : KS'} {m : MS} (h : EQ B K m) {T : SH} (hT : WF T) (C : CS) : EQ B (scr K T C) m := ⟨⟨⟨h.1.1.1, hT, h.1.1.2.2⟩, h.1.2⟩, h.2⟩
/-- the model's other rows may change -/
theorem EQ.mv {B : Nat} {K : KS'} {m m' : MS} (h : EQ B K m) (ha : ∀ j, j < 1160 → zA m' j = zA m j) (e1 : zN m' = zN m) (e2 : zV m' = zV m) (e3 : m'.2.2.1 = m.2.2.1) (e4 : zI m' = zI m) (e5 : zTy m' = zTy m) (e6 : zEa m' = zEa m) (e7 : zFa m' = zFa m) : EQ B K m' := by
  obtain ⟨⟨w, g1, g2, g3⟩, r, ⟨x1, x2, x3, x4, x5⟩, ⟨b, v1, v2, v3⟩, ⟨f1, f2⟩, ⟨⟨l1, l2, l3⟩, l4⟩, ⟨⟨i1, i2, i3⟩, i4⟩, kw⟩ := h
  refine ⟨⟨w, g1, g2, g3⟩, r.agree w.1 fun j hj => ha j (by omega), ⟨x1, x2, x3, e1.trans x4, fun k hk hk2 => (x5 k hk hk2).agree (x3 _) fun j hj => ha _ (by omega)⟩, ⟨b, e2.trans v1, v2, fun hb => (v3 hb).agree w.2.2.2.1 fun j hj => ha _ (by omega)⟩, ⟨?_, ?_⟩, ⟨⟨?_, l2, fun j hj => ?_⟩, l4⟩, ⟨⟨e5.trans i1, i2, fun j hj => ?_⟩, i4⟩, kw⟩
  · rw [e6]; exact f1
  · rw [e7]; exact f2
  · show m'.2.2.1.2 = _
    rw [e3]; exact l1
  · show m'.2.2.1.1 j = _
    rw [e3]; exact l3 j hj
  · rw [e4]; exact i3 j hj
theorem EQ.rd {B : Nat} {K : KS'} {m m' : MS} {th : Int32} (h : EQ B K m) (c : RD th m m') : EQ B K m' ∧ zT m' = th := by
  obtain ⟨⟨y, hy⟩, ha⟩ := c
  obtain ⟨a', r'⟩ := m'
  have hy : r' = _ := hy
  subst hy
  exact ⟨h.mv (fun j hj => ha j (by omega)) rfl rfl rfl rfl rfl rfl rfl, rfl⟩
theorem EQ.no {B : Nat} {K : KS'} {m m' : MS} {th n : Nat} {T' : SH} (h : EQ B K m) (c : PCh th n m m' T') (ht : ¬ th = 0) : EQ B K m' ∧ zT m' = nI th := by
  obtain ⟨⟨y, hy⟩, ha, -⟩ := c
  obtain ⟨a', r'⟩ := m'
  have hy : r' = _ := hy
  subst hy
  refine ⟨h.mv (ha ht) ?_ rfl rfl rfl rfl rfl rfl, rfl⟩
  show (if th = 0 then nI (enN n) else zN m) = zN m
  rw [if_neg ht]
/-- a change: the ship S0 is kept, S' takes its place -/
theorem EQ.push {B d : Nat} {K : KS'} {m m' : MS} {S0 S' T' : SH} (h : EQ B K m) (r0 : RP S0 (zA m)) (g0 : GS B S0) (hg : GS (B + d) S') (sp : SP S' T') (c : PCh 0 (kH K).2.1 m m' T') : EQ (B + d) (stS (stH K (keepH (kH K) S0)) S') m' ∧ zT m' = 0 := by
  have hp := h.2.2.1.push r0 g0.2.1 c
  obtain ⟨⟨y, hy⟩, -, c2⟩ := c
  obtain ⟨c3, c4, -⟩ := c2 rfl
  have h := h.le (Nat.le_add_right B d)
  have g0 := g0.le (Nat.le_add_right B d)
  obtain ⟨⟨w, g1, g2, g3⟩, r, x, ⟨b, v1, v2, v3⟩, f, l, i⟩ := h
  obtain ⟨a', r'⟩ := m'
  have hy : r' = _ := hy
  subst hy
  refine ⟨⟨⟨⟨hg.2.1, w.2.1, w.2.2.1, w.2.2.2.1, hp.1, hp.2.1, hp.2.2.1⟩, hg, fun i => ?_, g3⟩, ⟨T', sp, c3⟩, hp, ⟨b, v1, v2, fun hb => (v3 hb).agree w.2.2.2.1 fun j hj => c4 _ (by omega) (by omega)⟩, f, l, i⟩, rfl⟩
  show GS (B + d) (updS (kH K).2.2 (kH K).1 (cpS ((kH K).2.2 (kH K).1) S0) i)
  unfold updS
  split
  · exact GS_cp g0 _
  · exact g2 i
theorem EQ.chg {B : Nat} {K : KS'} {m m' : MS} {S' T' : SH} (h : EQ B K m) (hg : GS (B + 1) S') (sp : SP S' T') (c : PCh 0 (kH K).2.1 m m' T') : EQ (B + 1) (chg K S') m' ∧ zT m' = 0 := h.push h.2.1 h.1.2.1 hg sp c
theorem EQ.undo {B : Nat} {K : KS'} {m : MS} (h : EQ B K m) (h0 : ¬ (kH K).2.1 = 0) : EQ B (eUnd K) (wN (wT (wA m (cpF (zA m) (kH K).2.1 0)) 0) (nI ((kH K).2.1 - 1))) := by
  obtain ⟨p1, p2⟩ := h.2.2.1.undo h0 (kS K)
  obtain ⟨⟨w, g1, g2, g3⟩, r, x, ⟨b, v1, v2, v3⟩, f, l, i⟩ := h
  refine ⟨⟨⟨GS_cp (g2 _) _ |>.2.1, w.2.1, w.2.2.1, w.2.2.2.1, p1.1, p1.2.1, p1.2.2.1⟩, GS_cp (g2 _) _, g2, g3⟩, p2, p1, ⟨b, v1, v2, fun hb => (v3 hb).agree w.2.2.2.1 fun j hj => ?_⟩, f, l, i⟩
  show cpF (zA m) (kH K).2.1 0 (116 * 9 + j) = zA m (116 * 9 + j)
  unfold cpF
  rw [if_neg (by omega)]
theorem EQ.save {B : Nat} {K : KS'} {m : MS} (h : EQ B K m) : EQ B (stF (stV K (cpS (kV K) (kS K))) (1, (kF K).2)) (wV (wT (wA m (cpF (zA m) 0 9)) 0) 1) := by
  obtain ⟨⟨w, g1, g2, g3⟩, r, ⟨x1, x2, x3, x4, x5⟩, v, f, l, i⟩ := h
  have hc : ∀ j, cpF (zA m) 0 9 j = if 116 * 9 ≤ j ∧ j < 116 * 9 + 116 then zA m (j - 116 * 9 + 116 * 0) else zA m j := fun _ => rfl
  refine ⟨⟨⟨w.1, w.2.1, w.2.2.1, g1.2.1, w.2.2.2.2⟩, g1, g2, GS_cp g1 _⟩, r.agree w.1 fun j hj => ?_, ⟨x1, x2, x3, x4, fun k hk hk2 => (x5 k hk hk2).agree (x3 _) fun j hj => ?_⟩, ⟨true, rfl, rfl, fun _ => (r.cp (kV K)).agree g1.2.1 fun j hj => ?_⟩, f, l, i⟩
  · show cpF (zA m) 0 9 j = zA m j
    rw [hc, if_neg (by omega)]
  · show cpF (zA m) 0 9 (116 * k + j) = zA m (116 * k + j)
    have := Nat.le_trans hk2 x2
    rw [hc, if_neg (by omega)]
  · show cpF (zA m) 0 9 (116 * 9 + j) = zA m j
    rw [hc, if_pos (by omega)]
    exact congrArg (zA m) (by omega)
theorem EQ.restore {B : Nat} {K : KS'} {m : MS} (h : EQ B K m) (hv : zV m = 1) : EQ B (stH (stS K (cpS (kS K) (kV K))) ((kH K).1, 0, (kH K).2.2)) (wN (wT (wA m (cpF (zA m) 9 0)) 0) 0) ∧ zA m (116 * 9 + 1) = nI (gc (kV K)) := by
  obtain ⟨⟨w, g1, g2, g3⟩, r, ⟨x1, x2, x3, x4, x5⟩, ⟨b, v1, v2, v3⟩, f, l, i⟩ := h
  have hc : ∀ j, cpF (zA m) 9 0 j = if 116 * 0 ≤ j ∧ j < 116 * 0 + 116 then zA m (j - 116 * 0 + 116 * 9) else zA m j := fun _ => rfl
  have hb : b = true := by
    cases b with
    | true => rfl
    | false => rw [v1] at hv; exact absurd hv (by decide)
  subst hb
  have v4 := v3 rfl
  refine ⟨⟨⟨⟨g3.2.1, w.2.1, w.2.2.1, w.2.2.2.1, x1, Nat.zero_le _, x3⟩, GS_cp g3 _, g2, g3⟩, (v4.cp (kS K)).agree g3.2.1 fun j hj => ?_, ⟨x1, Nat.zero_le _, x3, rfl, fun k hk hk2 => absurd (Nat.le_trans hk hk2) (by show ¬ 1 ≤ 0; omega)⟩, ⟨true, v1, v2, fun _ => v4.agree w.2.2.2.1 fun j hj => ?_⟩, f, l, i⟩, ?_⟩
  · show cpF (zA m) 9 0 j = zA m (116 * 9 + j)
    rw [hc, if_pos (by omega)]
    exact congrArg (zA m) (by omega)
  · show cpF (zA m) 9 0 (116 * 9 + j) = zA m (116 * 9 + j)
    rw [hc, if_neg (by omega)]
  · obtain ⟨T, ⟨a, b', rfl, p, s⟩, rs⟩ := v4
    exact rs.1.2.1
theorem EQ.txt {B : Nat} {K : KS'} {m m' : MS} {L : SBB} (h : EQ B K m) (hl : LC L) (c : FTx true L m m') : EQ B (stLn K L) m' ∧ zT m' = 0 := by
  unfold FTx at c
  rw [if_pos rfl] at c
  obtain ⟨⟨w, g1, g2, g3⟩, r, x, v, f, l, i⟩ := h
  obtain ⟨a', r1, r2, r3⟩ := m'
  obtain ⟨c1, c2, c3, c4⟩ := c
  have c1 : a' = zA m := c1
  have c2 : r1 = _ := c2
  have c3 : r3 = _ := c3
  subst c1; subst c2; subst c3
  exact ⟨⟨⟨w, g1, g2, g3⟩, r, x, v, f, ⟨c4, hl⟩, i⟩, rfl⟩
theorem EQ.app {B : Nat} {K : KS'} {m m' : MS} {x : Int32} (h : EQ B K m) (hf : fApp (kI K) x = 0) (c : APP (kI K) x m m') : EQ B (stIn K (pC (kI K) x.toNatClampNeg)) m' ∧ zT m' = 0 := by
  unfold APP at c
  rw [if_pos hf] at c
  obtain ⟨⟨w, g1, g2, g3⟩, r, x', v, f, l, i⟩ := h
  obtain ⟨a', r1, r2, ⟨r3, r4, r5⟩, r6⟩ := m'
  obtain ⟨c0, c1, c2, c3, c4, c5⟩ := c
  have c1 : a' = zA m := c1
  have c2 : r1 = _ := c2
  have c3 : r2 = _ := c3
  have c4 : r5 = _ := c4
  have c5 : r6 = _ := c5
  subst c1; subst c2; subst c3; subst c4; subst c5
  exact ⟨⟨⟨w, g1, g2, g3⟩, r, x', v, f, l, ⟨c0, Nat.le_trans i.1.2 (sb_cap_gem _ _)⟩, i.2⟩, rfl⟩
