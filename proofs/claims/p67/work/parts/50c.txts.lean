/-! ===== texts as lists ===== -/
def TX (L : SBB) (w : List Nat) : Prop := L.1 = w.length ∧ ∀ i, i < w.length → L.2.2 i = w.getD i 0
theorem TX.len {L : SBB} {w : List Nat} (h : TX L w) : L.1 = w.length := h.1
theorem getD_app1 {w u : List Nat} {i : Nat} (h : i < w.length) : (w ++ u).getD i 0 = w.getD i 0 := by
  rw [List.getD_eq_getElem?_getD, List.getD_eq_getElem?_getD, List.getElem?_append_left h]
theorem getD_app2 {w u : List Nat} {i : Nat} (h : w.length ≤ i) : (w ++ u).getD i 0 = u.getD (i - w.length) 0 := by
  rw [List.getD_eq_getElem?_getD, List.getD_eq_getElem?_getD, List.getElem?_append_right h]
theorem TX.cat {L : SBB} {w u : List Nat} {m' : Nat} {q : Nat → Nat} (h : TX L w) (hq : ∀ i, i < u.length → q i = u.getD i 0) : TX (L.1 + u.length, m', sb_cat L.2.2 L.1 q) (w ++ u) := by
  obtain ⟨h1, h2⟩ := h
  refine ⟨by rw [List.length_append]; show L.1 + _ = _; rw [h1], fun i hi => ?_⟩
  rw [List.length_append] at hi
  show sb_cat L.2.2 L.1 q i = _
  rcases Nat.lt_or_ge i w.length with z | z
  · rw [sb_cat_lo (by rw [h1]; exact z), getD_app1 z]
    exact h2 i z
  · rw [getD_app2 z]
    have e : i = L.1 + (i - w.length) := by rw [h1]; omega
    rw [e, sb_cat_hi, h1, show w.length + (i - w.length) - w.length = i - w.length by omega]
    exact hq _ (by omega)
theorem TX.pC {L : SBB} {w : List Nat} (h : TX L w) (c : Nat) : TX (pC L c) (w ++ [c]) := h.cat (u := [c]) fun i hi => by
  have hi : i < 1 := hi
  have : i = 0 := by omega
  subst this
  rfl
/-- an int's letters -/
def dg (x : Int32) : List Nat := (List.range (itL (decide (x < 0)) x.toInt.natAbs)).map (itT (decide (x < 0)) x.toInt.natAbs)
theorem dg_len (x : Int32) : (dg x).length = itL (decide (x < 0)) x.toInt.natAbs := by
  unfold dg
  rw [List.length_map, List.length_range]
theorem dg_len7 {x : Int32} (h : NB x) : (dg x).length ≤ 7 := by
  rw [dg_len]
  exact itL7 _ h
theorem dg_at (x : Int32) (i : Nat) (hi : i < (dg x).length) : itT (decide (x < 0)) x.toInt.natAbs i = (dg x).getD i 0 := by
  rw [dg_len] at hi
  unfold dg
  rw [List.getD_eq_getElem?_getD, List.getElem?_map, List.getElem?_range hi]
  rfl
theorem dg_pos (x : Int32) : 0 < (dg x).length := by
  rw [dg_len]
  have := (sb_dg_in x.toInt.natAbs).1
  cases decide (x < 0)
  · exact this
  · exact Nat.succ_pos _
theorem TX.pN {L : SBB} {w : List Nat} (h : TX L w) (x : Int32) : TX (pN L x) (w ++ dg x) := by
  have z := h.cat (u := dg x) (m' := sb_cap (L.1 + itL (decide (x < 0)) x.toInt.natAbs) L.2.1) (fun i hi => dg_at x i hi)
  rw [dg_len] at z
  exact z
theorem TX.pX {L : SBB} {w : List Nat} (h : TX L w) (j : Nat) : TX (pX L j) (w ++ sxB j) := h.cat (u := sxB j) fun _ _ => rfl
theorem TX.l0 (L : SBB) : TX (L0 L) [] := ⟨rfl, fun i hi => absurd hi (Nat.not_lt_zero _)⟩
theorem TX.new (m : Nat) (t : Nat → Nat) : TX (0, m, t) [] := ⟨rfl, fun i hi => absurd hi (Nat.not_lt_zero _)⟩
theorem TX.nil {L : SBB} {w : List Nat} (h : TX L w) : L.1 = 0 ↔ w = [] := by
  rw [h.1]
  exact List.length_eq_zero_iff
def spT (w : List Nat) (c : Nat) : List Nat := if w = [] then [] else w ++ [c]
theorem TX.sep {L : SBB} {w : List Nat} (h : TX L w) (c : Nat) : TX (sepL L c) (spT w c) := by
  unfold sepL spT
  by_cases z : L.1 = 0
  · rw [if_pos z, if_pos (h.nil.mp z)]
    rw [h.nil.mp z] at h
    exact h
  · rw [if_neg z, if_neg (fun e => z (h.nil.mpr e))]
    exact h.pC c
/-- the class's three texts -/
def tgT (S : SH) (x : Int32) : Nat → List Nat
  | 0 => []
  | i + 1 => if gpl S i = x then spT (tgT S x i) 44 ++ dg (gid S i) ++ [42] ++ dg (gwt S i) else tgT S x i
def tsT (S : SH) : Nat → List Nat
  | 0 => []
  | i + 1 => spT (tsT S i) 32 ++ dg (gmi S i) ++ [33] ++ dg (gsg S i)
def tcA (S : SH) (x : Int32) (j : Nat) : List Nat := [67] ++ dg x ++ sxB 16 ++ dg (gar S j) ++ [32] ++ dg (gw S j) ++ [47] ++ dg (gcp S j) ++ sxB 17 ++ dg (cgI (gwt S) (gpl S) x (gp S))
def tcT (S : SH) (x : Int32) (j : Nat) : List Nat := if 0 < gl S j then tcA S x j ++ sxB 18 ++ dg (gl S j) else tcA S x j
theorem tg_TX (S : SH) (x : Int32) (L : SBB) : ∀ i, TX (fgL S x L i) (tgT S x i)
  | 0 => TX.l0 L
  | i + 1 => by
    unfold fgL tgT
    by_cases h : gpl S i = x
    · rw [if_pos h, if_pos h]
      exact ((((tg_TX S x L i).sep 44).pN _).pC 42).pN _
    · rw [if_neg h, if_neg h]
      exact tg_TX S x L i
theorem ts_TX (S : SH) (L : SBB) : ∀ i, TX (fsL S L i) (tsT S i)
  | 0 => TX.l0 L
  | i + 1 => ((((ts_TX S L i).sep 32).pN _).pC 33).pN _
theorem tcA_TX (S : SH) (x : Int32) (j : Nat) (L : SBB) : TX (fcA S x j L) (tcA S x j) := (((((((((TX.l0 L).pC 67).pN x).pX 16).pN _).pC 32).pN _).pC 47).pN _).pX 17 |>.pN _
theorem tc_TX (S : SH) (x : Int32) (j : Nat) (L : SBB) : TX (fcL S x j L) (tcT S x j) := by
  unfold fcL tcT
  by_cases h : 0 < gl S j
  · rw [if_pos h, if_pos h]
    exact ((tcA_TX S x j L).pX 18).pN _
  · rw [if_neg h, if_neg h]
    exact tcA_TX S x j L
theorem spT_len (w : List Nat) (c : Nat) : (spT w c).length ≤ w.length + 1 := by
  unfold spT
  split
  · exact Nat.zero_le _
  · rw [List.length_append]; exact Nat.le_refl _
theorem tg_len {S : SH} (hN : NBS S) (x : Int32) : ∀ i, i ≤ gp S → (tgT S x i).length ≤ 16 * i
  | 0, _ => Nat.le_refl _
  | i + 1, h => by
    have ih := tg_len hN x i (by omega)
    obtain ⟨a, b⟩ := hN.2.1 i (by omega)
    have a7 := dg_len7 a
    have b7 := dg_len7 b
    have s1 := spT_len (tgT S x i) 44
    unfold tgT
    split
    · simp only [List.length_append, List.length_cons, List.length_nil]
      omega
    · omega
theorem ts_len {S : SH} (hN : NBS S) : ∀ i, i ≤ gsc S → (tsT S i).length ≤ 16 * i
  | 0, _ => Nat.le_refl _
  | i + 1, h => by
    have ih := ts_len hN i (by omega)
    obtain ⟨a, b⟩ := hN.2.2 i (by omega)
    have a7 := dg_len7 a
    have b7 := dg_len7 b
    have s1 := spT_len (tsT S i) 32
    unfold tsT
    simp only [List.length_append, List.length_cons, List.length_nil]
    omega
theorem tsT_ne {S : SH} {i : Nat} (h : 0 < i) : tsT S i ≠ [] := by
  obtain ⟨m, rfl⟩ : ∃ m, i = m + 1 := ⟨i - 1, by omega⟩
  unfold tsT
  intro e
  have := congrArg List.length e
  simp only [List.length_append, List.length_cons, List.length_nil] at this
  omega
