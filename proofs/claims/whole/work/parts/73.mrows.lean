/-! ===== the model: rows of changes ===== -/
/-- pieces from a on, to b, three down -/
def sh3 (f : FI) (a b : Nat) : FI := fun j => if a ≤ j ∧ j < b then f (j + 3) else f j
theorem sh3_put (f : FI) (a i : Nat) (h : a ≤ i) : upd (sh3 f a i) i (sh3 f a i (i + 3)) = sh3 f a (i + 1) := by
  funext j
  unfold upd sh3
  by_cases e : j = i
  · subst e
    rw [if_pos rfl, if_neg (by omega), if_pos (by omega)]
  · rw [if_neg e]
    by_cases e2 : a ≤ j ∧ j < i
    · rw [if_pos e2, if_pos (by omega)]
    · rw [if_neg e2, if_neg (by omega)]
abbrev fAddR (f : FI) (c : Nat) (x y : Int32) : FI := upd (upd (upd (upd (upd (upd f 1 (f 1 + 1)) (10 + 5 * c + 0) x) (10 + 5 * c + 1) y) (10 + 5 * c + 2) 0) (10 + 5 * c + 3) 0) (10 + 5 * c + 4) 5
theorem RS.add {T : SH} {f : FI} (r : RS T f) (hT : WF T) (hc : gc T < 8) (x y : Int32) : RS (eAdd T x y) (fAddR f (gc T) x y) := by
  obtain ⟨⟨a0, a1, a2, a3, a4, a5, a6, a7, a8, a9⟩, b, c, d, e⟩ := r
  obtain ⟨h1, h2, h3, h4, -⟩ := hT
  generalize hg : fAddR f (gc T) x y = g
  have N : ∀ j, (j ≠ 1 ∧ (j < 10 + 5 * gc T ∨ 10 + 5 * gc T + 5 ≤ j)) → g j = f j := fun j hj => by
    rw [← hg, fAddR, upd_ne _ _ (by omega), upd_ne _ _ (by omega), upd_ne _ _ (by omega), upd_ne _ _ (by omega), upd_ne _ _ (by omega), upd_ne _ _ (by omega)]
  refine ⟨⟨(N _ (by omega)).trans a0, by rw [← hg, fAddR, upd_ne _ _ (by omega), upd_ne _ _ (by omega), upd_ne _ _ (by omega), upd_ne _ _ (by omega), upd_ne _ _ (by omega), upd_eq, a1, nI_1]; rfl, (N _ (by omega)).trans a2, (N _ (by omega)).trans a3, (N _ (by omega)).trans a4, (N _ (by omega)).trans a5, (N _ (by omega)).trans a6, (N _ (by omega)).trans a7, (N _ (by omega)).trans a8, by rw [N _ (by omega)]; exact a9⟩, fun j hj => ?_, fun j hj => ?_, fun j hj => ?_, fun j hj => ?_⟩
  · have hj : j < gc T + 1 := hj
    show g (10 + 5 * j) = upd (gar T) (gc T) x j ∧ g (10 + 5 * j + 1) = upd (gcp T) (gc T) y j ∧ g (10 + 5 * j + 2) = upd (gw T) (gc T) 0 j ∧ g (10 + 5 * j + 3) = upd (gl T) (gc T) 0 j ∧ g (10 + 5 * j + 4) = upd (gu T) (gc T) 5 j
    by_cases z : j = gc T
    · subst z
      rw [upd_eq, upd_eq, upd_eq, upd_eq, upd_eq]
      refine ⟨?_, ?_, ?_, ?_, ?_⟩
      · rw [← hg, fAddR, upd_ne _ _ (by omega), upd_ne _ _ (by omega), upd_ne _ _ (by omega), upd_ne _ _ (by omega)]; exact upd_eq _ _ _
      · rw [← hg, fAddR, upd_ne _ _ (by omega), upd_ne _ _ (by omega), upd_ne _ _ (by omega), upd_eq]
      · rw [← hg, fAddR, upd_ne _ _ (by omega), upd_ne _ _ (by omega), upd_eq]
      · rw [← hg, fAddR, upd_ne _ _ (by omega), upd_eq]
      · rw [← hg, fAddR, upd_eq]
    · have hj : j < gc T := by omega
      rw [upd_ne _ _ z, upd_ne _ _ z, upd_ne _ _ z, upd_ne _ _ z, upd_ne _ _ z]
      exact ⟨(N _ (by omega)).trans (b j hj).1, (N _ (by omega)).trans (b j hj).2.1, (N _ (by omega)).trans (b j hj).2.2.1, (N _ (by omega)).trans (b j hj).2.2.2.1, (N _ (by omega)).trans (b j hj).2.2.2.2⟩
  · have hj : j < gp T := hj
    exact ⟨(N _ (by omega)).trans (c j hj).1, (N _ (by omega)).trans (c j hj).2.1, (N _ (by omega)).trans (c j hj).2.2⟩
  · have hj : j < gsc T := hj
    exact ⟨(N _ (by omega)).trans (d j hj).1, (N _ (by omega)).trans (d j hj).2⟩
  · have hj : j < glc T := hj
    exact (N _ (by omega)).trans (e j hj)
abbrev fPutR (f : FI) (p : Nat) (x y : Int32) : FI := upd (upd (upd (upd (upd f (50 + 3 * p) (f 3)) (50 + 3 * p + 1) y) (50 + 3 * p + 2) x) 2 (f 2 + 1)) 3 (f 3 + 1)
theorem RS.put {T : SH} {f : FI} (r : RS T f) (hT : WF T) (hc : gp T < 16) (x y : Int32) : RS (ePut T x y) (fPutR f (gp T) x y) := by
  obtain ⟨⟨a0, a1, a2, a3, a4, a5, a6, a7, a8, a9⟩, b, c, d, e⟩ := r
  obtain ⟨h1, h2, h3, h4, -⟩ := hT
  generalize hg : fPutR f (gp T) x y = g
  have N : ∀ j, (j ≠ 2 ∧ j ≠ 3 ∧ (j < 50 + 3 * gp T ∨ 50 + 3 * gp T + 3 ≤ j)) → g j = f j := fun j hj => by
    rw [← hg, fPutR, upd_ne _ _ (by omega), upd_ne _ _ (by omega), upd_ne _ _ (by omega), upd_ne _ _ (by omega), upd_ne _ _ (by omega)]
  refine ⟨⟨(N _ (by omega)).trans a0, (N _ (by omega)).trans a1, by rw [← hg, fPutR, upd_ne _ _ (by omega), upd_eq, a2, nI_1]; rfl, by rw [← hg, fPutR, upd_eq, a3]; rfl, (N _ (by omega)).trans a4, (N _ (by omega)).trans a5, (N _ (by omega)).trans a6, (N _ (by omega)).trans a7, (N _ (by omega)).trans a8, by rw [N _ (by omega)]; exact a9⟩, fun j hj => ?_, fun j hj => ?_, fun j hj => ?_, fun j hj => ?_⟩
  · have hj : j < gc T := hj
    exact ⟨(N _ (by omega)).trans (b j hj).1, (N _ (by omega)).trans (b j hj).2.1, (N _ (by omega)).trans (b j hj).2.2.1, (N _ (by omega)).trans (b j hj).2.2.2.1, (N _ (by omega)).trans (b j hj).2.2.2.2⟩
  · have hj : j < gp T + 1 := hj
    show g (50 + 3 * j) = upd (gid T) (gp T) (gnx T) j ∧ g (50 + 3 * j + 1) = upd (gwt T) (gp T) y j ∧ g (50 + 3 * j + 2) = upd (gpl T) (gp T) x j
    by_cases z : j = gp T
    · subst z
      rw [upd_eq, upd_eq, upd_eq]
      refine ⟨?_, ?_, ?_⟩
      · rw [← hg, fPutR, upd_ne _ _ (by omega), upd_ne _ _ (by omega), upd_ne _ _ (by omega), upd_ne _ _ (by omega), upd_eq, a3]
      · rw [← hg, fPutR, upd_ne _ _ (by omega), upd_ne _ _ (by omega), upd_ne _ _ (by omega), upd_eq]
      · rw [← hg, fPutR, upd_ne _ _ (by omega), upd_ne _ _ (by omega), upd_eq]
    · have hj : j < gp T := by omega
      rw [upd_ne _ _ z, upd_ne _ _ z, upd_ne _ _ z]
      exact ⟨(N _ (by omega)).trans (c j hj).1, (N _ (by omega)).trans (c j hj).2.1, (N _ (by omega)).trans (c j hj).2.2⟩
  · have hj : j < gsc T := hj
    exact ⟨(N _ (by omega)).trans (d j hj).1, (N _ (by omega)).trans (d j hj).2⟩
  · have hj : j < glc T := hj
    exact (N _ (by omega)).trans (e j hj)
abbrev fRemR (f : FI) (q l : Nat) : FI := upd (upd (upd (upd (sh3 f (50 + 3 * q) (50 + 3 * l)) (50 + 3 * l + 0) 0) (50 + 3 * l + 1) 0) (50 + 3 * l + 2) 0) 2 (nI l)
def remT (T : SH) (q : Nat) : SH := stCa T (gp T - 1, gnx T, shl (gid T) q (gp T - 1), shl (gwt T) q (gp T - 1), shl (gpl T) q (gp T - 1))
theorem RS.rem {T : SH} {f : FI} (r : RS T f) (hT : WF T) {q : Nat} (hq : q < gp T) : RS (remT T q) (fRemR f q (gp T - 1)) := by
  obtain ⟨⟨a0, a1, a2, a3, a4, a5, a6, a7, a8, a9⟩, b, c, d, e⟩ := r
  obtain ⟨h1, h2, h3, h4, -⟩ := hT
  generalize hg : fRemR f q (gp T - 1) = g
  have N : ∀ j, (j ≠ 2 ∧ (j < 50 ∨ 98 ≤ j)) → g j = f j := fun j hj => by
    rw [← hg, fRemR, upd_ne _ _ (by omega), upd_ne _ _ (by omega), upd_ne _ _ (by omega), upd_ne _ _ (by omega)]
    unfold sh3
    rw [if_neg (by omega)]
  have S : ∀ j, 50 ≤ j → j < 50 + 3 * (gp T - 1) → g j = if 50 + 3 * q ≤ j then f (j + 3) else f j := fun j h8 hj => by
    rw [← hg, fRemR, upd_ne _ _ (by omega), upd_ne _ _ (by omega), upd_ne _ _ (by omega), upd_ne _ _ (by omega)]
    unfold sh3
    by_cases z : 50 + 3 * q ≤ j
    · rw [if_pos ⟨z, hj⟩, if_pos z]
    · rw [if_neg (fun w => z w.1), if_neg z]
  refine ⟨⟨(N _ (by omega)).trans a0, (N _ (by omega)).trans a1, by rw [← hg, fRemR, upd_eq]; rfl, (N _ (by omega)).trans a3, (N _ (by omega)).trans a4, (N _ (by omega)).trans a5, (N _ (by omega)).trans a6, (N _ (by omega)).trans a7, (N _ (by omega)).trans a8, by rw [N _ (by omega)]; exact a9⟩, fun j hj => ?_, fun j hj => ?_, fun j hj => ?_, fun j hj => ?_⟩
  · have hj : j < gc T := hj
    exact ⟨(N _ (by omega)).trans (b j hj).1, (N _ (by omega)).trans (b j hj).2.1, (N _ (by omega)).trans (b j hj).2.2.1, (N _ (by omega)).trans (b j hj).2.2.2.1, (N _ (by omega)).trans (b j hj).2.2.2.2⟩
  · have hj : j < gp T - 1 := hj
    rw [S _ (by omega) (by omega), S _ (by omega) (by omega), S _ (by omega) (by omega)]
    show _ = (if q ≤ j ∧ j < gp T - 1 then gid T (j + 1) else gid T j) ∧ _ = (if q ≤ j ∧ j < gp T - 1 then gwt T (j + 1) else gwt T j) ∧ _ = (if q ≤ j ∧ j < gp T - 1 then gpl T (j + 1) else gpl T j)
    by_cases z : q ≤ j
    · rw [if_pos (by omega), if_pos (by omega), if_pos (by omega), if_pos (by omega), if_pos (by omega), if_pos (by omega)]
      exact c (j + 1) (by omega)
    · rw [if_neg (by omega), if_neg (by omega), if_neg (by omega), if_neg (by omega), if_neg (by omega), if_neg (by omega)]
      exact c j (by omega)
  · have hj : j < gsc T := hj
    exact ⟨(N _ (by omega)).trans (d j hj).1, (N _ (by omega)).trans (d j hj).2⟩
  · have hj : j < glc T := hj
    exact (N _ (by omega)).trans (e j hj)
def carT (T : SH) (q : Nat) (y : Int32) : SH := stCa T (gp T, gnx T, gid T, gwt T, upd (gpl T) q y)
theorem RS.car {T : SH} {f : FI} (r : RS T f) (hT : WF T) {q : Nat} (hq : q < gp T) (y : Int32) : RS (carT T q y) (upd f (50 + 3 * q + 2) y) := by
  obtain ⟨⟨a0, a1, a2, a3, a4, a5, a6, a7, a8, a9⟩, b, c, d, e⟩ := r
  obtain ⟨h1, h2, h3, h4, -⟩ := hT
  have N : ∀ j, j ≠ 50 + 3 * q + 2 → upd f (50 + 3 * q + 2) y j = f j := fun j hj => upd_ne _ _ hj
  refine ⟨⟨(N _ (by omega)).trans a0, (N _ (by omega)).trans a1, (N _ (by omega)).trans a2, (N _ (by omega)).trans a3, (N _ (by omega)).trans a4, (N _ (by omega)).trans a5, (N _ (by omega)).trans a6, (N _ (by omega)).trans a7, (N _ (by omega)).trans a8, by rw [N _ (by omega)]; exact a9⟩, fun j hj => ?_, fun j hj => ?_, fun j hj => ?_, fun j hj => ?_⟩
  · have hj : j < gc T := hj
    exact ⟨(N _ (by omega)).trans (b j hj).1, (N _ (by omega)).trans (b j hj).2.1, (N _ (by omega)).trans (b j hj).2.2.1, (N _ (by omega)).trans (b j hj).2.2.2.1, (N _ (by omega)).trans (b j hj).2.2.2.2⟩
  · have hj : j < gp T := hj
    refine ⟨(N _ (by omega)).trans (c j hj).1, (N _ (by omega)).trans (c j hj).2.1, ?_⟩
    show _ = upd (gpl T) q y j
    by_cases z : j = q
    · subst z; rw [upd_eq, upd_eq]
    · rw [upd_ne _ _ z, N _ (by omega)]; exact (c j hj).2.2
  · have hj : j < gsc T := hj
    exact ⟨(N _ (by omega)).trans (d j hj).1, (N _ (by omega)).trans (d j hj).2⟩
  · have hj : j < glc T := hj
    exact (N _ (by omega)).trans (e j hj)
def guT (T : SH) (i : Nat) (y : Int32) : SH := stHo T (gc T, gar T, gcp T, gw T, gl T, upd (gu T) i y, gg T)
theorem RS.setG {T : SH} {f : FI} (r : RS T f) (hT : WF T) {i : Nat} (hi : i < 8) (y : Int32) : RS (guT T i y) (upd f (10 + 5 * i + 4) y) := by
  obtain ⟨⟨a0, a1, a2, a3, a4, a5, a6, a7, a8, a9⟩, b, c, d, e⟩ := r
  obtain ⟨h1, h2, h3, h4, -⟩ := hT
  have N : ∀ j, j ≠ 10 + 5 * i + 4 → upd f (10 + 5 * i + 4) y j = f j := fun j hj => upd_ne _ _ hj
  refine ⟨⟨(N _ (by omega)).trans a0, (N _ (by omega)).trans a1, (N _ (by omega)).trans a2, (N _ (by omega)).trans a3, (N _ (by omega)).trans a4, (N _ (by omega)).trans a5, (N _ (by omega)).trans a6, (N _ (by omega)).trans a7, (N _ (by omega)).trans a8, by rw [N _ (by omega)]; exact a9⟩, fun j hj => ?_, fun j hj => ?_, fun j hj => ?_, fun j hj => ?_⟩
  · have hj : j < gc T := hj
    refine ⟨(N _ (by omega)).trans (b j hj).1, (N _ (by omega)).trans (b j hj).2.1, (N _ (by omega)).trans (b j hj).2.2.1, (N _ (by omega)).trans (b j hj).2.2.2.1, ?_⟩
    show _ = upd (gu T) i y j
    by_cases z : j = i
    · subst z; rw [upd_eq, upd_eq]
    · rw [upd_ne _ _ z, N _ (by omega)]; exact (b j hj).2.2.2.2
  · have hj : j < gp T := hj
    exact ⟨(N _ (by omega)).trans (c j hj).1, (N _ (by omega)).trans (c j hj).2.1, (N _ (by omega)).trans (c j hj).2.2⟩
  · have hj : j < gsc T := hj
    exact ⟨(N _ (by omega)).trans (d j hj).1, (N _ (by omega)).trans (d j hj).2⟩
  · have hj : j < glc T := hj
    exact (N _ (by omega)).trans (e j hj)
/-- a storm behind the others, as the model has it -/
def schT (T : SH) (x y : Int32) : SH := stSt T (gsc T + 1, upd (gmi T) (gsc T) x, upd (gsg T) (gsc T) y, glc T, glg T)
abbrev fSchR (f : FI) (c : Nat) (x y : Int32) : FI := upd (upd (upd f (98 + 2 * c) x) (98 + 2 * c + 1) y) 7 (f 7 + 1)
theorem RS.sch {T : SH} {f : FI} (r : RS T f) (hT : WF T) (hc : gsc T < 6) (x y : Int32) : RS (schT T x y) (fSchR f (gsc T) x y) := by
  obtain ⟨⟨a0, a1, a2, a3, a4, a5, a6, a7, a8, a9⟩, b, c, d, e⟩ := r
  obtain ⟨h1, h2, h3, h4, -⟩ := hT
  generalize hg : fSchR f (gsc T) x y = g
  have N : ∀ j, (j ≠ 7 ∧ j ≠ 98 + 2 * gsc T ∧ j ≠ 98 + 2 * gsc T + 1) → g j = f j := fun j hj => by
    rw [← hg, fSchR, upd_ne _ _ (by omega), upd_ne _ _ (by omega), upd_ne _ _ (by omega)]
  refine ⟨⟨(N _ (by omega)).trans a0, (N _ (by omega)).trans a1, (N _ (by omega)).trans a2, (N _ (by omega)).trans a3, (N _ (by omega)).trans a4, (N _ (by omega)).trans a5, (N _ (by omega)).trans a6, by rw [← hg, fSchR, upd_eq, a7, nI_1]; rfl, (N _ (by omega)).trans a8, by rw [N _ (by omega)]; exact a9⟩, fun j hj => ?_, fun j hj => ?_, fun j hj => ?_, fun j hj => ?_⟩
  · have hj : j < gc T := hj
    exact ⟨(N _ (by omega)).trans (b j hj).1, (N _ (by omega)).trans (b j hj).2.1, (N _ (by omega)).trans (b j hj).2.2.1, (N _ (by omega)).trans (b j hj).2.2.2.1, (N _ (by omega)).trans (b j hj).2.2.2.2⟩
  · have hj : j < gp T := hj
    exact ⟨(N _ (by omega)).trans (c j hj).1, (N _ (by omega)).trans (c j hj).2.1, (N _ (by omega)).trans (c j hj).2.2⟩
  · have hj : j < gsc T + 1 := hj
    show g (98 + 2 * j) = upd (gmi T) (gsc T) x j ∧ g (98 + 2 * j + 1) = upd (gsg T) (gsc T) y j
    by_cases z : j = gsc T
    · subst z
      rw [upd_eq, upd_eq]
      refine ⟨?_, ?_⟩
      · rw [← hg, fSchR, upd_ne _ _ (by omega), upd_ne _ _ (by omega), upd_eq]
      · rw [← hg, fSchR, upd_ne _ _ (by omega), upd_eq]
    · have hj : j < gsc T := by omega
      rw [upd_ne _ _ z, upd_ne _ _ z]
      exact ⟨(N _ (by omega)).trans (d j hj).1, (N _ (by omega)).trans (d j hj).2⟩
  · have hj : j < glc T := hj
    exact (N _ (by omega)).trans (e j hj)
