/-! ===== parts of the world, ends of the class's methods ===== -/
abbrev stS (K : KS') (S : SH) : KS' := ((S, K.1.2), K.2)
abbrev stT (K : KS') (S : SH) : KS' := ((K.1.1, S, K.1.2.2), K.2)
abbrev stB (K : KS') (S : SH) : KS' := ((K.1.1, K.1.2.1, S, K.1.2.2.2), K.2)
abbrev stV (K : KS') (S : SH) : KS' := ((K.1.1, K.1.2.1, K.1.2.2.1, S), K.2)
abbrev stH (K : KS') (H : Nat × Nat × (Nat → SH)) : KS' := (K.1, H, K.2.2)
abbrev stC (K : KS') (C : CS) : KS' := (K.1, K.2.1, C, K.2.2.2)
abbrev stLn (K : KS') (L : SBB) : KS' := (K.1, K.2.1, K.2.2.1, L, K.2.2.2.2)
abbrev stIn (K : KS') (L : SBB) : KS' := (K.1, K.2.1, K.2.2.1, K.2.2.2.1, L, K.2.2.2.2.2)
abbrev stP (K : KS') (p : PS) : KS' := (K.1, K.2.1, K.2.2.1, K.2.2.2.1, K.2.2.2.2.1, p, K.2.2.2.2.2.2)
abbrev stF (K : KS') (F : FS) : KS' := (K.1, K.2.1, K.2.2.1, K.2.2.2.1, K.2.2.2.2.1, K.2.2.2.2.2.1, F)
def FE (P : List Nat) (hC hC2 : AHp) (K K2 : KS') : Prop := Fits P P hC (world K) ∧ plug P P hC2 (world K) = world K2
abbrev PSh : List Nat := [1, 2, 3, 4]
abbrev PTr : List Nat := [5, 6, 7, 8]
abbrev shC (S : SH) : AHp := [rH 0 (nI (gc S)) (gar S) (gcp S) (gw S) (gl S) (gu S) (gg S)]
abbrev shG (S : SH) : AHp := [rC 0 (nI (gp S)) (gnx S) (gid S) (gwt S) (gpl S)]
abbrev shW (S : SH) : AHp := [rW 0 (nI (gsc S)) (gmi S) (gsg S) (nI (glc S)) (glg S)]
abbrev stHo (S : SH) (x : Nat × FI × FI × FI × FI × FI × FI) : SH := (x, S.2)
abbrev stCa (S : SH) (x : Nat × Int32 × FI × FI × FI) : SH := (S.1, x, S.2.2)
abbrev stSt (S : SH) (x : Nat × FI × FI × Nat × FI) : SH := (S.1, S.2.1, x, S.2.2.2)
theorem fe_S (K : KS') (S : SH) : FE PSh (ship (kS K)) (ship S) K (stS K S) := ⟨⟨rfl, rfl, rfl, rfl, trivial⟩, rfl⟩
theorem fe_T (K : KS') (S : SH) : FE PTr (ship (kT K)) (ship S) K (stT K S) := ⟨⟨rfl, rfl, rfl, rfl, trivial⟩, rfl⟩
theorem fe_hS (K : KS') (x : Nat × FI × FI × FI × FI × FI × FI) : FE [2] (shC (kS K)) (shC (stHo (kS K) x)) K (stS K (stHo (kS K) x)) := ⟨⟨rfl, trivial⟩, rfl⟩
theorem fe_hT (K : KS') (x : Nat × FI × FI × FI × FI × FI × FI) : FE [6] (shC (kT K)) (shC (stHo (kT K) x)) K (stT K (stHo (kT K) x)) := ⟨⟨rfl, trivial⟩, rfl⟩
theorem fe_gS (K : KS') (x : Nat × Int32 × FI × FI × FI) : FE [3] (shG (kS K)) (shG (stCa (kS K) x)) K (stS K (stCa (kS K) x)) := ⟨⟨rfl, trivial⟩, rfl⟩
theorem fe_wS (K : KS') (x : Nat × FI × FI × Nat × FI) : FE [4] (shW (kS K)) (shW (stSt (kS K) x)) K (stS K (stSt (kS K) x)) := ⟨⟨rfl, trivial⟩, rfl⟩
abbrev PHk : List Nat := [17, 18, 19, 20, 21, 22, 23, 24, 25, 26, 27, 28, 29, 30, 31, 32, 33, 34, 35, 36, 37, 38, 39, 40, 41, 42, 43, 44, 45, 46, 47, 48, 49, 50, 1, 2, 3, 4]
abbrev PHb : List Nat := [17, 18, 19, 20, 21, 22, 23, 24, 25, 26, 27, 28, 29, 30, 31, 32, 33, 34, 35, 36, 37, 38, 39, 40, 41, 42, 43, 44, 45, 46, 47, 48, 49, 50, 9, 10, 11, 12]
theorem plug_app (P : List Nat) : ∀ (ps qs : List Nat) (a b h : AHp), a.length = ps.length → plug P (ps ++ qs) (a ++ b) h = plug P qs b (plug P ps a h)
  | [], _, [], _, _, _ => rfl
  | [], _, _ :: _, _, _, e => by cases e
  | _ :: _, _, [], _, _, e => by cases e
  | p :: ps, qs, g :: a, b, h, e => plug_app P ps qs a b (hput h p (g.map (renC P))) (Nat.succ.inj e)
theorem Fits_app2 (P : List Nat) : ∀ (ps qs : List Nat) (a b h : AHp), Fits P ps a h → Fits P qs b h → Fits P (ps ++ qs) (a ++ b) h
  | [], _, [], _, _, _, f => f
  | [], _, _ :: _, _, _, e, _ => e.elim
  | _ :: _, _, [], _, _, e, _ => e.elim
  | _ :: ps, qs, _ :: a, b, h, e, f => ⟨e.1, Fits_app2 P ps qs a b h e.2 f⟩
theorem plug_blk (P : List Nat) : ∀ (b c pre post : AHp), c.length = b.length → plug P (List.range' pre.length b.length) b (pre ++ (c ++ post)) = pre ++ (b.map (fun g => g.map (renC P)) ++ post)
  | [], [], _, _, _ => rfl
  | [], _ :: _, _, _, e => by cases e
  | _ :: _, [], _, _, e => by cases e
  | g :: b, x :: c, pre, post, e => by
    have h2 := plug_blk P b c (pre ++ [g.map (renC P)]) post (Nat.succ.inj e)
    rw [List.length_append, List.append_assoc, List.append_assoc] at h2
    show plug P (List.range' (pre.length + 1) b.length) b (hput (pre ++ x :: (c ++ post)) pre.length (g.map (renC P))) = _
    rw [hput_eq, List.set_append_right _ _ (Nat.le_refl _), Nat.sub_self]
    exact h2
theorem Fits_blk (P : List Nat) : ∀ (b pre post : AHp), Fits P (List.range' pre.length b.length) b (pre ++ (b.map (fun g => g.map (renC P)) ++ post))
  | [], _, _ => trivial
  | g :: b, pre, post => by
    have h2 := Fits_blk P b (pre ++ [g.map (renC P)]) post
    rw [List.length_append, List.append_assoc] at h2
    refine ⟨?_, h2⟩
    show hnth (pre ++ (g.map (renC P) :: _)) pre.length = _
    rw [hnth_eq, List.getElem?_append_right (Nat.le_refl _), Nat.sub_self]; rfl
abbrev hBlk (g : Nat) (H : Nat × Nat × (Nat → SH)) : AHp := [rHi (g + 1) H.1 H.2.1] :: [aShips (g + 2)] :: h8 (g + 2) H.2.2 []
abbrev wPre (K : KS') : AHp := [wM (kF K)] :: q4 1 (kS K) (q4 5 (kT K) (q4 9 (kB K) (q4 13 (kV K) [])))
abbrev wPost (K : KS') : AHp := rX (kC K) :: [aB (kL K).1 (kL K).2.1 (kL K).2.2] :: wQ 53 (kI K) (kP K)
theorem world_his (K : KS') : world K = wPre K ++ (hBlk 17 (kH K) ++ wPost K) := rfl
theorem hBlk_k (H : Nat × Nat × (Nat → SH)) : (hBlk 0 H).map (fun g => g.map (renC PHk)) = hBlk 17 H := rfl
theorem hBlk_b (H : Nat × Nat × (Nat → SH)) : (hBlk 0 H).map (fun g => g.map (renC PHb)) = hBlk 17 H := rfl
theorem PHk_eq : PHk = List.range' 17 34 ++ [1, 2, 3, 4] := by decide
theorem PHb_eq : PHb = List.range' 17 34 ++ [9, 10, 11, 12] := by decide
theorem hisW_eq (H : Nat × Nat × (Nat → SH)) (S : SH) : hisW H S = hBlk 0 H ++ q4 34 S [] := rfl
theorem fit_his (P : List Nat) (K : KS') (qs : List Nat) (b : AHp) (hP : P = List.range' 17 34 ++ qs) (e : (hBlk 0 (kH K)).map (fun g => g.map (renC P)) = hBlk 17 (kH K)) (f : Fits P qs b (world K)) : Fits P P (hBlk 0 (kH K) ++ b) (world K) := by
  have h1 := Fits_blk P (hBlk 0 (kH K)) (wPre K) (wPost K)
  rw [e, ← world_his] at h1
  have h2 := Fits_app2 P _ qs _ b _ h1 f
  have e3 : List.range' (wPre K).length (hBlk 0 (kH K)).length = List.range' 17 34 := rfl
  rw [e3, ← hP] at h2
  exact h2
theorem plug_his (P : List Nat) (K : KS') (H : Nat × Nat × (Nat → SH)) (qs : List Nat) (b : AHp) (hP : P = List.range' 17 34 ++ qs) (e : (hBlk 0 H).map (fun g => g.map (renC P)) = hBlk 17 H) (f : plug P qs b (world (stH K H)) = world (stH K H)) : plug P P (hBlk 0 H ++ b) (world K) = world (stH K H) := by
  have h1 := plug_blk P (hBlk 0 H) (hBlk 17 (kH K)) (wPre K) (wPost K) rfl
  rw [e, ← world_his] at h1
  have e3 : List.range' (wPre K).length (hBlk 0 H).length = List.range' 17 34 := rfl
  rw [e3] at h1
  have h2 := plug_app P (List.range' 17 34) qs (hBlk 0 H) b (world K) rfl
  rw [h1, ← hP] at h2
  rw [h2]
  exact f
theorem fe_H (K : KS') (H : Nat × Nat × (Nat → SH)) : FE PHk (hisW (kH K) (kS K)) (hisW H (kS K)) K (stH K H) :=
  ⟨fit_his PHk K [1, 2, 3, 4] (q4 34 (kS K) []) PHk_eq (hBlk_k _) ⟨rfl, rfl, rfl, rfl, trivial⟩, plug_his PHk K H [1, 2, 3, 4] (q4 34 (kS K) []) PHk_eq (hBlk_k _) rfl⟩
theorem fe_Hb (K : KS') (H : Nat × Nat × (Nat → SH)) : FE PHb (hisW (kH K) (kB K)) (hisW H (kB K)) K (stH K H) :=
  ⟨fit_his PHb K [9, 10, 11, 12] (q4 34 (kB K) []) PHb_eq (hBlk_b _) ⟨rfl, rfl, rfl, rfl, trivial⟩, plug_his PHb K H [9, 10, 11, 12] (q4 34 (kB K) []) PHb_eq (hBlk_b _) rfl⟩
theorem fe_TS (K : KS') (S : SH) : FE [5, 6, 7, 8, 1, 2, 3, 4] (ship2 (kT K) (kS K)) (ship2 S (kS K)) K (stT K S) := ⟨⟨rfl, rfl, rfl, rfl, rfl, rfl, rfl, rfl, trivial⟩, rfl⟩
theorem fe_BS (K : KS') (S : SH) : FE [9, 10, 11, 12, 1, 2, 3, 4] (ship2 (kB K) (kS K)) (ship2 S (kS K)) K (stB K S) := ⟨⟨rfl, rfl, rfl, rfl, rfl, rfl, rfl, rfl, trivial⟩, rfl⟩
theorem fe_SB (K : KS') (S : SH) : FE [1, 2, 3, 4, 9, 10, 11, 12] (ship2 (kS K) (kB K)) (ship2 S (kB K)) K (stS K S) := ⟨⟨rfl, rfl, rfl, rfl, rfl, rfl, rfl, rfl, trivial⟩, rfl⟩
theorem fe_VS (K : KS') (S : SH) : FE [13, 14, 15, 16, 1, 2, 3, 4] (ship2 (kV K) (kS K)) (ship2 S (kS K)) K (stV K S) := ⟨⟨rfl, rfl, rfl, rfl, rfl, rfl, rfl, rfl, trivial⟩, rfl⟩
theorem fe_SV (K : KS') (S : SH) : FE [1, 2, 3, 4, 13, 14, 15, 16] (ship2 (kS K) (kV K)) (ship2 S (kV K)) K (stS K S) := ⟨⟨rfl, rfl, rfl, rfl, rfl, rfl, rfl, rfl, trivial⟩, rfl⟩
theorem fe_S0 (K : KS') (S : SH) : FE [1, 2, 3, 4, 19, 20, 21, 22] (ship2 (kS K) ((kH K).2.2 0)) (ship2 S ((kH K).2.2 0)) K (stS K S) := ⟨⟨rfl, rfl, rfl, rfl, rfl, rfl, rfl, rfl, trivial⟩, rfl⟩
theorem fe_S1 (K : KS') (S : SH) : FE [1, 2, 3, 4, 23, 24, 25, 26] (ship2 (kS K) ((kH K).2.2 1)) (ship2 S ((kH K).2.2 1)) K (stS K S) := ⟨⟨rfl, rfl, rfl, rfl, rfl, rfl, rfl, rfl, trivial⟩, rfl⟩
theorem fe_S2 (K : KS') (S : SH) : FE [1, 2, 3, 4, 27, 28, 29, 30] (ship2 (kS K) ((kH K).2.2 2)) (ship2 S ((kH K).2.2 2)) K (stS K S) := ⟨⟨rfl, rfl, rfl, rfl, rfl, rfl, rfl, rfl, trivial⟩, rfl⟩
theorem fe_S3 (K : KS') (S : SH) : FE [1, 2, 3, 4, 31, 32, 33, 34] (ship2 (kS K) ((kH K).2.2 3)) (ship2 S ((kH K).2.2 3)) K (stS K S) := ⟨⟨rfl, rfl, rfl, rfl, rfl, rfl, rfl, rfl, trivial⟩, rfl⟩
theorem fe_S4 (K : KS') (S : SH) : FE [1, 2, 3, 4, 35, 36, 37, 38] (ship2 (kS K) ((kH K).2.2 4)) (ship2 S ((kH K).2.2 4)) K (stS K S) := ⟨⟨rfl, rfl, rfl, rfl, rfl, rfl, rfl, rfl, trivial⟩, rfl⟩
theorem fe_S5 (K : KS') (S : SH) : FE [1, 2, 3, 4, 39, 40, 41, 42] (ship2 (kS K) ((kH K).2.2 5)) (ship2 S ((kH K).2.2 5)) K (stS K S) := ⟨⟨rfl, rfl, rfl, rfl, rfl, rfl, rfl, rfl, trivial⟩, rfl⟩
theorem fe_S6 (K : KS') (S : SH) : FE [1, 2, 3, 4, 43, 44, 45, 46] (ship2 (kS K) ((kH K).2.2 6)) (ship2 S ((kH K).2.2 6)) K (stS K S) := ⟨⟨rfl, rfl, rfl, rfl, rfl, rfl, rfl, rfl, trivial⟩, rfl⟩
theorem fe_S7 (K : KS') (S : SH) : FE [1, 2, 3, 4, 47, 48, 49, 50] (ship2 (kS K) ((kH K).2.2 7)) (ship2 S ((kH K).2.2 7)) K (stS K S) := ⟨⟨rfl, rfl, rfl, rfl, rfl, rfl, rfl, rfl, trivial⟩, rfl⟩
abbrev hoG (r : Nat) (S : SH) : List ACell := rH r (nI (gc S)) (gar S) (gcp S) (gw S) (gl S) (gu S) (gg S)
theorem fe_CS (K : KS') (C : CS) : FE [51, 2] ([rX (kC K), hoG 1 (kS K)]) ([rX C, hoG 1 (kS K)]) K (stC K C) := ⟨⟨rfl, rfl, trivial⟩, rfl⟩
theorem fe_CT (K : KS') (C : CS) : FE [51, 6] ([rX (kC K), hoG 1 (kT K)]) ([rX C, hoG 1 (kT K)]) K (stC K C) := ⟨⟨rfl, rfl, trivial⟩, rfl⟩
theorem fe_C (K : KS') (C : CS) : FE [51] ([rX (kC K)]) ([rX C]) K (stC K C) := ⟨⟨rfl, trivial⟩, rfl⟩
theorem fe_CX (K : KS') (C : CS) : FE [51, 1, 2, 3, 4] (shipX (kC K) (kS K)) (shipX C (kS K)) K (stC K C) := ⟨⟨rfl, rfl, rfl, rfl, rfl, trivial⟩, rfl⟩
theorem fe_L (K : KS') (L : SBB) : FE [52] ([[aB (kL K).1 (kL K).2.1 (kL K).2.2]]) ([[aB L.1 L.2.1 L.2.2]]) K (stLn K L) := ⟨⟨rfl, trivial⟩, rfl⟩
theorem fe_I (K : KS') (L : SBB) : FE [54] ([[aB (kI K).1 (kI K).2.1 (kI K).2.2]]) ([[aB L.1 L.2.1 L.2.2]]) K (stIn K L) := ⟨⟨rfl, trivial⟩, rfl⟩
section ATW
variable {γ : CX} {own : String} {cc : ByteArray} {σ : Nat → Nat → Nat} {k n pc N0 mc ms f : Nat} {ls : List (Nat × AV)} {st : List AV} {hC hC2 : AHp} {mc2 ms2 d2 ix na : Nat} {M : MR} {v : Option AV} {Po : Out → AHp → Prop} {ret : Option FieldType} {K K2 : KS'} {c : ACell} {P : List Nat}
/-- a call of an object of the world -/
theorem At.wV (E : FE P hC hC2 K K2) (As rest : List AV) (O : OK γ own cc) (S : Sp d2 mc2 ms2 M (vR 0 0 :: As) hC (PoQ v hC2)) (Kk : KV M na) (w : Cond.methodLink own ix (mY M) ∈ GT) (hf : Fit γ k n d2 mc2 ms2) (d : decode cc pc = .ok (.invokevirtual ix, 3))
    (g : At γ σ (k + mc2) (n + ms2) (pc + 3) ls ((v.toList.map (ren P)) ++ rest) (world K2)) (hg : hget hC 0 0 = some c := by rfl) (hrc : rcv c (mY M).cls := by exact ⟨_, _, rfl⟩) (hn : va_nd P = true := by rfl) (hna : As.length = na := by rfl) (hrw : wsum rest ≤ 8 := by exact Nat.le_of_ble_eq_true rfl) (hst : st = (As.map (ren P)).reverse ++ vR (rn P 0) 0 :: rest := by rfl) (hl : hC2.length = hC.length := by rfl) : At γ σ k n pc ls st (world K) :=
  At.qV P As rest O S Kk w E.1 hf d hrc (by rw [E.2]; exact g) hg hn hna hrw hst hl
end ATW
/-- the scratch places of the world: the trial ship, the choice -/
abbrev scr (K : KS') (T : SH) (C : CS) : KS' := stC (stT K T) C
def PoC (f : Nat) (v : Option AV) (K1 K0 : KS') : Out → AHp → Prop := fun o h => ∃ T C, WF T ∧ (f = 0 → o = .inl v ∧ h = world (scr K1 T C)) ∧ (¬ f = 0 → o = .inr (exF f) ∧ h = world (scr K0 T C))
theorem PoC_v {f : Nat} {v : Option AV} {K1 K0 : KS'} {h : AHp} (hf : f = 0) (T : SH) (C : CS) (hT : WF T) (e : h = world (scr K1 T C)) : PoC f v K1 K0 (.inl v) h := ⟨T, C, hT, fun _ => ⟨rfl, e⟩, fun q => absurd hf q⟩
theorem PoC_x {f : Nat} {v : Option AV} {K1 K0 : KS'} {h : AHp} (hf : ¬ f = 0) (T : SH) (C : CS) (hT : WF T) (e : h = world (scr K0 T C)) : PoC f v K1 K0 (.inr (exF f)) h := ⟨T, C, hT, fun q => absurd q hf, fun _ => ⟨rfl, e⟩⟩
theorem PoC_n {f m : Nat} {v : Option AV} {K1 K0 : KS'} {h : AHp} {E : String} (hf : f = m) (hm : ¬ m = 0) (hE : E = exF m) (T : SH) (C : CS) (hT : WF T) (e : h = world (scr K0 T C)) : PoC f v K1 K0 (.inr E) h := by
  subst hf; subst hE; exact PoC_x hm T C hT e
section RC
variable {k n mc ms f : Nat} {K1 K0 : KS'} {h : AHp}
theorem rCo {v w : AV} (hf : f = 0) (hv : w = v) (T : SH) (C : CS) (hT : WF T) (e : h = world (scr K1 T C) := by rfl) (hk : k ≤ mc := by omega) (hs : n ≤ ms := by omega) : RF k n mc ms (PoC f (some v) K1 K0) (some w) h := ⟨by rw [hv]; exact PoC_v hf T C hT e, hk, hs⟩
theorem rCF {v w : AV} {fx : Nat} {h0 : AHp} (hf : fx = 0) (hv : w = v) (e : h = h0 := by rfl) (hk : k ≤ mc := by omega) (hs : n ≤ ms := by omega) : RF k n mc ms (PoF fx (some v) h0) (some w) h := ⟨⟨by subst hf; rw [hv]; rfl, e⟩, hk, hs⟩
theorem rCN {fx : Nat} {h0 : AHp} (hf : fx = 0) (e : h = h0 := by rfl) (hk : k ≤ mc := by omega) (hs : n ≤ ms := by omega) : RF k n mc ms (PoF fx none h0) none h := ⟨⟨by subst hf; rfl, e⟩, hk, hs⟩
end RC
theorem PoF_n {f m : Nat} {v : Option AV} {h0 h : AHp} {E : String} (hf : f = m) (hm : ¬ m = 0) (hE : E = exF m) (e : h = h0) : PoF f v h0 (.inr E) h := by
  subst hf; subst hE
  refine ⟨?_, e⟩
  unfold ouF; rw [if_neg hm]
/-! ===== private members of the class ===== -/
def fChk (S : SH) (x : Int32) : Nat := if hsB (gc S) x = true then 0 else 1
theorem s_check (K : KS') (hK : WK K) (x : Int32) : Sp 6 1 6 mX10_checkCompartment [vR 0 0, vI x] (world K) (PoF (fChk (kS K) x) none (world K)) := by
  refine Sp.of' false (fun h => by cases h) (by decide) rfl rfl (Nat.le_of_ble_eq_true rfl) fun γ σ B => ?_
  refine B.run okX10_checkCompartment [] 60 ?_
  refine At.wV (fe_hS K (kS K).1) [vI x] [] B.1 (s_has2 (gc (kS K)) hK.1.1 _ _ _ _ _ _ x) kX5_has ln_X10_457 (B.fit (by decide) (by decide) (by decide)) (dcV okX10_checkCompartment rfl) ?_
  refine B.run okX10_checkCompartment [] 60 ?_
  constructor
  · intro h
    have h := b2_eq0.mp h
    exact B.thrW okX10_checkCompartment T_I ex_445 (PoF_n (m := 1) (by unfold fChk; rw [h]; rfl) (by decide) rfl rfl) (by decide) (by decide) (by decide)
  · intro h
    have h := b2_ne0.mp h
    exact rCN (by unfold fChk; rw [if_pos h])
