/-! ===== more rules: decoding of further instructions, runs in a world with more regions ===== -/
def L1 : List Instr := [.aconst_null, .aastore, .iaload, .baload, .aaload, .arraylength, .i2d, .ddiv, .dreturn, .i2f, .fdiv, .freturn, .f2d, .dup, .athrow, .areturn, .ireturn, .lreturn, .return_]
theorem dc1L {ini : Bool} {o : Nat} {cc : ByteArray} {l : List IE} (h : okL ini o cc l = true) {pc : Nat} {i : Instr} (hd : dec_of l pc = some i) (hi : i ∈ L1) : decode cc pc = .ok (i, 1) := by
  obtain ⟨e, rfl, e2, h1, -⟩ := okL_dec h hd
  obtain ⟨len, h3, h4⟩ := okD_spec h1
  rw [e2] at h3 h4
  simp only [L1, List.mem_cons, List.not_mem_nil, or_false] at hi
  rcases hi with rfl | rfl | rfl | rfl | rfl | rfl | rfl | rfl | rfl | rfl | rfl | rfl | rfl | rfl | rfl | rfl | rfl | rfl | rfl <;> rw [h3, beq_iff_eq.mp h4] <;> rfl
theorem dcNul {ini : Bool} {o : Nat} {cc : ByteArray} {l : List IE} (h : okL ini o cc l = true) {pc : Nat} {off : Int} (hd : dec_of l pc = some (.ifnull off)) : decode cc pc = .ok (.ifnull off, 3) := by
  obtain ⟨e, rfl, e2, h1, -⟩ := okL_dec h hd
  obtain ⟨len, h3, h4⟩ := okD_spec h1
  rw [e2] at h3 h4
  rw [h3, beq_iff_eq.mp h4]
theorem dcNnl {ini : Bool} {o : Nat} {cc : ByteArray} {l : List IE} (h : okL ini o cc l = true) {pc : Nat} {off : Int} (hd : dec_of l pc = some (.ifnonnull off)) : decode cc pc = .ok (.ifnonnull off, 3) := by
  obtain ⟨e, rfl, e2, h1, -⟩ := okL_dec h hd
  obtain ⟨len, h3, h4⟩ := okD_spec h1
  rw [e2] at h3 h4
  rw [h3, beq_iff_eq.mp h4]
theorem dcNew {ini : Bool} {o : Nat} {cc : ByteArray} {l : List IE} (h : okL ini o cc l = true) {pc : Nat} {ty : ArrayType} (hd : dec_of l pc = some (.newarray ty)) : decode cc pc = .ok (.newarray ty, 2) := by
  obtain ⟨e, rfl, e2, h1, -⟩ := okL_dec h hd
  obtain ⟨len, h3, h4⟩ := okD_spec h1
  rw [e2] at h3 h4
  rw [h3, beq_iff_eq.mp h4]
theorem dcANew {ini : Bool} {o : Nat} {cc : ByteArray} {l : List IE} (h : okL ini o cc l = true) {pc ix : Nat} (hd : dec_of l pc = some (.anewarray ix)) : decode cc pc = .ok (.anewarray ix, 3) := by
  obtain ⟨e, rfl, e2, h1, -⟩ := okL_dec h hd
  obtain ⟨len, h3, h4⟩ := okD_spec h1
  rw [e2] at h3 h4
  rw [h3, beq_iff_eq.mp h4]
theorem dcGf {ini : Bool} {o : Nat} {cc : ByteArray} {l : List IE} (h : okL ini o cc l = true) {pc ix : Nat} (hd : dec_of l pc = some (.getfield ix)) : decode cc pc = .ok (.getfield ix, 3) := by
  obtain ⟨e, rfl, e2, h1, -⟩ := okL_dec h hd
  obtain ⟨len, h3, h4⟩ := okD_spec h1
  rw [e2] at h3 h4
  rw [h3, beq_iff_eq.mp h4]
  rfl
theorem dcSw {ini : Bool} {o : Nat} {cc : ByteArray} {l : List IE} (h : okL ini o cc l = true) {pc : Nat} {df lo hi : Int} {offs : Array Int} (hd : dec_of l pc = some (.tableswitch df lo hi offs)) : ∃ len, decode cc pc = .ok (.tableswitch df lo hi offs, len) := by
  obtain ⟨e, rfl, e2, h1, -⟩ := okL_dec h hd
  obtain ⟨len, h3, h4⟩ := okD_spec h1
  rw [e2] at h3 h4
  exact ⟨len, h3⟩
def sx {γ : CX} {own : String} {cc : ByteArray} (O : OK γ own cc) : SX (cκ γ) (cF γ) (cS γ) (cS γ).heap := O.2.2.2.2.2.1.2.2.2.2.2.2
section RU
variable {γ : CX} {own : String} {cc : ByteArray} {σ σ0 : Nat → Nat → Nat} {k n pc N0 mc ms d : Nat} {ls : List (Nat × AV)} {st rest : List AV} {h : AHp} {Po : Out → AHp → Prop} {ini : Bool} {M : MR}
/-- a run without a return, in any world -/
theorem Bd.runX (B : Bd γ σ0 ini M d mc ms N0 Po) {code : List IE} (hc : okL ini (mO M) (mB M) code = true) (ct : List (Nat × List Nat)) (f : Nat)
    (hw : wp γ σ k n (fun _ _ => False) (mZ M) (mL M) ct code f (seek code pc) ls st h) : At γ σ k n pc ls st h := by
  obtain ⟨O, F, hml, hR, hin⟩ := B
  obtain ⟨q1, q2⟩ := seek_ok (t := pc) hc
  cases hs : seek code pc with
  | nil =>
    rw [hs] at hw
    cases f <;> exact False.elim hw
  | cons e l =>
    rw [hs] at hw q1
    have hRK : RK γ σ k n (mB M) (mZ M) (fun _ _ => False) := ⟨fun _ _ _ _ _ _ _ _ z => False.elim z, fun _ _ _ _ _ _ z => False.elim z, fun _ _ _ _ _ _ _ _ _ z => False.elim z, fun _ _ _ _ _ z => False.elim z⟩
    have := wp_ok O hin hRK hml hc f e l ls st h q1 hw
    rw [q2 e l hs] at this
    exact this
/-- a run with a return, in a world with more regions than at the start -/
theorem Bd.runN (B : Bd γ σ0 ini M d mc ms N0 Po) (hσ : ∀ r, r < N0 → ∀ o, σ r o = σ0 r o) {code : List IE} (hc : okL ini (mO M) (mB M) code = true) (ct : List (Nat × List Nat)) (f : Nat)
    (hw : wp γ σ k n (fun v h => Po (.inl v) h ∧ k ≤ mc ∧ n ≤ ms ∧ N0 < h.length) (mZ M) (mL M) ct code f (seek code pc) ls st h) : At γ σ k n pc ls st h := by
  obtain ⟨O, F, hml, hR, hin⟩ := B
  obtain ⟨q1, q2⟩ := seek_ok (t := pc) hc
  cases hs : seek code pc with
  | nil =>
    rw [hs] at hw
    cases f <;> exact False.elim hw
  | cons e l =>
    rw [hs] at hw q1
    have hRK : RK γ σ k n (mB M) (mZ M) (fun v h => Po (.inl v) h ∧ k ≤ mc ∧ n ≤ ms ∧ N0 < h.length) :=
      ⟨fun pc ls h x ty d hr hn hp => At.iret O F d hr hn hp.2.1 hp.2.2.1 (Or.inr ⟨hp.2.2.2, hσ⟩) hp.1, fun pc ls h x d hr hp => At.lret O F d hr hp.2.1 hp.2.2.1 (Or.inr ⟨hp.2.2.2, hσ⟩) hp.1,
       fun pc ls h v ty d hr ht hv hp => At.aret O F d hr ht (Or.inl hv) hp.2.1 hp.2.2.1 (Or.inr ⟨hp.2.2.2, hσ⟩) hp.1, fun pc ls h d hr hp => At.vret O F d hr hp.2.1 hp.2.2.1 (Or.inr ⟨hp.2.2.2, hσ⟩) hp.1⟩
    have := wp_ok O hin hRK hml hc f e l ls st h q1 hw
    rw [q2 e l hs] at this
    exact this
theorem At.null (O : OK γ own cc) (d : decode cc pc = .ok (.aconst_null, 1)) (g : At γ σ k n (pc + 1) ls (vN :: st) h) : At γ σ k n pc ls st h := fun η H locs lsA a b c => lv_null O.1 O.2.1 d (g η H locs lsA a b c)
theorem At.ifnullN (O : OK γ own cc) {off : Int} {t : Nat} (d : decode cc pc = .ok (.ifnull off, 3)) (ht : (pc : Int) + off = (t : Int)) (g : At γ σ k n t ls st h) : At γ σ k n pc ls (vN :: st) h := fun η H locs lsA a b c => lv_ifnullN O.1 O.2.1 d ht (g η H locs lsA a b c)
theorem At.ifnullR (O : OK γ own cc) {off : Int} {v : AV} (hr : isRf v = true) (d : decode cc pc = .ok (.ifnull off, 3)) (g : At γ σ k n (pc + 3) ls st h) : At γ σ k n pc ls (v :: st) h := fun η H locs lsA a b c => by
  have h2 := g η H locs lsA a b c
  obtain ⟨x, e⟩ := tr_rf (σ := σ) (κ := cκ γ) hr
  simp only [List.map_cons]
  rw [e]
  exact lv_ifnull O.1 O.2.1 d h2
theorem At.ifnonnullR (O : OK γ own cc) {off : Int} {t : Nat} {v : AV} (hr : isRf v = true) (d : decode cc pc = .ok (.ifnonnull off, 3)) (ht : (pc : Int) + off = (t : Int)) (g : At γ σ k n t ls st h) : At γ σ k n pc ls (v :: st) h := fun η H locs lsA a b c => by
  have h2 := g η H locs lsA a b c
  obtain ⟨x, e⟩ := tr_rf (σ := σ) (κ := cκ γ) hr
  simp only [List.map_cons]
  rw [e]
  exact lv_ifnonnull O.1 O.2.1 d ht h2
/-- statics -/
theorem At.getZ (O : OK γ own cc) {C nm dd : String} {ix : Nat} {v : AV} {w : Value} (hZ : va_Z C nm dd w (cF γ) (cS γ) (cS γ).heap) (hv : tr σ (cκ γ) v = w) (hl : Cond.fieldLink own ix C nm dd ∈ GT) (d : decode cc pc = .ok (.getstatic ix, 3)) (g : At γ σ k n (pc + 3) ls (v :: st) h) : At γ σ k n pc ls st h := fun η H locs lsA a b c => by
  have h2 := g η H locs lsA a b c
  simp only [List.map_cons] at h2
  rw [hv] at h2
  exact va_gets O.1 O.2.1 hZ b O.2.2.1 (O.2.2.2.1 _ hl) (fun _ h9 => h9) d h2
theorem At.getZN (O : OK γ own cc) {C nm dd host : String} {ix : Nat} {v : AV} {w : Value} (hZ : va_Z C nm dd w (cF γ) (cS γ) (cS γ).heap) (hv : tr σ (cκ γ) v = w) (hl : va_Nw (.fieldLinkNest own ix C nm dd host) (cS γ)) (d : decode cc pc = .ok (.getstatic ix, 3)) (g : At γ σ k n (pc + 3) ls (v :: st) h) : At γ σ k n pc ls st h := fun η H locs lsA a b c => by
  have h2 := g η H locs lsA a b c
  simp only [List.map_cons] at h2
  rw [hv] at h2
  exact va_getsN O.1 O.2.1 hZ b O.2.2.1 (va_Nw.use rfl hl) (fun _ h9 => h9) d h2
/-- fields of constant objects -/
theorem At.getOF (O : OK γ own cc) {C nm dd : String} {ix q : Nat} {x v : AV} {w : Value} (hE : va_OF C nm dd w q (cF γ) (cS γ) (cS γ).heap) (hx : tr σ (cκ γ) x = .ref q) (hv : tr σ (cκ γ) v = w) (hl : Cond.fieldLink own ix C nm dd ∈ GT) (d : decode cc pc = .ok (.getfield ix, 3)) (g : At γ σ k n (pc + 3) ls (v :: st) h) : At γ σ k n pc ls (x :: st) h := fun η H locs lsA a b c => by
  have h2 := g η H locs lsA a b c
  simp only [List.map_cons] at h2 ⊢
  rw [hv] at h2
  rw [hx]
  exact vk_getf O.1 O.2.1 hE b O.2.2.1 (O.2.2.2.1 _ hl) (fun _ h9 => h9) d h2
theorem At.getOFN (O : OK γ own cc) {C nm dd host : String} {ix q : Nat} {x v : AV} {w : Value} (hE : va_OF C nm dd w q (cF γ) (cS γ) (cS γ).heap) (hx : tr σ (cκ γ) x = .ref q) (hv : tr σ (cκ γ) v = w) (hl : va_Nw (.fieldLinkNest own ix C nm dd host) (cS γ)) (d : decode cc pc = .ok (.getfield ix, 3)) (g : At γ σ k n (pc + 3) ls (v :: st) h) : At γ σ k n pc ls (x :: st) h := fun η H locs lsA a b c => by
  have h2 := g η H locs lsA a b c
  simp only [List.map_cons] at h2 ⊢
  rw [hv] at h2
  rw [hx]
  obtain ⟨cf, k, fi, f, cell, h1, h2', h3, h4, h5, h6⟩ := hE.kept b.2.1
  exact va_Wgetf O.1 O.2.1 O.2.2.1 (va_Nw.use rfl hl) h1 h2' h3 h4 (v := w) h5 rfl rfl d h2
/-- arrays that nobody writes -/
theorem At.tiald (O : OK γ own cc) {t N : Nat} {f : Nat → Value} {x v : AV} {i : Int32} (hT : va_T .int t N f (cF γ) (cS γ) (cS γ).heap) (hx : tr σ (cκ γ) x = .ref t) (hin : vp_in i N) (hv : tr σ (cκ γ) v = f i.toNatClampNeg) (d : decode cc pc = .ok (.iaload, 1)) (g : At γ σ k n (pc + 1) ls (v :: st) h) : At γ σ k n pc ls (vI i :: x :: st) h := fun η H locs lsA a b c => by
  have h2 := g η H locs lsA a b c
  simp only [List.map_cons] at h2 ⊢
  rw [hx]
  exact va_ti O.1 O.2.1 hT b hin hv.symm d h2
theorem At.tbald (O : OK γ own cc) {t N : Nat} {f : Nat → Value} {x v : AV} {i : Int32} (hT : va_T .byte t N f (cF γ) (cS γ) (cS γ).heap) (hx : tr σ (cκ γ) x = .ref t) (hin : vp_in i N) (hv : tr σ (cκ γ) v = f i.toNatClampNeg) (d : decode cc pc = .ok (.baload, 1)) (g : At γ σ k n (pc + 1) ls (v :: st) h) : At γ σ k n pc ls (vI i :: x :: st) h := fun η H locs lsA a b c => by
  have h2 := g η H locs lsA a b c
  simp only [List.map_cons] at h2 ⊢
  rw [hx]
  exact va_tb O.1 O.2.1 hT b hin hv.symm d h2
theorem At.taald (O : OK γ own cc) {C : String} {t N : Nat} {f : Nat → Value} {x v : AV} {i : Int32} (hT : va_T (.object C) t N f (cF γ) (cS γ) (cS γ).heap) (hx : tr σ (cκ γ) x = .ref t) (hin : vp_in i N) (hv : tr σ (cκ γ) v = f i.toNatClampNeg) (d : decode cc pc = .ok (.aaload, 1)) (g : At γ σ k n (pc + 1) ls (v :: st) h) : At γ σ k n pc ls (vI i :: x :: st) h := fun η H locs lsA a b c => by
  have h2 := g η H locs lsA a b c
  simp only [List.map_cons] at h2 ⊢
  rw [hx]
  obtain ⟨cell, h1, h2', h3, h4, h5, h6, h7⟩ := hT
  have hlt : i.toNatClampNeg < N := Nat.not_le.mp fun q => hin (Or.inr q)
  exact W.aald (v := tr σ (cκ γ) v) O.1 O.2.1 (by rw [b.2.1 t (Array.getElem?_eq_some_iff.mp h1).1 h7]; exact h1) h2' rfl h3 (fun q => by rcases q with q | q; exact hin (Or.inl q); omega) (by rw [h6 _ hlt, hv]) rfl rfl d h2
theorem At.tlen (O : OK γ own cc) {ty : FieldType} {t N : Nat} {f : Nat → Value} {x : AV} (hT : va_T ty t N f (cF γ) (cS γ) (cS γ).heap) (hx : tr σ (cκ γ) x = .ref t) (d : decode cc pc = .ok (.arraylength, 1)) (g : At γ σ k n (pc + 1) ls (vI (nI N) :: st) h) : At γ σ k n pc ls (x :: st) h := fun η H locs lsA a b c => by
  have h2 := g η H locs lsA a b c
  simp only [List.map_cons] at h2 ⊢
  rw [hx]
  exact va_tlen O.1 O.2.1 hT b (v := nI N) rfl d h2
theorem At.ldcS (O : OK γ own cc) {ix q : Nat} {tx : String} {v : AV} (hZ : vk_R own ix tx q (cS γ)) (hv : tr σ (cκ γ) v = .ref q) (d : decode cc pc = .ok (.ldc ix, 2)) (g : At γ σ k n (pc + 2) ls (v :: st) h) : At γ σ k n pc ls st h := fun η H locs lsA a b c => by
  have h2 := g η H locs lsA a b c
  simp only [List.map_cons] at h2
  rw [hv] at h2
  exact va_ldcS O.1 O.2.1 O.2.2.1 hZ d h2
theorem At.ldcSW (O : OK γ own cc) {ix q : Nat} {tx : String} {v : AV} (hZ : vk_R own ix tx q (cS γ)) (hv : tr σ (cκ γ) v = .ref q) (d : decode cc pc = .ok (.ldc_w ix, 3)) (g : At γ σ k n (pc + 3) ls (v :: st) h) : At γ σ k n pc ls st h := by
  intro η H locs lsA a b c T hT X
  have h2 := g η H locs lsA a b c
  simp only [List.map_cons] at h2
  rw [hv] at h2
  obtain ⟨t, a1, b1⟩ := h2 T hT X
  exact ⟨t, X.ldcStringW O.1 (text := tx) (a := q) O.2.2.1 hZ.1 hZ.2 (g := F0 (cM γ) pc lsA (st.map (tr σ (cκ γ)))) rfl (by rw [O.2.1]; exact d) t a1, b1⟩
/-- switches -/
theorem At.swIn (O : OK γ own cc) {df lo hi : Int} {offs : Array Int} {len : Nat} {x : Int32} {off : Int} {t : Nat} (d : decode cc pc = .ok (.tableswitch df lo hi offs, len)) (h1 : ¬ x.toInt < lo) (h2 : ¬ hi < x.toInt) (ho : offs[(x.toInt - lo).toNat]? = some off) (ht : (pc : Int) + off = (t : Int)) (g : At γ σ k n t ls st h) : At γ σ k n pc ls (vI x :: st) h := fun η H locs lsA a b c => lv_tableIn O.1 O.2.1 d h1 h2 ho ht (g η H locs lsA a b c)
theorem At.swOut (O : OK γ own cc) {df lo hi : Int} {offs : Array Int} {len : Nat} {x : Int32} {t : Nat} (d : decode cc pc = .ok (.tableswitch df lo hi offs, len)) (h1 : x.toInt < lo ∨ hi < x.toInt) (ht : (pc : Int) + df = (t : Int)) (g : At γ σ k n t ls st h) : At γ σ k n pc ls (vI x :: st) h := fun η H locs lsA a b c => lv_tableOut O.1 O.2.1 d h1 ht (g η H locs lsA a b c)
/-- numbers with a point -/
theorem At.i2d (O : OK γ own cc) {x : Int32} (d : decode cc pc = .ok (.i2d, 1)) (g : At γ σ k n (pc + 1) ls (vD (FP.i2d x) :: st) h) : At γ σ k n pc ls (vI x :: st) h := fun η H locs lsA a b c => lv_i2d O.1 O.2.1 d (g η H locs lsA a b c)
theorem At.i2f (O : OK γ own cc) {x : Int32} (d : decode cc pc = .ok (.i2f, 1)) (g : At γ σ k n (pc + 1) ls (vF (FP.i2f x) :: st) h) : At γ σ k n pc ls (vI x :: st) h := fun η H locs lsA a b c => lv_i2f O.1 O.2.1 d (g η H locs lsA a b c)
theorem At.ddiv (O : OK γ own cc) {x y : UInt64} (hne : vf_n64 (FP.ddiv x y)) (d : decode cc pc = .ok (.ddiv, 1)) (g : At γ σ k n (pc + 1) ls (vD (FP.ddiv x y) :: st) h) : At γ σ k n pc ls (vD y :: vD x :: st) h := fun η H locs lsA a b c => lv_ddiv O.1 O.2.1 d hne (g η H locs lsA a b c)
theorem At.fdiv (O : OK γ own cc) {x y : UInt32} (hne : vf_n32 (FP.fdiv x y)) (d : decode cc pc = .ok (.fdiv, 1)) (g : At γ σ k n (pc + 1) ls (vF (FP.fdiv x y) :: st) h) : At γ σ k n pc ls (vF y :: vF x :: st) h := fun η H locs lsA a b c => lv_fdiv O.1 O.2.1 d hne (g η H locs lsA a b c)
theorem At.dret (O : OK γ own cc) {ret : Option FieldType} (F : Fin γ σ0 N0 mc ms ret Po) {x : UInt64} (d : decode cc pc = .ok (.dreturn, 1)) (hr : ret = some .double) (hk : k ≤ mc) (hs : n ≤ ms) (hσ : σ = σ0 ∨ (N0 < h.length ∧ ∀ r, r < N0 → ∀ o, σ r o = σ0 r o)) (hp : Po (.inl (some (vD x))) h) : At γ σ k n pc ls [vD x] h := fun η H locs lsA a b c => by
  obtain ⟨f1, f2, η0, h0, sz, f3, f4, f5⟩ := F
  unfold cW
  rw [f5]
  refine W.widen hk hs (vx_ret ?_)
  exact W.dret (v := x) O.1 O.2.1 (f1.trans hr) (Fin.post O (v := some (vD x)) f4 f3 hp hσ a b) (fun q hq => by rw [← f4]; exact b.2.2 q hq) d O.2.2.2.2.2.2.2.2
theorem At.fret (O : OK γ own cc) {ret : Option FieldType} (F : Fin γ σ0 N0 mc ms ret Po) {x : UInt32} (d : decode cc pc = .ok (.freturn, 1)) (hr : ret = some .float) (hk : k ≤ mc) (hs : n ≤ ms) (hσ : σ = σ0 ∨ (N0 < h.length ∧ ∀ r, r < N0 → ∀ o, σ r o = σ0 r o)) (hp : Po (.inl (some (vF x))) h) : At γ σ k n pc ls [vF x] h := fun η H locs lsA a b c => by
  obtain ⟨f1, f2, η0, h0, sz, f3, f4, f5⟩ := F
  unfold cW
  rw [f5]
  refine W.widen hk hs (vx_ret ?_)
  exact W.fret (v := x) O.1 O.2.1 (f1.trans hr) (Fin.post O (v := some (vF x)) f4 f3 hp hσ a b) (fun q hq => by rw [← f4]; exact b.2.2 q hq) d O.2.2.2.2.2.2.2.2
end RU
