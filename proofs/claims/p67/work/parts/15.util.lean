/-! ===== decoding at a place, small ends, ghost stores ===== -/
theorem dcV {ini : Bool} {o : Nat} {cc : ByteArray} {l : List IE} (h : okL ini o cc l = true) {pc ix : Nat} (hd : dec_of l pc = some (.invokevirtual ix)) : decode cc pc = .ok (.invokevirtual ix, 3) := by
  obtain ⟨e, rfl, e2, h1, -⟩ := okL_dec h hd
  obtain ⟨len, h3, h4⟩ := okD_spec h1
  rw [e2] at h3 h4
  rw [h3, beq_iff_eq.mp h4]
theorem dcS {ini : Bool} {o : Nat} {cc : ByteArray} {l : List IE} (h : okL ini o cc l = true) {pc ix : Nat} (hd : dec_of l pc = some (.invokestatic ix)) : decode cc pc = .ok (.invokestatic ix, 3) := by
  obtain ⟨e, rfl, e2, h1, -⟩ := okL_dec h hd
  obtain ⟨len, h3, h4⟩ := okD_spec h1
  rw [e2] at h3 h4
  rw [h3, beq_iff_eq.mp h4]
theorem dcI {ini : Bool} {o : Nat} {cc : ByteArray} {l : List IE} (h : okL ini o cc l = true) {pc ix : Nat} (hd : dec_of l pc = some (.invokespecial ix)) : decode cc pc = .ok (.invokespecial ix, 3) := by
  obtain ⟨e, rfl, e2, h1, -⟩ := okL_dec h hd
  obtain ⟨len, h3, h4⟩ := okD_spec h1
  rw [e2] at h3 h4
  rw [h3, beq_iff_eq.mp h4]
theorem dcG {ini : Bool} {o : Nat} {cc : ByteArray} {l : List IE} (h : okL ini o cc l = true) {pc ix : Nat} (hd : dec_of l pc = some (.getstatic ix)) : decode cc pc = .ok (.getstatic ix, 3) := by
  obtain ⟨e, rfl, e2, h1, -⟩ := okL_dec h hd
  obtain ⟨len, h3, h4⟩ := okD_spec h1
  rw [e2] at h3 h4
  rw [h3, beq_iff_eq.mp h4]
theorem dcN {ini : Bool} {o : Nat} {cc : ByteArray} {l : List IE} (h : okL ini o cc l = true) {pc ix : Nat} (hd : dec_of l pc = some (.new ix)) : decode cc pc = .ok (.new ix, 3) := by
  obtain ⟨e, rfl, e2, h1, -⟩ := okL_dec h hd
  obtain ⟨len, h3, h4⟩ := okD_spec h1
  rw [e2] at h3 h4
  rw [h3, beq_iff_eq.mp h4]
theorem dcL {ini : Bool} {o : Nat} {cc : ByteArray} {l : List IE} (h : okL ini o cc l = true) {pc ix : Nat} (hd : dec_of l pc = some (.ldc ix)) : decode cc pc = .ok (.ldc ix, 2) := by
  obtain ⟨e, rfl, e2, h1, -⟩ := okL_dec h hd
  obtain ⟨len, h3, h4⟩ := okD_spec h1
  rw [e2] at h3 h4
  rw [h3, beq_iff_eq.mp h4]
theorem dcW {ini : Bool} {o : Nat} {cc : ByteArray} {l : List IE} (h : okL ini o cc l = true) {pc ix : Nat} (hd : dec_of l pc = some (.ldc_w ix)) : decode cc pc = .ok (.ldc_w ix, 3) := by
  obtain ⟨e, rfl, e2, h1, -⟩ := okL_dec h hd
  obtain ⟨len, h3, h4⟩ := okD_spec h1
  rw [e2] at h3 h4
  rw [h3, beq_iff_eq.mp h4]
theorem dcA {ini : Bool} {o : Nat} {cc : ByteArray} {l : List IE} (h : okL ini o cc l = true) {pc : Nat} {off : Int} (hd : dec_of l pc = some (.if_acmp .ne off)) : decode cc pc = .ok (.if_acmp .ne off, 3) := by
  obtain ⟨e, rfl, e2, h1, -⟩ := okL_dec h hd
  obtain ⟨len, h3, h4⟩ := okD_spec h1
  rw [e2] at h3 h4
  rw [h3, beq_iff_eq.mp h4]
theorem dc1 {ini : Bool} {o : Nat} {cc : ByteArray} {l : List IE} (h : okL ini o cc l = true) {pc : Nat} {i : Instr} (hd : dec_of l pc = some i) (hi : i = .dup ∨ i = .athrow) : decode cc pc = .ok (i, 1) := by
  obtain ⟨e, rfl, e2, h1, -⟩ := okL_dec h hd
  obtain ⟨len, h3, h4⟩ := okD_spec h1
  rw [e2] at h3 h4
  rcases hi with rfl | rfl <;> rw [h3, beq_iff_eq.mp h4] <;> rfl
def PoI (x : Int32) (h0 : AHp) : Out → AHp → Prop := fun o h => o = .inl (some (vI x)) ∧ h = h0
def PoV (h0 : AHp) : Out → AHp → Prop := fun o h => o = .inl none ∧ h = h0
theorem rI {mc ms : Nat} {x y : Int32} {h h0 : AHp} (e : x = y) (eh : h = h0 := by rfl) : RF 0 0 mc ms (PoI y h0) (some (vI x)) h := ⟨⟨by rw [e], eh⟩, Nat.zero_le _, Nat.zero_le _⟩
theorem rV {mc ms : Nat} {h h0 : AHp} (eh : h = h0 := by rfl) : RF 0 0 mc ms (PoV h0) none h := ⟨⟨rfl, eh⟩, Nat.zero_le _, Nat.zero_le _⟩
def b2 : Bool → Int32
  | true => 1
  | false => 0
theorem rT {mc ms : Nat} {b : Bool} {h h0 : AHp} (e : b = true) (eh : h = h0 := by rfl) : ((1 : Int32) = 0 ∨ (1 : Int32) = 1) ∧ RF 0 0 mc ms (PoI (b2 b) h0) (some (vI 1)) h := ⟨Or.inr rfl, rI (by rw [e]; rfl) eh⟩
theorem rFa {mc ms : Nat} {b : Bool} {h h0 : AHp} (e : b = false) (eh : h = h0 := by rfl) : ((0 : Int32) = 0 ∨ (0 : Int32) = 1) ∧ RF 0 0 mc ms (PoI (b2 b) h0) (some (vI 0)) h := ⟨Or.inl rfl, rI (by rw [e]; rfl) eh⟩
def sumI (f : Nat → Int32) : Nat → Int32
  | 0 => 0
  | n + 1 => sumI f n + f n
def ctB (p : Nat → Bool) : Nat → Nat
  | 0 => 0
  | n + 1 => ctB p n + (if p n = true then 1 else 0)
theorem ctB_le (p : Nat → Bool) : ∀ n, ctB p n ≤ n
  | 0 => Nat.le_refl _
  | n + 1 => by
    have := ctB_le p n
    unfold ctB
    split <;> omega
theorem le8 {a b : Nat} (h : a < b) (hb : b ≤ 8) : vp_in (nI a) 8 := vp_in_nI (by omega) (by decide)
theorem le16 {a b : Nat} (h : a < b) (hb : b ≤ 16) : vp_in (nI a) 16 := vp_in_nI (by omega) (by decide)
theorem le6 {a b : Nat} (h : a < b) (hb : b ≤ 6) : vp_in (nI a) 6 := vp_in_nI (by omega) (by decide)
theorem arrV_congr {cA : ClassId} {N : Nat} {f g : Nat → Value} (h : ∀ j, j < N → f j = g j) : arrV cA N f = arrV cA N g := by
  unfold arrV
  congr 1
  congr 1
  funext j
  exact h j.val j.isLt
/-- an int array is what stands within its length -/
theorem At.gho {γ : CX} {σ : Nat → Nat → Nat} {k n pc : Nat} {ls : List (Nat × AV)} {st : List AV} {h : AHp} (r o : Nat) {N : Nat} {ty : FieldType} {f : Nat → Int32} (f2 : Nat → Int32) (hg : hget h r o = some (.inl (ty, N, .inl f))) (he : ∀ j, j < N → f j = f2 j) (g : At γ σ k n pc ls st (hset h r o (.inl (ty, N, .inl f2)))) : At γ σ k n pc ls st h := fun η H locs lsA a b c => by
  refine g η H locs lsA (a.set hg rfl rfl ?_ fun _ _ => rfl) b c
  obtain ⟨cA, e1, e2, e3⟩ := a.1 r o _ hg
  exact ⟨cA, by rw [e1]; exact congrArg some (arrV_congr fun j hj => by show Value.int (f j) = Value.int (f2 j); rw [he j hj]), e2, e3⟩
theorem kmin : KM Lib.Math.min.name Lib.Math.min.code 2 := ⟨st_J9_min_7cf53, in_J9, cd_J9_min_7cf53⟩
theorem kmax : KM Lib.Math.max.name Lib.Math.max.code 2 := ⟨st_J9_max_7cf53, in_J9, cd_J9_max_7cf53⟩
theorem kabs : KM Lib.Math.abs.name Lib.Math.abs.code 1 := ⟨st_J9_abs_0f7a4, in_J9, cd_J9_abs_0f7a4⟩
theorem Bd.fit {γ : CX} {σ : Nat → Nat → Nat} {ini : Bool} {M : MR} {d mc ms N0 k n d2 mc2 ms2 : Nat} {Po : Out → AHp → Prop} (B : Bd γ σ ini M d mc ms N0 Po) (h1 : d2 < d) (h2 : k + mc2 ≤ mc) (h3 : n + ms2 ≤ ms) : Fit γ k n d2 mc2 ms2 := Fit.of B.2.2.2.1 h1 h2 h3
