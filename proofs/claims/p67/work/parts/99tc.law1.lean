/-! ===== the law's body: what it drops; texts that are constant or made; its line ===== -/
theorem idR (N : Nat) : idU (List.range' 0 N) N := by
  intro r hr
  unfold rn
  rw [hnth_eq, show (List.range' 0 N)[r]? = some r from by rw [List.getElem?_range' hr]; simp]; rfl
theorem rn_app {A B : List Nat} {r : Nat} (h : r < A.length) : rn (A ++ B) r = rn A r := by
  unfold rn
  rw [hnth_eq, hnth_eq, List.getElem?_append_left h]
theorem rn_app2 {A B : List Nat} {r i : Nat} (h : r = A.length + i) : rn (A ++ B) r = rn B i := by
  unfold rn
  rw [hnth_eq, hnth_eq, List.getElem?_append_right (by omega), show r - A.length = i by omega]
theorem idR2 (N : Nat) (B : List Nat) : idU (List.range' 0 N ++ B) N := fun r hr => (rn_app (by rw [List.length_range']; exact hr)).trans (idR N r hr)
theorem Fits_app {P : List Nat} : ∀ {A B : List Nat} {x y h : AHp}, Fits P A x h → Fits P B y h → Fits P (A ++ B) (x ++ y) h
  | [], _, [], _, _, _, h2 => h2
  | _ :: _, _, _ :: _, _, _, h1, h2 => ⟨h1.1, Fits_app h1.2 h2⟩
  | [], _, _ :: _, _, _, h1, _ => h1.elim
  | _ :: _, _, [], _, _, h1, _ => h1.elim
theorem plug_same {P : List Nat} : ∀ {Q : List Nat} {x h : AHp}, Fits P Q x h → plug P Q x h = h
  | [], [], _, _ => rfl
  | q :: Q, g :: x, h, F => by
    show plug P Q x (hput h q (g.map (renC P))) = h
    rw [hput_self F.1]
    exact plug_same F.2
  | [], _ :: _, _, F => F.elim
  | _ :: _, [], _, F => F.elim
theorem lsR_id {P : List Nat} {N : Nat} (hP : idU P N) {ls : List (Nat × AV)} (h : ls.all (fun q => bdV N q.2) = true) : ls.map (fun q => (q.1, ren P q.2)) = ls := by
  have : ∀ q ∈ ls, (fun q : Nat × AV => (q.1, ren P q.2)) q = _root_.id q := fun q hq => Prod.ext rfl (ren_idP hP (List.all_eq_true.mp h q hq))
  rw [List.map_congr_left this, List.map_id]
theorem stR_id {P : List Nat} {N : Nat} (hP : idU P N) {st : List AV} (h : st.all (bdV N) = true) : st.map (ren P) = st := by
  have : ∀ q ∈ st, ren P q = _root_.id q := fun q hq => ren_idP hP (List.all_eq_true.mp h q hq)
  rw [List.map_congr_left this, List.map_id]
section CUT
variable {γ : CX} {own : String} {cc : ByteArray} {σ : Nat → Nat → Nat} {k n pc : Nat} {ls : List (Nat × AV)} {st rest : List AV} {h : AHp}
theorem At.cut (O : OK γ own cc) {H T : AHp} (hb : bdH H.length H = true) (hbl : ls.all (fun q => bdV H.length q.2) = true) (hbs : st.all (bdV H.length) = true) (g : ∀ σ', At γ σ' k n pc ls st H) : At γ σ k n pc ls st (H ++ T) := by
  have z := At.part (σ := σ) (ls := ls) (st := st) O (va_nd_of List.nodup_range') (Fits_pre (idR H.length) hb rfl T) (g _)
  rw [lsR_id (idR H.length) hbl, stR_id (idR H.length) hbs] at z
  exact z
theorem At.cutS (O : OK γ own cc) {H M : AHp} {i u : Nat} {f : Nat → Int32} (hb : bdH H.length H = true) (hbl : ls.all (fun q => bdV H.length q.2) = true) (hM : 0 < M.length) (g : ∀ σ', At γ σ' k n pc ((i, vR H.length 0) :: ls) [] (H ++ sR H.length u f)) : At γ σ k n pc ((i, vR (H.length + M.length) 0) :: ls) [] (H ++ (M ++ [[sO (H.length + M.length + 1)], [sY u f]])) := by
  have hP : idU (List.range' 0 H.length ++ [H.length + M.length, H.length + M.length + 1]) H.length := idR2 _ _
  have e0 : rn (List.range' 0 H.length ++ [H.length + M.length, H.length + M.length + 1]) H.length = H.length + M.length := by rw [rn_app2 (i := 0) (by rw [List.length_range']; rfl)]; rfl
  have e1 : rn (List.range' 0 H.length ++ [H.length + M.length, H.length + M.length + 1]) (H.length + 1) = H.length + M.length + 1 := by rw [rn_app2 (i := 1) (by rw [List.length_range'])]; rfl
  have hnd : va_nd (List.range' 0 H.length ++ [H.length + M.length, H.length + M.length + 1]) = true := by
    refine va_nd_of (List.nodup_append.mpr ⟨List.nodup_range', ?_, fun a ha b hb => ?_⟩)
    · simp only [List.nodup_cons, List.mem_cons, List.not_mem_nil, or_false, not_false_eq_true, List.nodup_nil, and_true]
      omega
    · have := List.mem_range'_1.mp ha
      simp only [List.mem_cons, List.not_mem_nil, or_false] at hb
      omega
  have F : Fits (List.range' 0 H.length ++ [H.length + M.length, H.length + M.length + 1]) (List.range' 0 H.length ++ [H.length + M.length, H.length + M.length + 1]) (H ++ sR H.length u f) (H ++ (M ++ [[sO (H.length + M.length + 1)], [sY u f]])) := by
    refine Fits_app (Fits_pre hP hb rfl _) ⟨?_, ?_, trivial⟩
    · rw [hnth_eq, List.getElem?_append_right (by omega), List.getElem?_append_right (by omega), show H.length + M.length - H.length - M.length = 0 by omega]
      show some [sO (H.length + M.length + 1)] = some [aO 0 [vR (rn _ (H.length + 1)) 0, vI 0, vI 0, vI 0]]
      rw [e1]
    · rw [hnth_eq, List.getElem?_append_right (by omega), List.getElem?_append_right (by omega), show H.length + M.length + 1 - H.length - M.length = 1 by omega]
      rfl
  have z := At.part (σ := σ) (ls := (i, vR H.length 0) :: ls) (st := []) O hnd F (g _)
  have e : ((i, vR H.length 0) :: ls).map (fun q => (q.1, ren (List.range' 0 H.length ++ [H.length + M.length, H.length + M.length + 1]) q.2)) = (i, vR (H.length + M.length) 0) :: ls := by
    rw [List.map_cons, lsR_id hP hbl]
    show (i, vR (rn _ H.length) 0) :: ls = _
    rw [e0]
  rw [e] at z
  exact z
end CUT
/-! a text: the constant, or made -/
abbrev TV : Type := Option (Nat × (Nat → Int32))
def tvE (g : Nat) : TV → AHp
  | none => []
  | some q => sR g q.1 q.2
def tvX (g : Nat) : TV → (Nat × Nat) ⊕ Nat
  | none => .inr 15
  | some _ => .inl (g, 0)
abbrev tvV (g : Nat) (o : TV) : AV := .inr (tvX g o)
theorem tvV_bd {N g : Nat} (h : g < N) (o : TV) : bdV N (tvV g o) = true := by
  cases o with
  | none => rfl
  | some q => exact Nat.ble_eq.mpr h
theorem tvE_bd {N g : Nat} (h : g + 1 < N) (o : TV) : bdH N (tvE g o) = true := by
  cases o with
  | none => rfl
  | some q =>
    have : bdV N (vR (g + 1) 0) = true := Nat.ble_eq.mpr h
    show ((bdC N (sO (g + 1)) && true) && _) = true
    have e : bdC N (sO (g + 1)) = true := by
      show (bdV N (vR (g + 1) 0) && _) = true
      rw [this]; rfl
    rw [e]; rfl
def TVk : TV → List Nat → Prop
  | none, w => w = []
  | some q, w => TS q.1 q.2 w
/-- where a text lies -/
def TVat (g : Nat) (o : TV) (h : AHp) : Prop := ∀ q, o = some q → hnth h g = some [sO (g + 1)] ∧ hnth h (g + 1) = some [sY q.1 q.2]
theorem TVat_end {h : AHp} (o : TV) : TVat h.length o (h ++ tvE h.length o) := by
  intro q e
  subst e
  exact ⟨hnth_lst h _ _, by rw [hnth_eq]; show (h ++ sR h.length q.1 q.2)[h.length + 1]? = _; rw [List.getElem?_append_right (by omega), show h.length + 1 - h.length = 1 by omega]; rfl⟩
theorem TVat.app {g : Nat} {o : TV} {h : AHp} (t : TVat g o h) (e : AHp) : TVat g o (h ++ e) := fun q hq => by
  obtain ⟨a, b⟩ := t q hq
  have l1 : g + 1 < h.length := by
    rw [hnth_eq] at b
    exact (List.getElem?_eq_some_iff.mp b).1
  exact ⟨by rw [hnth_eq, List.getElem?_append_left (by omega), ← hnth_eq]; exact a, by rw [hnth_eq, List.getElem?_append_left l1, ← hnth_eq]; exact b⟩
section ASC
variable {γ : CX} {σ : Nat → Nat → Nat} {k n pc : Nat} {ls : List (Nat × AV)} {st : List AV} {a b c : AHp}
theorem At.asc (g : At γ σ k n pc ls st (a ++ (b ++ c))) : At γ σ k n pc ls st (a ++ b ++ c) := by
  rw [List.append_assoc]; exact g
theorem At.csa (g : At γ σ k n pc ls st (a ++ b ++ c)) : At γ σ k n pc ls st (a ++ (b ++ c)) := by
  rw [List.append_assoc] at g; exact g
end ASC
section LXT
variable {γ : CX} {σ : Nat → Nat → Nat} {k n pc : Nat} {ls : List (Nat × AV)} {st rest : List AV} {h : AHp} {L : SBB} {w : List Nat} {KK NN : Nat}
theorem nd2 (r : Nat) : va_nd [r, r + 1] = true := by
  refine va_nd_of ?_
  simp only [List.nodup_cons, List.mem_cons, List.not_mem_nil, or_false, not_false_eq_true, List.nodup_nil, and_true]
  omega
/-- append(a text) -/
theorem LX.sbV (X : LX γ) {cs : List IE} (hc : okL false 34 code cs = true) {g0 : Nat} {o : TV} {v : List Nat} (ho : TVk o v) (ha : TVat g0 o h) (dd : dec_of cs pc = some (.invokevirtual 200)) (hT : TX L w) (hw : w.length + v.length ≤ 300) (h16 : 16 ≤ L.2.1) (hk : k + gk L.2.1 ≤ KK) (hn : n + gsl L.2.1 ≤ NN) (hK : KK ≤ 600390) (hN : NN ≤ 7289120)
    (g : ∀ L', TX L' (w ++ v) → 16 ≤ L'.2.1 → AB γ σ KK NN L'.2.1 (pc + 3) ls (vR h.length 0 :: rest) (h ++ [sbL L'])) (hrw : wsum rest ≤ 8 := by exact Nat.le_of_ble_eq_true rfl) : At γ σ k n pc ls (tvV g0 o :: vR h.length 0 :: rest) (h ++ [sbL L]) := by
  cases o with
  | none =>
    have ho : v = [] := ho
    subst ho
    exact LX.sbK X hc 0 dd hT hw h16 hk hn hK hN g (by decide) hrw
  | some q =>
    obtain ⟨t, t1, t2, t3, t4⟩ := (ho : TS q.1 q.2 v)
    obtain ⟨a1, a2⟩ := ha q rfl
    exact LX.sbT X hc a1 a2 t1 t2 t3 t4 dd hT hw h16 hk hn hK hN g hrw
/-- length() of a text -/
theorem LX.tvLen (X : LX γ) {cs : List IE} (hc : okL false 34 code cs = true) {g0 : Nat} {o : TV} {v : List Nat} (ho : TVk o v) (ha : TVat g0 o h) (dd : dec_of cs pc = some (.invokevirtual 158)) (hk : k ≤ 600390) (hn : n ≤ 7289120) (g : At γ σ k n (pc + 3) ls (vI (nI v.length) :: rest) h) (hrw : wsum rest ≤ 8 := by exact Nat.le_of_ble_eq_true rfl) : At γ σ k n pc ls (tvV g0 o :: rest) h := by
  cases o with
  | none =>
    have ho : v = [] := ho
    subst ho
    exact At.qK [] [] rest X.1 (x := vK (15 + 0)) (fun _ => rfl) (sx_str X.1 (j := 0) (by decide)).1 (s_strN 0 (by decide)) kJ0_length_8abf5 ln_L_158 trivial (X.fit (by decide) (by omega) (by omega)) (dcV hc dd) g (hrw := hrw)
  | some q =>
    obtain ⟨t, t1, t2, t3, t4⟩ := (ho : TS q.1 q.2 v)
    obtain ⟨a1, a2⟩ := ha q rfl
    have F : Fits [g0, g0 + 1] [g0, g0 + 1] (sH q.1 q.2) h := ⟨a1, a2, trivial⟩
    refine At.qV [g0, g0 + 1] [] rest X.1 (c := sO 1) (s_hlen q.1 q.2) kJ0_length_8abf5 ln_L_158 F (X.fit (by decide) (by omega) (by omega)) (dcV hc dd) rcvS ?_ rfl (nd2 g0) (hrw := hrw)
    rw [plug_same F, t3]
    exact g
/-- isLine -/
theorem LX.isl (X : LX γ) {cs : List IE} (hc : okL false 34 code cs = true) {K : KS'} (hK : WK K) {e : AHp} {g0 : Nat} {o : TV} {v : List Nat} (hL : TX (kL K) v) (hl : v.length ≤ 300) (ho : TVk o v) (ha : TVat g0 o (world K ++ e)) (h65 : 65 ≤ g0) (dd : dec_of cs pc = some (.invokestatic 233)) (hk : k ≤ 600390) (hn : n ≤ 7289120) (g : At γ σ k n (pc + 3) ls (vI 1 :: rest) (world K ++ e)) (hrw : wsum rest ≤ 8 := by exact Nat.le_of_ble_eq_true rfl) : At γ σ k n pc ls (tvV g0 o :: vI (nI (kL K).1) :: vR 0 0 :: rest) (world K ++ e) := by
  cases o with
  | none =>
    have ho : v = [] := ho
    subst ho
    have h0 : (kL K).1 = 0 := hL.1
    rw [h0]
    have F : Fits R65 R65 (world K) (world K ++ e) := Fits_pre id65 (world_bd K) (world_len K) e
    refine At.callS (P := R65) (hC := world K) (rest := rest) (As := [vR 0 0, vI (nI 0), vK 15]) X.1 (s_isLn0 K) kL_isLine ln_L_233 nd65 F rfl (X.fit (by decide) (by omega) (by omega)) hrw (dcS hc dd) rfl (fun v2 h2 hp => ?_) (fun E h2 hp => by cases hp.1)
    obtain ⟨e1, rfl⟩ := hp
    cases e1
    refine ⟨rfl, ?_⟩
    rw [plug_same F]
    exact g
  | some q =>
    obtain ⟨t, t1, t2, t3, t4⟩ := (ho : TS q.1 q.2 v)
    obtain ⟨a1, a2⟩ := ha q rfl
    have hn1 : (kL K).1 = q.1 := by rw [hL.1, t3]
    have hP : idU (R65 ++ [g0, g0 + 1]) 65 := idR2 65 _
    have r1 : rn (R65 ++ [g0, g0 + 1]) 65 = g0 := rfl
    have F : Fits (R65 ++ [g0, g0 + 1]) (R65 ++ [g0, g0 + 1]) (world K ++ sR 65 q.1 q.2) (world K ++ e) := Fits_app (Fits_pre hP (world_bd K) (world_len K) e) ⟨a1, a2, trivial⟩
    have hnd : va_nd (R65 ++ [g0, g0 + 1]) = true := by
      refine va_nd_of (List.nodup_append.mpr ⟨List.nodup_range', ?_, fun a ha b hb => ?_⟩)
      · simp only [List.nodup_cons, List.mem_cons, List.not_mem_nil, or_false, not_false_eq_true, List.nodup_nil, and_true]
        omega
      · have := List.mem_range'_1.mp ha
        simp only [List.mem_cons, List.not_mem_nil, or_false] at hb
        omega
    refine At.callS (P := R65 ++ [g0, g0 + 1]) (hC := world K ++ sR 65 q.1 q.2) (rest := rest) (As := [vR 0 0, vI (nI (kL K).1), vR 65 0]) X.1 (by rw [hn1]; exact s_isLn K hK q.1 t q.2 hn1 (by omega) t1 (fun j hj => by rw [t4 j (by omega), hL.2 j (by omega)])) kL_isLine ln_L_233 hnd F rfl (X.fit (by decide) (by omega) (by omega)) hrw (dcS hc dd) rfl (fun v2 h2 hp => ?_) (fun E h2 hp => by cases hp.1)
    obtain ⟨e1, rfl⟩ := hp
    cases e1
    refine ⟨rfl, ?_⟩
    rw [plug_same F]
    exact g
/-- the law's constant texts -/
theorem LX.ldc (X : LX γ) {cs : List IE} (hc : okL false 34 code cs = true) (i : Nat) {ix q : Nat} {tx : String} (hi : lwL[i]? = some (ix, tx, q)) (dd : dec_of cs pc = some (.ldc ix)) (g : At γ σ k n (pc + 2) ls (vK q :: st) h) : At γ σ k n pc ls st h :=
  At.ldcS X.1 ((sx X.1).2.2.1 _ (List.mem_of_getElem? hi)) rfl (dcL hc dd) g
/-- NO, INDEX -/
theorem LX.no (X : LX γ) {cs : List IE} (hc : okL false 34 code cs = true) (dd : dec_of cs pc = some (.ldc 37)) (g : At γ σ k n (pc + 2) ls (vI (-3000000) :: st) h) : At γ σ k n pc ls st h := At.ldcI X.1 lc_N (dcL hc dd) g
theorem LX.ix (X : LX γ) {cs : List IE} (hc : okL false 34 code cs = true) (dd : dec_of cs pc = some (.ldc 30)) (g : At γ σ k n (pc + 2) ls (vI (-2500000) :: st) h) : At γ σ k n pc ls st h := At.ldcI X.1 lc_I (dcL hc dd) g
end LXT
