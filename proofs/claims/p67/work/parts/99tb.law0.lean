/-! ===== the law's body: its frame; the builder it makes texts with ===== -/
def LX (γ : CX) : Prop := OK γ RL code ∧ (cC γ).maxLocals = 22 ∧ cR γ = room_1
section LXR
variable {γ : CX} {σ : Nat → Nat → Nat} {k n pc : Nat} {ls : List (Nat × AV)} {st rest : List AV} {h : AHp}
theorem LX.run (X : LX γ) {cs : List IE} (hc : okL false 34 code cs = true) (ct : List (Nat × List Nat)) (f : Nat) (hw : wp γ σ k n (fun _ _ => False) (some .boolean) 22 ct cs f (seek cs pc) ls st h) : At γ σ k n pc ls st h := by
  obtain ⟨q1, q2⟩ := seek_ok (t := pc) hc
  have hRK : RK γ σ k n code (some .boolean) (fun _ _ => False) := ⟨fun _ _ _ _ _ _ _ _ hp => hp.elim, fun _ _ _ _ _ _ hp => hp.elim, fun _ _ _ _ _ _ _ _ _ hp => hp.elim, fun _ _ _ _ _ hp => hp.elim⟩
  cases hs : seek cs pc with
  | nil =>
    rw [hs] at hw
    cases f <;> exact False.elim hw
  | cons e l =>
    rw [hs] at hw q1
    have := wp_ok (o := 34) X.1 (fun h => by cases h) hRK X.2.1 hc f e l ls st h q1 hw
    rw [q2 e l hs] at this
    exact this
theorem LX.fit (X : LX γ) {d2 mc2 ms2 : Nat} (hd : d2 ≤ 50 := by decide) (hk : k + mc2 ≤ 600390 := by omega) (hn : n + ms2 ≤ 7289120 := by omega) : Fit γ k n d2 mc2 ms2 := by
  unfold Fit
  rw [X.2.2]
  refine ⟨?_, ?_, hk, hn⟩
  · show d2 + 1 ≤ 2048
    omega
  · show 48 * d2 + 48 ≤ 94400
    omega
/-! a heap's end -/
theorem hnth_lst (h : AHp) (g : List ACell) (e : AHp) : hnth (h ++ g :: e) h.length = some g := by
  rw [hnth_eq, List.getElem?_append_right (Nat.le_refl _), Nat.sub_self]; rfl
theorem hput_lst (h : AHp) (g g2 : List ACell) (e : AHp) : hput (h ++ g :: e) h.length g2 = h ++ g2 :: e := by
  rw [hput_eq, List.set_append_right _ _ (Nat.le_refl _), Nat.sub_self]; rfl
theorem hput_self {h : AHp} {i : Nat} {g : List ACell} (hg : hnth h i = some g) : hput h i g = h := by
  rw [hput_eq]
  rw [hnth_eq] at hg
  obtain ⟨hi, e⟩ := List.getElem?_eq_some_iff.mp hg
  rw [← e]
  exact List.set_getElem_self hi
theorem bdV_app {N : Nat} {e : AHp} {h : AHp} (hN : N = h.length) {v : AV} (hv : bdV N v = true) : bdV (h ++ e).length v = true := bdV_mono (by rw [hN, List.length_append]; omega) hv
/-- capacity left to grow: what a builder may still take -/
abbrev AB (γ : CX) (σ : Nat → Nat → Nat) (KK NN m pc : Nat) (ls : List (Nat × AV)) (st : List AV) (h : AHp) : Prop := ∀ k n, k + gk m ≤ KK → n + gsl m ≤ NN → At γ σ k n pc ls st h
abbrev sbL (L : SBB) : List ACell := [aB L.1 L.2.1 L.2.2]
/-- a new builder -/
theorem LX.sbNew (X : LX γ) {cs : List IE} (hc : okL false 34 code cs = true) (d1 : dec_of cs pc = some (.new 197)) (d2 : dec_of cs (pc + 3) = some .dup) (d3 : dec_of cs (pc + 4) = some (.invokespecial 199)) (hb : bdH h.length h = true) (hbl : ls.all (fun q => bdV h.length q.2) = true) (hbs : st.all (bdV h.length) = true) (hk : k + 9 ≤ 600390) (hn : n + 2200 ≤ 7289120)
    (g : ∀ σ2, AB γ σ2 (k + 7) (n + 1820) 16 (pc + 7) ls (vR h.length 0 :: st) (h ++ [[aB 0 16 z0]])) (hrw : wsum (vR h.length 0 :: st) ≤ 8) : At γ σ k n pc ls st h := by
  refine At.mkI X.1 (fun _ => [[aB 0 16 z0]]) (ci := 1) (C := RJ4) (T := TJ4) (N := 4) (m := 0) s_sNew kJ4_init_da8c8 ln_L_199 rfl (mT 1426 (by decide +kernel) rfl) (mT 227 (by decide +kernel) rfl) in_J4 (fun σ j hj => by
    have : j = 0 ∨ j = 1 ∨ j = 2 ∨ j = 3 := by omega
    rcases this with rfl | rfl | rfl | rfl <;> rfl) rfl (fun _ => rfl) (fun _ => rfl) rfl (by rw [X.2.2]; show k + 1 ≤ 600390; omega) (by rw [X.2.2]; show n + 4 ≤ 7289120; omega) (X.fit (by decide) (by omega) (by omega)) (dcN hc d1) (dc1 hc d2 (Or.inl rfl)) (dcI hc d3) hb hbl hbs hrw fun σ2 _ => ?_
  exact g σ2 (k + 1 + 1) (n + 4 + 16) (by show k + 1 + 1 + 5 ≤ _; omega) (by show n + 4 + 16 + 1800 ≤ _; omega)
theorem Fits_lst {L : SBB} : Fits [h.length] [h.length] [sbL L] (h ++ [sbL L]) := ⟨hnth_lst h _ [], trivial⟩
theorem plug_lst {L L' : SBB} : plug [h.length] [h.length] [sbL L'] (h ++ [sbL L]) = h ++ [sbL L'] := hput_lst h _ _ []
variable {L : SBB} {w : List Nat} {KK NN : Nat}
/-- append(a constant) -/
theorem LX.sbK (X : LX γ) {cs : List IE} (hc : okL false 34 code cs = true) (j : Nat) (dd : dec_of cs pc = some (.invokevirtual 200)) (hT : TX L w) (hw : w.length + (sxB j).length ≤ 300) (h16 : 16 ≤ L.2.1) (hk : k + gk L.2.1 ≤ KK) (hn : n + gsl L.2.1 ≤ NN) (hK : KK ≤ 600390) (hN : NN ≤ 7289120)
    (g : ∀ L', TX L' (w ++ sxB j) → 16 ≤ L'.2.1 → AB γ σ KK NN L'.2.1 (pc + 3) ls (vR h.length 0 :: rest) (h ++ [sbL L'])) (hj : j < 19 := by decide) (hrw : wsum rest ≤ 8 := by exact Nat.le_of_ble_eq_true rfl) : At γ σ k n pc ls (vK (15 + j) :: vR h.length 0 :: rest) (h ++ [sbL L]) := by
  obtain ⟨mc2, ms2, r1, r2, r3, r4⟩ := room_of (q := L.1 + (sxB j).length) h16 (by rw [hT.1]; exact hw)
  refine At.qV [h.length] [vK (15 + j)] rest X.1 (c := aB L.1 L.2.1 L.2.2) (s_sS j L.1 L.2.1 mc2 ms2 L.2.2 hj r1) kJ4_append_15ec4 ln_L_200 Fits_lst (X.fit (by decide) (by omega) (by omega)) (dcV hc dd) rfl ?_ (hrw := hrw)
  show At γ σ (k + mc2) (n + ms2) (pc + 3) ls (vR h.length 0 :: rest) (plug [h.length] [h.length] [sbL (pX L j)] (h ++ [sbL L]))
  rw [plug_lst]
  exact g (pX L j) (hT.pX j) r4 _ _ (by show k + mc2 + gk (sb_cap (L.1 + (sxB j).length) L.2.1) ≤ KK; omega) (by show n + ms2 + gsl (sb_cap (L.1 + (sxB j).length) L.2.1) ≤ NN; omega)
/-- append(int) -/
theorem LX.sbI (X : LX γ) {cs : List IE} (hc : okL false 34 code cs = true) (x : Int32) (hx : NB x) (dd : dec_of cs pc = some (.invokevirtual 206)) (hT : TX L w) (hw : w.length + 7 ≤ 300) (h16 : 16 ≤ L.2.1) (hk : k + gk L.2.1 ≤ KK) (hn : n + gsl L.2.1 ≤ NN) (hK : KK ≤ 600390) (hN : NN ≤ 7289120)
    (g : ∀ L', TX L' (w ++ dg x) → 16 ≤ L'.2.1 → AB γ σ KK NN L'.2.1 (pc + 3) ls (vR h.length 0 :: rest) (h ++ [sbL L'])) (hrw : wsum rest ≤ 8 := by exact Nat.le_of_ble_eq_true rfl) : At γ σ k n pc ls (vI x :: vR h.length 0 :: rest) (h ++ [sbL L]) := by
  have h7 := itL7 (decide (x < 0)) hx
  obtain ⟨mc2, ms2, r1, r2, r3, r4⟩ := room_of (q := L.1 + itL (decide (x < 0)) x.toInt.natAbs) h16 (by rw [hT.1]; omega)
  have S := s_sI (decide (x < 0)) x.toInt.natAbs L.1 L.2.1 mc2 ms2 L.2.2 (it_pos x) hx r1
  rw [it_of] at S
  refine At.qV [h.length] [vI x] rest X.1 (c := aB L.1 L.2.1 L.2.2) S kJ4_append_bf812 ln_L_206 Fits_lst (X.fit (by decide) (by omega) (by omega)) (dcV hc dd) rfl ?_ (hrw := hrw)
  show At γ σ (k + mc2) (n + ms2) (pc + 3) ls (vR h.length 0 :: rest) (plug [h.length] [h.length] [sbL (pN L x)] (h ++ [sbL L]))
  rw [plug_lst]
  exact g (pN L x) (hT.pN x) r4 _ _ (by show k + mc2 + gk (sb_cap (L.1 + itL (decide (x < 0)) x.toInt.natAbs) L.2.1) ≤ KK; omega) (by show n + ms2 + gsl (sb_cap (L.1 + itL (decide (x < 0)) x.toInt.natAbs) L.2.1) ≤ NN; omega)
/-- append(a text that was made) -/
theorem LX.sbT (X : LX γ) {cs : List IE} (hc : okL false 34 code cs = true) {r u : Nat} {q : Nat → Nat} {f : Nat → Int32} {v : List Nat} (hr : hnth h r = some [sO (r + 1)]) (hr2 : hnth h (r + 1) = some [sY u f]) (hQ : sb_Lat q u f) (hf : sb_Fit f) (hu : u = v.length) (hv : ∀ i, i < v.length → q i = v.getD i 0) (dd : dec_of cs pc = some (.invokevirtual 200)) (hT : TX L w) (hw : w.length + v.length ≤ 300) (h16 : 16 ≤ L.2.1) (hk : k + gk L.2.1 ≤ KK) (hn : n + gsl L.2.1 ≤ NN) (hK : KK ≤ 600390) (hN : NN ≤ 7289120)
    (g : ∀ L', TX L' (w ++ v) → 16 ≤ L'.2.1 → AB γ σ KK NN L'.2.1 (pc + 3) ls (vR h.length 0 :: rest) (h ++ [sbL L'])) (hrw : wsum rest ≤ 8 := by exact Nat.le_of_ble_eq_true rfl) : At γ σ k n pc ls (vR r 0 :: vR h.length 0 :: rest) (h ++ [sbL L]) := by
  subst hu
  obtain ⟨mc2, ms2, r1, r2, r3, r4⟩ := room_of (q := L.1 + v.length) h16 (by rw [hT.1]; exact hw)
  have l1 : r + 1 < h.length := by
    rw [hnth_eq] at hr2
    exact (List.getElem?_eq_some_iff.mp hr2).1
  have g1 : hnth (h ++ [sbL L]) r = some [sO (r + 1)] := by
    rw [hnth_eq, List.getElem?_append_left (by omega), ← hnth_eq]; exact hr
  have g2 : hnth (h ++ [sbL L]) (r + 1) = some [sY v.length f] := by
    rw [hnth_eq, List.getElem?_append_left (by omega), ← hnth_eq]; exact hr2
  have g1' : hnth (h ++ [sbL (L.1 + v.length, sb_cap (L.1 + v.length) L.2.1, sb_cat L.2.2 L.1 q)]) r = some [sO (r + 1)] := by
    rw [hnth_eq, List.getElem?_append_left (by omega), ← hnth_eq]; exact hr
  have g2' : hnth (h ++ [sbL (L.1 + v.length, sb_cap (L.1 + v.length) L.2.1, sb_cat L.2.2 L.1 q)]) (r + 1) = some [sY v.length f] := by
    rw [hnth_eq, List.getElem?_append_left (by omega), ← hnth_eq]; exact hr2
  have hnd : va_nd [h.length, r, r + 1] = true := by
    refine va_nd_of ?_
    simp only [List.nodup_cons, List.mem_cons, List.not_mem_nil, or_false, not_or, List.nodup_nil, not_false_eq_true, and_true]
    omega
  refine At.qV [h.length, r, r + 1] [vR 1 0] rest X.1 (c := aB L.1 L.2.1 L.2.2) (s_hsS L.1 L.2.1 v.length mc2 ms2 L.2.2 q f hQ hf (by omega) r1) kJ4_append_15ec4 ln_L_200 ⟨hnth_lst h _ [], g1, g2, trivial⟩ (X.fit (by decide) (by omega) (by omega)) (dcV hc dd) rfl ?_ rfl hnd (hrw := hrw)
  have e : plug [h.length, r, r + 1] [h.length, r, r + 1] (sbS (L.1 + v.length) (sb_cap (L.1 + v.length) L.2.1) (sb_cat L.2.2 L.1 q) v.length f) (h ++ [sbL L]) = h ++ [sbL (L.1 + v.length, sb_cap (L.1 + v.length) L.2.1, sb_cat L.2.2 L.1 q)] := by
    show hput (hput (hput (h ++ [sbL L]) h.length (sbL (L.1 + v.length, sb_cap (L.1 + v.length) L.2.1, sb_cat L.2.2 L.1 q))) r [sO (r + 1)]) (r + 1) [sY v.length f] = _
    rw [hput_lst, hput_self g1', hput_self g2']
  rw [e]
  exact g _ (hT.cat hv) r4 _ _ (by show k + mc2 + gk (sb_cap (L.1 + v.length) L.2.1) ≤ KK; omega) (by show n + ms2 + gsl (sb_cap (L.1 + v.length) L.2.1) ≤ NN; omega)
/-- a made string holds a text -/
def TS (n : Nat) (f : Nat → Int32) (w : List Nat) : Prop := ∃ t, sb_Lat t n f ∧ sb_Fit f ∧ n = w.length ∧ ∀ i, i < w.length → t i = w.getD i 0
/-- toString -/
theorem LX.sbS (X : LX γ) {cs : List IE} (hc : okL false 34 code cs = true) (dd : dec_of cs pc = some (.invokevirtual 211)) (hT : TX L w) (hw : w.length ≤ 300) (hb : bdH h.length h = true) (hbl : ls.all (fun q => bdV h.length q.2) = true) (hbr : rest.all (bdV h.length) = true) (hk : k + 2 ≤ 600390) (hn : n + 304 ≤ 7289120)
    (g : ∀ σ2 f, TS w.length f w → At γ σ2 (k + 2) (n + 304) (pc + 3) ls (vR (h.length + 1) 0 :: rest) (h ++ [sbL L, [sO (h.length + 2)], [sY w.length f]])) (hrw : wsum rest ≤ 8 := by exact Nat.le_of_ble_eq_true rfl) : At γ σ k n pc ls (vR h.length 0 :: rest) (h ++ [sbL L]) := by
  have hl : (h ++ [sbL L]).length = h.length + 1 := by rw [List.length_append]; rfl
  have hle : h.length ≤ (h ++ [sbL L]).length := by omega
  refine At.callVG (P := [h.length]) (hC := [sbL L]) (r := 0) (o := 0) (As := []) (c := aB L.1 L.2.1 L.2.2) (rest := rest) X.1 2 (s_toS L.1 L.2.1 L.2.2) kJ4_toString_0e30d ln_L_211 rfl Fits_lst rfl rfl (bdH_app (bdH_mono hle hb) rfl) rfl ?_ ?_ rfl (X.fit (by decide) (by omega) (by rw [hT.1]; omega)) hrw (dcV hc dd) rfl (fun v h2 hp => ?_) (fun E h2 hp => by obtain ⟨_, _, _, z, _⟩ := hp; cases z)
  · exact List.all_eq_true.mpr fun q hq => bdV_mono hle (List.all_eq_true.mp hbl q hq)
  · exact List.all_eq_true.mpr fun q hq => bdV_mono hle (List.all_eq_true.mp hbr q hq)
  · obtain ⟨f, f1, f2, e1, rfl⟩ := hp
    cases e1
    refine ⟨rfl, rfl, rfl, fun σ2 _ => ?_⟩
    rw [hl]
    have e0 : [h.length] ++ newR (h.length + 1) 2 = [h.length, h.length + 1, h.length + 2] := rfl
    rw [e0]
    have e : plug [h.length, h.length + 1, h.length + 2] [h.length, h.length + 1, h.length + 2] [sbL L, [sO 2], [sY L.1 f]] (h ++ [sbL L] ++ List.replicate 2 []) = h ++ [sbL L, [sO (h.length + 2)], [sY L.1 f]] := by
      show hput (hput (hput (h ++ [sbL L] ++ [[], []]) h.length (sbL L)) (h.length + 1) [sO (h.length + 2)]) (h.length + 2) [sY L.1 f] = _
      rw [hput_eq, hput_eq, hput_eq, List.append_assoc, List.set_append_right _ _ (Nat.le_refl _), List.set_append_right _ _ (by omega), List.set_append_right _ _ (by omega), Nat.sub_self, show h.length + 1 - h.length = 1 by omega, show h.length + 2 - h.length = 2 by omega]
      rfl
    have hTS : TS w.length f w := ⟨L.2.2, by rw [← hT.1]; exact f1, f2, rfl, hT.2⟩
    have z := g σ2 f hTS
    rw [← hT.1] at z
    have z := At.wid (k2 := k + 2) (n2 := n + 304) (k := k + 2) (n := n + (4 + L.1)) (Nat.le_refl _) (by rw [hT.1]; omega) z
    rw [show [sbL L, [sO 2], [sY L.1 f]] = ([sbL L, [sO 2], [sY L.1 f]] : AHp) from rfl, e]
    exact z
end LXR
