/-! ===== calls that make cells: the callee's new regions come behind the caller's ===== -/
theorem hnth_rep {α : Type} {m i : Nat} {x y : α} (h : hnth (List.replicate m x) i = some y) : y = x := by
  rw [hnth_eq] at h
  exact List.eq_of_mem_replicate (List.mem_of_getElem? h)
theorem hget_ext {h : AHp} {m r o : Nat} {c : ACell} : hget (h ++ List.replicate m []) r o = some c ↔ hget h r o = some c := by
  constructor
  · intro e
    rcases hget_app e with ⟨-, q⟩ | ⟨-, q⟩
    · exact q
    · obtain ⟨g, h1, h2⟩ := hget_some q
      rw [hnth_rep h1] at h2
      cases h2
  · intro e
    obtain ⟨g, h1, h2⟩ := hget_some e
    exact hget_of (by rw [hnth_app_lt (hnth_lt h1)]; exact h1) h2
theorem pdom_ext {h : AHp} {m : Nat} {p : Pl} : pdom (h ++ List.replicate m []) p ↔ pdom h p := by
  constructor
  · rintro ⟨c, h1, h2⟩
    exact ⟨c, hget_ext.mp h1, h2⟩
  · rintro ⟨c, h1, h2⟩
    exact ⟨c, hget_ext.mpr h1, h2⟩
theorem pad_bd {σ σ2 η η2 : Nat → Nat → Nat} {N : Nat} (hs : ∀ r, r < N → ∀ o, σ2 r o = σ r o) (he : ∀ r, r < N → ∀ o, η2 r o = η r o) {p : Pl} (hp : p.1 < N) : pad σ2 η2 p = pad σ η p := by
  obtain ⟨r, o, b⟩ := p
  cases b with
  | true => exact he r hp o
  | false => exact hs r hp o
theorem pdom_lt {h : AHp} {p : Pl} (hp : pdom h p) : p.1 < h.length := by
  obtain ⟨c, h1, -⟩ := hp
  exact hget_lt h1
/-- other addresses beyond the world's regions -/
theorem Rep.sig {D : va_G} {σ σ2 η η2 : Nat → Nat → Nat} {κ : Nat → Nat} {h : AHp} {U : State} {H : Heap} {A : Nat → Prop} {N : Nat} (R : Rep D σ η κ h U H A) (hN : h.length ≤ N) (hb : bdH N h = true) (hs : ∀ r, r < N → ∀ o, σ2 r o = σ r o) (he : ∀ r, r < N → ∀ o, η2 r o = η r o) : Rep D σ2 η2 κ h U H A := by
  refine ⟨fun r o c e => bdC_at hs he (Nat.lt_of_lt_of_le (hget_lt e) hN) (bdH_get hb e) (R.1 r o c e), fun p q hp hq e => ?_, fun p hp => ?_⟩
  · rw [pad_bd hs he (Nat.lt_of_lt_of_le (pdom_lt hp) hN), pad_bd hs he (Nat.lt_of_lt_of_le (pdom_lt hq) hN)] at e
    exact R.2.1 p q hp hq e
  · rw [pad_bd hs he (Nat.lt_of_lt_of_le (pdom_lt hp) hN)]
    exact R.2.2 p hp
theorem Rep.ext {D : va_G} {σ η : Nat → Nat → Nat} {κ : Nat → Nat} {h : AHp} {U : State} {H : Heap} {A : Nat → Prop} (R : Rep D σ η κ h U H A) (m : Nat) : Rep D σ η κ (h ++ List.replicate m []) U H A :=
  ⟨fun r o c e => R.1 r o c (hget_ext.mp e), fun p q hp hq e => R.2.1 p q (pdom_ext.mp hp) (pdom_ext.mp hq) e, fun p hp => R.2.2 p (pdom_ext.mp hp)⟩
def newR (N m : Nat) : List Nat := (List.range m).map (N + ·)
theorem newR_get {N m i : Nat} : hnth (newR N m) i = if i < m then some (N + i) else none := by
  unfold newR
  rw [hnth_eq, List.getElem?_map]
  by_cases h : i < m
  · rw [if_pos h, List.getElem?_range h]; rfl
  · rw [if_neg h, List.getElem?_eq_none (by simp; omega)]; rfl
theorem rn_app_lt {P Q : List Nat} {r : Nat} (h : r < P.length) : rn (P ++ Q) r = rn P r := by unfold rn; rw [hnth_app_lt h]
theorem ren_app {P Q : List Nat} {v : AV} (h : bdV P.length v = true) : ren (P ++ Q) v = ren P v := by
  rcases v with v | q | j
  · rfl
  · show (Sum.inr (Sum.inl (rn (P ++ Q) q.1, q.2)) : AV) = _
    rw [rn_app_lt (Nat.le_of_ble_eq_true h)]
    rfl
  · rfl
theorem renC_app {P Q : List Nat} {c : ACell} (h : bdC P.length c = true) : renC (P ++ Q) c = renC P c := by
  rcases c with ⟨ty, n, x⟩ | ⟨ci, fs⟩ | z
  · rcases x with f | f | f | f
    · rfl
    · rfl
    · rfl
    · show (Sum.inl (ty, n, Sum.inr (Sum.inr (Sum.inr (f.map (ren (P ++ Q)))))) : ACell) = _
      rw [List.map_congr_left fun v hv => ren_app (List.all_eq_true.mp h v hv)]
      rfl
  · show (Sum.inr (Sum.inl (ci, fs.map (ren (P ++ Q)))) : ACell) = _
    rw [List.map_congr_left fun v hv => ren_app (List.all_eq_true.mp h v hv)]
    rfl
  · rfl
theorem Fits.len (P : List Nat) : ∀ {Q : List Nat} {hC h : AHp}, Fits P Q hC h → hC.length = Q.length := fun f => (Fits.get P f).1
theorem Fits.ext {P Q2 : List Nat} {e : AHp} : ∀ {Q : List Nat} {hC h : AHp}, Fits P Q hC h → (∀ g ∈ hC, ∀ c ∈ g, bdC P.length c = true) → Fits (P ++ Q2) Q hC (h ++ e)
  | [], [], _, _, _ => trivial
  | p :: ps, g :: hC, h, f, hb => by
    refine ⟨?_, Fits.ext f.2 fun g hg => hb g (List.mem_cons_of_mem _ hg)⟩
    rw [hnth_app_lt (hnth_lt f.1), f.1]
    congr 1
    exact List.map_congr_left fun c hc => (renC_app (hb g List.mem_cons_self c hc)).symm
  | [], _ :: _, _, f, _ => False.elim f
  | _ :: _, [], _, f, _ => False.elim f
theorem Fits.app {P : List Nat} : ∀ {Q1 Q2 : List Nat} {h1 h2 h : AHp}, Fits P Q1 h1 h → Fits P Q2 h2 h → Fits P (Q1 ++ Q2) (h1 ++ h2) h
  | [], _, [], _, _, _, f => f
  | p :: ps, _, g :: hs, _, _, f, f2 => ⟨f.1, Fits.app f.2 f2⟩
  | [], _, _ :: _, _, _, f, _ => False.elim f
  | _ :: _, _, [], _, _, f, _ => False.elim f
theorem Fits.new {P : List Nat} {h : AHp} {m : Nat} : ∀ (j i : Nat), j + i = m → Fits P ((List.range' i j).map (h.length + ·)) (List.replicate j []) (h ++ List.replicate m [])
  | 0, i, _ => trivial
  | j + 1, i, hj => by
    refine ⟨?_, Fits.new j (i + 1) (by omega)⟩
    show hnth (h ++ List.replicate m []) (h.length + i) = _
    rw [hnth_app_ge (by omega), hnth_eq, Nat.add_sub_cancel_left, List.getElem?_replicate, if_pos (by omega)]
    rfl
theorem Fits.newg {P : List Nat} {h : AHp} {m : Nat} : Fits P (newR h.length m) (List.replicate m []) (h ++ List.replicate m []) := by
  unfold newR
  rw [List.range_eq_range']
  exact Fits.new m 0 (by omega)
theorem va_nd_of : ∀ {l : List Nat}, l.Nodup → va_nd l = true
  | [], _ => rfl
  | p :: ps, h => by
    have := List.nodup_cons.mp h
    simp only [va_nd, Bool.and_eq_true, decide_eq_true_eq]
    exact ⟨this.1, va_nd_of this.2⟩
theorem nodup_of_nd : ∀ {l : List Nat}, va_nd l = true → l.Nodup
  | [], _ => List.nodup_nil
  | p :: ps, h => by
    simp only [va_nd, Bool.and_eq_true, decide_eq_true_eq] at h
    exact List.nodup_cons.mpr ⟨h.1, nodup_of_nd h.2⟩
theorem newR_nd (N m : Nat) : (newR N m).Nodup := by
  unfold newR
  exact List.pairwise_map.mpr (List.nodup_range.imp fun h e => h (by omega))
theorem nd_app {P : List Nat} {hC h : AHp} {m : Nat} (hn : va_nd P = true) (F : Fits P P hC h) : va_nd (P ++ newR h.length m) = true := by
  refine va_nd_of (List.nodup_append.mpr ⟨nodup_of_nd hn, newR_nd _ _, fun a ha b hb e => ?_⟩)
  subst e
  obtain ⟨i, hi⟩ := List.getElem?_of_mem ha
  obtain ⟨g, -, h9⟩ := (Fits.get P F).2 i a (by rw [hnth_eq]; exact hi)
  have := hnth_lt h9
  unfold newR at hb
  obtain ⟨j, -, hj⟩ := List.mem_map.mp hb
  omega
section AG
variable {γ : CX} {own : String} {cc : ByteArray} {σ : Nat → Nat → Nat} {k n pc : Nat} {ls : List (Nat × AV)} {st rest : List AV} {h hC : AHp} {P : List Nat} {mc2 ms2 d2 ix : Nat} {Po2 : Out → AHp → Prop} {a : Array Value}
theorem At.runG (O : OK γ own cc) (m : Nat) (hn : va_nd P = true) (F : Fits P P hC h) (hb : bdH h.length h = true) (hbC : bdH hC.length hC = true) (hbl : ls.all (fun q => bdV h.length q.2) = true) (hbr : rest.all (bdV h.length) = true)
    (hr : ∀ (η : Nat → Nat → Nat) (H : Heap) (locs : List Loc) (lsA : Array Slot), Rep (cD γ) σ η (cκ γ) h (cS γ) H (cF γ) → va_S (cF γ) (cS γ).heap H locs → lv_has lsA (cC γ).maxLocals (trL σ (cκ γ) ls) →
      cRun γ H locs k n mc2 ms2 (F0 (cM γ) pc lsA (st.map (tr σ (cκ γ)))) (rest.map (tr σ (cκ γ))) (PostR (cD γ) (fun r o => σ (rn P r) o) (fun r o => η (rn P r) o) (cκ γ) hC H.size Po2 a) (PostX (cD γ) (fun r o => σ (rn P r) o) (fun r o => η (rn P r) o) (cκ γ) hC H.size Po2) (AA (fun r o => σ (rn P r) o) (fun r o => η (rn P r) o) hC H.size))
    (kr : ∀ (v : Option AV) (h2 : AHp), Po2 (.inl v) h2 → h2.length = hC.length + m ∧ bdH h2.length h2 = true ∧ v.toList.all (bdV h2.length) = true ∧ ∀ σ2, grown σ σ2 h.length → At γ σ2 (k + mc2) (n + ms2) (pc + 3) ls ((v.toList.map (ren (P ++ newR h.length m))) ++ rest) (plug (P ++ newR h.length m) (P ++ newR h.length m) h2 (h ++ List.replicate m [])))
    (kx : ∀ (E : String) (h2 : AHp), ¬ Po2 (.inr E) h2) : At γ σ k n pc ls st h := by
  intro η H locs lsA hR hS hl T hT X
  obtain ⟨R1, R1A⟩ := hR.part hn F
  have hlP := Fits.len P F
  have hA0 : ∀ q : Nat, H.size ≤ q → cF γ q := fun q hq => O.2.2.2.2.2.2.1 q (Nat.le_trans hS.1 hq)
  have hAA : ∀ q, AA (fun r o => σ (rn P r) o) (fun r o => η (rn P r) o) hC H.size q → cF γ q := fun q hq => by
    rcases R1A q hq with h9 | h9
    · exact h9
    · exact hA0 q h9
  rcases hr η H locs lsA hR hS hl T hT X with ⟨v, st₀, t, T', L, h0, X', hL, e1, e2, ⟨v2, σ2, q1, h2, η2, q2, q3, q4, q5, q6⟩, step⟩ | ⟨q, st₀, t, T', L, E, ce, h0, X', hL, e1, e2, ⟨σ2, h2, η2, q2, -⟩, -⟩
  · cases q1
    obtain ⟨hlen, hb2, hbv, g⟩ := kr v2 h2 q2
    let σ' : Nat → Nat → Nat := fun r o => if r < h.length then σ r o else σ2 (hC.length + (r - h.length)) o
    have hs : grown σ σ' h.length := fun r hr o => if_pos hr
    have hP : ∀ r, r < P.length → rn P r < h.length := fun r hr => by
      obtain ⟨z, hz⟩ := hnth_of_lt hr
      obtain ⟨g, -, h9⟩ := (Fits.get P F).2 r z hz
      rw [rn_of hz]
      exact hnth_lt h9
    have hc : ∀ r, r < h2.length → ∀ o, σ' (rn (P ++ newR h.length m) r) o = σ2 r o := fun r hr o => by
      rcases Nat.lt_or_ge r P.length with z | z
      · rw [rn_app_lt z]
        show (if rn P r < h.length then σ (rn P r) o else _) = _
        rw [if_pos (hP r z)]
        exact (q3 r (by omega) o).symm
      · have e9 : rn (P ++ newR h.length m) r = h.length + (r - P.length) := by
          unfold rn
          rw [hnth_app_ge z, newR_get, if_pos (by omega)]
          rfl
        rw [e9]
        show (if h.length + (r - P.length) < h.length then _ else σ2 (hC.length + (h.length + (r - P.length) - h.length)) o) = _
        rw [if_neg (by omega)]
        congr 1
        omega
    have hsub : ∀ q, AA (fun r o => σ (rn P r) o) (fun r o => η (rn P r) o) hC H.size q → AA (fun r o => σ' (rn (P ++ newR h.length m) r) o) (fun r o => η (rn (P ++ newR h.length m) r) o) (hC ++ List.replicate m []) H.size q := fun q hq => by
      rcases hq with ⟨p, hp, rfl⟩ | hq
      · refine Or.inl ⟨p, pdom_ext.mpr hp, ?_⟩
        have hp1 := pdom_lt hp
        refine (pad_bd (N := hC.length) (fun r hr o => ?_) (fun r hr o => ?_) hp1).symm
        · show σ' (rn (P ++ newR h.length m) r) o = σ (rn P r) o
          rw [rn_app_lt (by omega)]
          exact if_pos (hP r (by omega))
        · show η (rn (P ++ newR h.length m) r) o = η (rn P r) o
          rw [rn_app_lt (by omega)]
      · exact Or.inr hq
    have hF' : Fits (P ++ newR h.length m) (P ++ newR h.length m) (hC ++ List.replicate m []) (h ++ List.replicate m []) := by
      refine Fits.app ?_ Fits.newg
      refine Fits.ext F fun g hg c hc => ?_
      rw [← hlP]
      exact List.all_eq_true.mp (List.all_eq_true.mp hbC g hg) c hc
    have hRX : Rep (cD γ) σ' η (cκ γ) (h ++ List.replicate m []) (cS γ) H (cF γ) := (hR.sig (Nat.le_refl _) hb hs fun _ _ _ => rfl).ext m
    obtain ⟨k1, k2, k3⟩ := vx_keep (A0 := cF γ) h0 e1 hS (fun q _ hq => hAA q hq) hAA hL q6
    have hvm : (cS γ).vm.Alike t.vm := by rw [← e2]; exact X'.warmed.alike
    have hR2 := hRX.after (nd_app hn F) hF' (h2 := h2) (η2 := η2) (by simp [hlen]) ((Rep.sig (Rep.moved hvm.symm (by rw [e1]; exact q5)) (Nat.le_refl _) hb2 hc fun _ _ _ => rfl).weaken fun p _ hq => hsub _ hq) (fun q h1 h3 => k2 q h1 fun z => h3 (hsub q z)) hA0
    obtain ⟨t2, a1, b1⟩ := g σ' hs _ T'.heap (locs ++ L) lsA hR2 k3 (by rw [trL_bd hs hbl]; exact hl) T' rfl X'
    refine ⟨t2, step t2 ?_, b1⟩
    have e9 : (v2.map (tr σ2 (cκ γ))).toList ++ rest.map (tr σ (cκ γ)) = ((v2.toList.map (ren (P ++ newR h.length m))) ++ rest).map (tr σ' (cκ γ)) := by
      rw [List.map_append, List.map_map, bdV_trL hs hbr]
      congr 1
      cases v2 with
      | none => rfl
      | some v2 =>
        have hv : bdV h2.length v2 = true := by simpa using hbv
        have := bdV_tr (κ := cκ γ) hc hv
        show [tr σ2 (cκ γ) v2] = [tr σ' (cκ γ) (ren _ v2)]
        rw [tr_ren, this]
    rw [e9]
    exact a1
  · exact absurd q2 (kx E h2)
variable {M : MR} {na : Nat}
/-- a constructor, of a class that the caller's links name -/
theorem At.callI (O : OK γ own cc) (m : Nat) {r o : Nat} {As : List AV} (S : Sp d2 mc2 ms2 M (vR r o :: As) hC Po2) (K : KI M na) (w : Cond.methodLink own ix (mY M) ∈ GT) (hn : va_nd P = true) (F : Fits P P hC h) (hb : bdH h.length h = true) (hbC : bdH hC.length hC = true) (hbl : ls.all (fun q => bdV h.length q.2) = true) (hbr : rest.all (bdV h.length) = true) (hna : As.length = na)
    (hf : Fit γ k n d2 mc2 ms2) (hrw : wsum rest ≤ 8) (d : decode cc pc = .ok (.invokespecial ix, 3)) (hst : st = (As.map (ren P)).reverse ++ vR (rn P r) o :: rest)
    (kr : ∀ (v : Option AV) (h2 : AHp), Po2 (.inl v) h2 → h2.length = hC.length + m ∧ bdH h2.length h2 = true ∧ v.toList.all (bdV h2.length) = true ∧ ∀ σ2, grown σ σ2 h.length → At γ σ2 (k + mc2) (n + ms2) (pc + 3) ls ((v.toList.map (ren (P ++ newR h.length m))) ++ rest) (plug (P ++ newR h.length m) (P ++ newR h.length m) h2 (h ++ List.replicate m [])))
    (kx : ∀ (E : String) (h2 : AHp), ¬ Po2 (.inr E) h2) : At γ σ k n pc ls st h := by
  subst hst
  refine At.runG O m hn F hb hbC hbl hbr (fun η H locs lsA hR hS hl => ?_) kr kx (a := ((vR r o :: As).map (ren P) |>.map (tr σ (cκ γ))).toArray)
  have hp := PreC_of O hn F (vR r o :: As) hR hS
  have hcb := callB_M O K.1 hf w
  have hz : mZ M = none := K.2.2.2
  rw [hz] at hcb
  refine vx_runI (own := own) (index := ix) (y := mY M) (bytes := mB M) (maxL := mL M) (ws := mW M :: GT) (rm := rmD d2 mc2 ms2) (n := na) (nL := (cC γ).maxLocals) (cc := cc) (Ts := GT) (b := σ (rn P r) o) (As := (As.map (ren P)).map (tr σ (cκ γ)))
    ⟨O.1, O.2.1, rfl, O.2.2.1, O.2.2.2.1⟩ (S γ.2.1 (cD γ) _ _ (cκ γ) H.size O.2.2.2.2.2.2.2.1) ⟨hcb, K.2.2.1, O.2.2.2.1 _ K.2.1⟩ ⟨PreC_blind, hp⟩
    rfl (by rw [List.length_map, List.length_map]; exact hna) hl.1 ?_ ?_ d ⟨hf.2.2.1, hf.2.2.2⟩
  · show ((As.map (ren P)).reverse ++ vR (rn P r) o :: rest).map (tr σ (cκ γ)) = _
    rw [List.map_append, List.map_reverse]
    rfl
  · exact lv_room (Nat.le_trans (wsum_eq rest) hrw)
/-- a private constructor of a nest mate -/
theorem At.callIN (O : OK γ own cc) (m : Nat) {r o : Nat} {As : List AV} (S : Sp d2 mc2 ms2 M (vR r o :: As) hC Po2) (K : KI M na) (w : (own, ix, mY M) ∈ NWm) (hn : va_nd P = true) (F : Fits P P hC h) (hb : bdH h.length h = true) (hbC : bdH hC.length hC = true) (hbl : ls.all (fun q => bdV h.length q.2) = true) (hbr : rest.all (bdV h.length) = true) (hna : As.length = na)
    (hf : Fit γ k n d2 mc2 ms2) (hrw : wsum rest ≤ 8) (d : decode cc pc = .ok (.invokespecial ix, 3)) (hst : st = (As.map (ren P)).reverse ++ vR (rn P r) o :: rest)
    (kr : ∀ (v : Option AV) (h2 : AHp), Po2 (.inl v) h2 → h2.length = hC.length + m ∧ bdH h2.length h2 = true ∧ v.toList.all (bdV h2.length) = true ∧ ∀ σ2, grown σ σ2 h.length → At γ σ2 (k + mc2) (n + ms2) (pc + 3) ls ((v.toList.map (ren (P ++ newR h.length m))) ++ rest) (plug (P ++ newR h.length m) (P ++ newR h.length m) h2 (h ++ List.replicate m [])))
    (kx : ∀ (E : String) (h2 : AHp), ¬ Po2 (.inr E) h2) : At γ σ k n pc ls st h := by
  subst hst
  refine At.runG O m hn F hb hbC hbl hbr (fun η H locs lsA hR hS hl => ?_) kr kx (a := ((vR r o :: As).map (ren P) |>.map (tr σ (cκ γ))).toArray)
  have hp := PreC_of O hn F (vR r o :: As) hR hS
  have hN := O.2.2.2.2.2.1.2.1 _ w
  obtain ⟨⟨k1, k2, k3, k4⟩, k5, k6, k7⟩ := K
  have hcn : va_CN (cR γ) (cS γ) (cA γ) own ix (mY M) RX10 (mB M) (mL M) (mZ M) (mW M :: GT) (rmD d2 mc2 ms2) mc2 ms2 na := va_cnB (Ts := GT) na O.2.2.2.1 (GT_in k2) rfl rfl rfl hN (O.2.2.2.1 _ k1) k3 ⟨hf.1, by have := hf.2.1; show 8 + (mL M + 11) + 48 * d2 ≤ _; omega⟩
  rw [k7] at hcn
  refine vx_runIN (own := own) (host := RX10) (index := ix) (y := mY M) (bytes := mB M) (maxL := mL M) (ws := mW M :: GT) (rm := rmD d2 mc2 ms2) (n := na) (nL := (cC γ).maxLocals) (cc := cc) (Ts := GT) (b := σ (rn P r) o) (As := (As.map (ren P)).map (tr σ (cκ γ)))
    ⟨O.1, O.2.1, rfl, O.2.2.1, O.2.2.2.1⟩ (S γ.2.1 (cD γ) _ _ (cκ γ) H.size O.2.2.2.2.2.2.2.1) ⟨hcn, k6, O.2.2.2.1 _ k5⟩ ⟨PreC_blind, hp⟩
    rfl (by rw [List.length_map, List.length_map]; exact hna) hl.1 ?_ ?_ d ⟨hf.2.2.1, hf.2.2.2⟩
  · show ((As.map (ren P)).reverse ++ vR (rn P r) o :: rest).map (tr σ (cκ γ)) = _
    rw [List.map_append, List.map_reverse]
    rfl
  · exact lv_room (Nat.le_trans (wsum_eq rest) hrw)
end AG
