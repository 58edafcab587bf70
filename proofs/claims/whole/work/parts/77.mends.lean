/-! ===== the model: a change begins and ends ===== -/
def thr (q a b c d : Nat) : Nat := if q = 1 then a else if q = 2 then b else if q = 3 then c else if q = 4 then d else 0
def dnF (f : FI) (i : Nat) : FI := fun j => if 116 ≤ j ∧ j < 116 * i then f (j + 116) else f j
def enF (f : FI) (n : Nat) : FI := if n < 8 then cpF f 10 (n + 1) else cpF (dnF f 8) 10 8
def enN (n : Nat) : Nat := if n < 8 then n + 1 else 8
theorem dnF_put (f : FI) (i : Nat) (hi : 1 ≤ i) : cpF (dnF f i) (i + 1) i = dnF f (i + 1) := by
  funext j
  unfold cpF dnF
  by_cases h : 116 * i ≤ j ∧ j < 116 * i + 116
  · rw [if_pos h, if_neg (by omega), if_pos (by omega)]
    exact congrArg _ (by omega)
  · rw [if_neg h]
    by_cases h2 : 116 ≤ j ∧ j < 116 * i
    · rw [if_pos h2, if_pos (by omega)]
    · rw [if_neg h2, if_neg (by omega)]
theorem rEv {mc ms : Nat} {x y : Int32} {P : MS → Prop} {m' : MS} (e : x = y) (hP : P m') {h : AHp} (eh : h = mdl m' := by rfl) : RF 0 0 mc ms (PoE (some (vI y)) P) (some (vI x)) h := by
  subst e
  exact rE hP eh
section NE
variable {m : MS} {T : SH}
theorem n_begins (m : MS) : Sp 1 0 0 mX11_begins [vR 0 0] (mdl m) (PoV (mdl (wA m (cpF (zA m) 0 10)))) := by
  refine Sp.of' false (fun h => by cases h) (by decide) rfl rfl (Nat.le_of_ble_eq_true rfl) fun γ σ B => ?_
  have F : Fit γ 0 0 0 0 0 := fiW B (by decide) (Nat.zero_le _) (Nat.zero_le _)
  refine B.run okX11_begins [] 60 ?_
  refine At.mV [vI 0, vI 10] [] B.1 (n_copies m 0 10 (by decide) (by decide) (by decide)) kX11_copies ln_X11_33 F (dcV okX11_begins rfl) ?_
  refine B.run okX11_begins [] 60 ?_
  exact rV
theorem n_ends (m : MS) (q a b c d n : Nat) (hq : q ≤ 4) (ha : a < 100 ∧ b < 100 ∧ c < 100 ∧ d < 100) (hN : zN m = nI n) (hn : n ≤ 8) : Sp 1 0 0 mX11_ends [vR 0 0, vI (nI q), vI (nI a), vI (nI b), vI (nI c), vI (nI d)] (mdl m)
    (PoE (some (vI (if thr q a b c d = 0 then zR m else 0))) (fun m' => m' = if thr q a b c d = 0 then wN (wT (wA m (enF (zA m) n)) 0) (nI (enN n)) else wT (wA m (cpF (zA m) 10 0)) (nI (thr q a b c d)))) := by
  refine Sp.of' false (fun h => by cases h) (by decide) rfl rfl (Nat.le_of_ble_eq_true rfl) fun γ σ B => ?_
  have F : Fit γ 0 0 0 0 0 := fiW B (by decide) (Nat.zero_le _) (Nat.zero_le _)
  have hth : thr q a b c d < 100 := by
    unfold thr
    split
    · exact ha.1
    · split
      · exact ha.2.1
      · split
        · exact ha.2.2.1
        · split
          · exact ha.2.2.2
          · decide
  -- from pc 40 on
  have go : ∀ (t : Nat), t = thr q a b c d → At γ σ 0 0 40 [(0, vR 0 0)] [vI (nI t), vR 0 0] (mdl m) := by
    intro t ht
    rw [← ht] at hth
    refine B.run okX11_ends [(71, [0, 6]), (104, [0])] 60 ?_
    refine ⟨trivial, ?_⟩
    constructor
    · intro h
      have h0 : t = 0 := (nI_eq (by omega) (by decide)).mp (show nI t = nI 0 from h)
      subst h0
      have hz0 : thr q a b c d = 0 := ht.symm
      have en1 : enN n ≤ 8 ∧ 1 ≤ enN n := by unfold enN; split <;> omega
      have last : ∀ (f : FI) (k : Nat), enF (zA m) n = cpF f 10 (enN n) → k + 1 = enN n → At γ σ 0 0 104 [(0, vR 0 0)] [] (mdl (wN (wT (wA m f) 0) (nI k))) := by
        intro f k hf hk
        refine B.run okX11_ends [] 60 ?_
        refine ⟨trivial, ?_⟩
        have e : nI k + 1 = nI (enN n) := by rw [nI_1, hk]
        change At γ σ 0 0 121 [(0, vR 0 0)] [vI (nI k + 1), vI 10, vR 0 0] (mdl (wN (wT (wA m f) 0) (nI k + 1)))
        rw [e]
        refine At.mV [vI 10, vI (nI (enN n))] [] B.1 (n_copies (wN (wT (wA m f) 0) (nI (enN n))) 10 (enN n) (by decide) (by omega) (by omega)) kX11_copies ln_X11_33 F (dcV okX11_ends rfl) ?_
        refine B.run okX11_ends [] 60 ?_
        exact rEv (m' := wN (wT (wA m (enF (zA m) n)) 0) (nI (enN n))) (by rw [if_pos hz0]) (by rw [if_pos hz0]) (by rw [hf])
      constructor
      · intro h2
        have h2 : zN m = 8 := h2
        rw [hN] at h2
        have h8 : n = 8 := (nI_eq (by omega) (by decide)).mp h2
        subst h8
        have loop : ∀ (j i : Nat), i + j = 8 → 1 ≤ i → At γ σ 0 0 71 [(0, vR 0 0), (6, vI (nI i))] [] (mdl (wT (wA m (dnF (zA m) i)) 0)) := by
          intro j
          induction j with
          | zero =>
            intro i hi _
            have hi : i = 8 := by omega
            subst hi
            refine B.run okX11_ends [(104, [0])] 60 ?_
            constructor
            · intro _
              refine ⟨trivial, ?_⟩
              have z := last (dnF (zA m) 8) 7 rfl rfl
              have e : zN m - 1 = nI 7 := by rw [hN]; exact nI_pred 7
              rw [← e] at z
              exact z
            · intro w
              exact absurd (show nI 8 ≤ nI 8 from Int32.le_refl _) w
          | succ j ih =>
            intro i hi h1
            refine B.run okX11_ends [(71, [0, 6])] 60 ?_
            constructor
            · intro w
              exact absurd w (nI_ge (a := i) (b := 8) (by omega) (by decide))
            · intro _
              have SC := n_copies (wT (wA m (dnF (zA m) i)) 0) (i + 1) i (by omega) (by omega) (by omega)
              rw [← nI_1] at SC
              refine B.run okX11_ends [(71, [0, 6])] 60 ?_
              refine At.mV [vI (nI i + 1), vI (nI i)] [] B.1 SC kX11_copies ln_X11_33 F (dcV okX11_ends rfl) ?_
              have z := ih (i + 1) (by omega) (by omega)
              rw [← dnF_put (zA m) i h1, ← nI_1] at z
              refine B.run okX11_ends [(71, [0, 6])] 60 ?_
              exact z
        have z := loop 7 1 (by decide) (by decide)
        have e : dnF (zA m) 1 = zA m := by
          funext j
          unfold dnF
          rw [if_neg (by omega)]
        rw [e] at z
        exact z
      · intro h2
        have h2 : ¬ zN m = 8 := h2
        rw [hN] at h2
        have h8 : n < 8 := by
          rcases Nat.lt_or_ge n 8 with z | z
          · exact z
          · exact absurd (show nI n = 8 by rw [show n = 8 by omega]; rfl) h2
        have e1 : enN n = n + 1 := by unfold enN; rw [if_pos h8]
        have z := last (zA m) n (by unfold enF; rw [if_pos h8, e1]) e1.symm
        rw [← hN] at z
        exact z
    · intro h
      have h0 : ¬ t = 0 := fun z => h (by rw [z]; rfl)
      have h0' : ¬ thr q a b c d = 0 := fun z => h0 (ht.trans z)
      refine B.run okX11_ends [] 60 ?_
      refine At.mV [vI 10, vI 0] [] B.1 (n_copies (wT m (nI t)) 10 0 (by decide) (by decide) (by decide)) kX11_copies ln_X11_33 F (dcV okX11_ends rfl) ?_
      refine B.run okX11_ends [] 60 ?_
      exact rEv (m' := wT (wA m (cpF (zA m) 10 0)) (nI t)) (by rw [if_neg h0']) (by rw [if_neg h0', ← ht]) rfl
  refine B.run okX11_ends [(40, [0])] 60 ?_
  have cs : q = 0 ∨ q = 1 ∨ q = 2 ∨ q = 3 ∨ q = 4 := by omega
  rcases cs with rfl | rfl | rfl | rfl | rfl
  · refine ⟨fun h => absurd h (by decide), fun _ => ⟨fun h => absurd h (by decide), fun _ => ⟨fun h => absurd h (by decide), fun _ => ⟨fun h => absurd h (by decide), fun _ => go 0 rfl⟩⟩⟩⟩
  · exact ⟨fun _ => go a rfl, fun h => absurd rfl h⟩
  · exact ⟨fun h => absurd h (by decide), fun _ => ⟨fun _ => go b rfl, fun h => absurd rfl h⟩⟩
  · exact ⟨fun h => absurd h (by decide), fun _ => ⟨fun h => absurd h (by decide), fun _ => ⟨fun _ => go c rfl, fun h => absurd rfl h⟩⟩⟩
  · exact ⟨fun h => absurd h (by decide), fun _ => ⟨fun h => absurd h (by decide), fun _ => ⟨fun h => absurd h (by decide), fun _ => ⟨fun _ => go d rfl, fun h => absurd rfl h⟩⟩⟩⟩
end NE
/-- a change, as the rows show it: th is 'thrown', n the number of rows kept before -/
def PCh (th n : Nat) (m m' : MS) (T' : SH) : Prop :=
  (∃ y, m'.2 = (wN (wT (wR m y) (nI th)) (if th = 0 then nI (enN n) else zN m)).2) ∧
  (¬ th = 0 → ∀ j, j < 1160 → zA m' j = zA m j) ∧
  (th = 0 → RS T' (zA m') ∧ (∀ j, 1044 ≤ j → j < 1160 → zA m' j = zA m j) ∧ ∀ k j, 1 ≤ k → k ≤ enN n → j < 116 → zA m' (116 * k + j) = if k = enN n then zA m j else if n < 8 then zA m (116 * k + j) else zA m (116 * (k + 1) + j))
theorem RS.agree {T : SH} {f g : FI} (h : RS T f) (e : ∀ j, j < 116 → g j = f j) (hT : WF T) : RS T g := by
  obtain ⟨⟨a0, a1, a2, a3, a4, a5, a6, a7, a8, a9⟩, b, c, d, l⟩ := h
  obtain ⟨h1, h2, h3, h4, -⟩ := hT
  refine ⟨⟨(e _ (by decide)).trans a0, (e _ (by decide)).trans a1, (e _ (by decide)).trans a2, (e _ (by decide)).trans a3, (e _ (by decide)).trans a4, (e _ (by decide)).trans a5, (e _ (by decide)).trans a6, (e _ (by decide)).trans a7, (e _ (by decide)).trans a8, by rw [e _ (by decide)]; exact a9⟩, fun i hi => ?_, fun k hk => ?_, fun k hk => ?_, fun k hk => ?_⟩
  · exact ⟨(e _ (by omega)).trans (b i hi).1, (e _ (by omega)).trans (b i hi).2.1, (e _ (by omega)).trans (b i hi).2.2.1, (e _ (by omega)).trans (b i hi).2.2.2.1, (e _ (by omega)).trans (b i hi).2.2.2.2⟩
  · exact ⟨(e _ (by omega)).trans (c k hk).1, (e _ (by omega)).trans (c k hk).2.1, (e _ (by omega)).trans (c k hk).2.2⟩
  · exact ⟨(e _ (by omega)).trans (d k hk).1, (e _ (by omega)).trans (d k hk).2⟩
  · exact (e _ (by omega)).trans (l k hk)
theorem PCh.of {m m2 m' : MS} {T' : SH} {x : Int32} {q a b c d n : Nat} (hT' : thr q a b c d = 0 → WF T') (hn : n ≤ 8) (hz : thr q a b c d = 0 → q = 0) (h : CQ' q (wA m (cpF (zA m) 0 10)) m2 T' x)
    (e : m' = if thr q a b c d = 0 then wN (wT (wA m2 (enF (zA m2) n)) 0) (nI (enN n)) else wT (wA m2 (cpF (zA m2) 10 0)) (nI (thr q a b c d))) : PCh (thr q a b c d) n m m' T' := by
  obtain ⟨h1, ⟨y, h2⟩, h3⟩ := h
  have k10 : ∀ j, j < 116 → zA m2 (1160 + j) = zA m j := fun j hj => by
    rw [h1 _ (by omega)]
    show cpF (zA m) 0 10 _ = _
    unfold cpF
    rw [if_pos (by omega)]
    exact congrArg _ (by omega)
  have kr : ∀ j, 116 ≤ j → j < 1160 → zA m2 j = zA m j := fun j hj hj2 => by
    rw [h1 _ hj]
    show cpF (zA m) 0 10 _ = _
    unfold cpF
    rw [if_neg (by omega)]
  by_cases hth : thr q a b c d = 0
  · rw [if_pos hth] at e
    obtain ⟨r, -⟩ := h3 (hz hth)
    rw [hth]
    have en1 : enN n ≤ 8 ∧ 1 ≤ enN n := by unfold enN; split <;> omega
    refine ⟨⟨y, ?_⟩, fun w => absurd rfl w, fun _ => ⟨?_, fun j hj hj2 => ?_, fun k j hk hk2 hj => ?_⟩⟩
    · rw [e]
      show ((0, nI (enN n), m2.2.1.2.2), m2.2.2) = _
      rw [h2] <;> rfl
    · rw [e]
      refine r.agree (fun j hj => ?_) (hT' hth)
      show enF (zA m2) n j = _
      unfold enF
      split
      · unfold cpF; rw [if_neg (by omega)]
      · unfold cpF dnF; rw [if_neg (by omega), if_neg (by omega)]
    · rw [e]
      show enF (zA m2) n j = _
      rw [← kr j (by omega) hj2]
      unfold enF
      split
      · unfold cpF; rw [if_neg (by omega)]
      · unfold cpF dnF; rw [if_neg (by omega), if_neg (by omega)]
    · rw [e]
      show enF (zA m2) n (116 * k + j) = _
      by_cases h8 : n < 8
      · have e1 : enN n = n + 1 := by unfold enN; rw [if_pos h8]
        unfold enF
        rw [if_pos h8, e1]
        unfold cpF
        by_cases z : k = n + 1
        · rw [if_pos (by omega), if_pos z, ← k10 j hj]
          exact congrArg _ (by omega)
        · rw [if_neg (by omega), if_neg z, if_pos h8]
          exact kr _ (by omega) (by omega)
      · have e1 : enN n = 8 := by unfold enN; rw [if_neg h8]
        unfold enF
        rw [if_neg h8, e1]
        unfold cpF dnF
        by_cases z : k = 8
        · rw [if_pos (by omega), if_neg (by omega), if_pos z, ← k10 j hj]
          exact congrArg _ (by omega)
        · rw [if_neg (by omega), if_pos (by omega), if_neg z, if_neg h8, ← kr _ (by omega) (by omega)]
          exact congrArg _ (by omega)
  · rw [if_neg hth] at e
    refine ⟨⟨y, ?_⟩, fun _ j hj => ?_, fun w => absurd w hth⟩
    · rw [e, if_neg hth]
      show ((nI (thr q a b c d), m2.2.1.2.1, m2.2.1.2.2), m2.2.2) = _
      rw [h2] <;> rfl
    · rw [e]
      show cpF (zA m2) 10 0 j = _
      unfold cpF
      by_cases z : j < 116
      · rw [if_pos (by omega), ← k10 j z]
        exact congrArg _ (by omega)
      · rw [if_neg (by omega)]
        exact kr j (by omega) hj
