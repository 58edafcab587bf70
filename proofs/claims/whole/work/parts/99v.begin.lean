/-! ===== the law's beginning: the objects are made ===== -/
theorem EQ_0 : EQ 0 K00 m00 := by
  have w : WF S00 := ⟨by decide, by decide, by decide, by decide, Or.inl rfl, fun k hk => absurd hk (Nat.not_lt_zero _)⟩
  have g : GS 0 S00 := ⟨⟨⟨fun i hi => absurd hi (Nat.not_lt_zero _), fun i hi => absurd hi (Nat.not_lt_zero _), ⟨by decide, by decide⟩, ⟨by decide, by decide⟩⟩, fun i hi => absurd hi (Nat.not_lt_zero _)⟩, w, ⟨0, 0, Nat.zero_le _, rfl, rfl, Nat.zero_le _⟩, ⟨0, Nat.le_refl _, rfl, fun i hi => absurd hi (Nat.not_lt_zero _)⟩, fun i hi => absurd hi (Nat.not_lt_zero _)⟩
  have r : RP S00 (zA m00) := ⟨S00, ⟨zI0, zI0, rfl, PM_0 _ _ _ _, fun i j _ hj => absurd hj (Nat.not_lt_zero _)⟩, ⟨rfl, rfl, rfl, rfl, rfl, rfl, rfl, rfl, rfl, rfl⟩, fun i hi => absurd hi (Nat.not_lt_zero _), fun i hi => absurd hi (Nat.not_lt_zero _), fun i hi => absurd hi (Nat.not_lt_zero _), fun i hi => absurd hi (Nat.not_lt_zero _)⟩
  exact ⟨⟨⟨w, w, w, w, by decide, by decide, fun _ => w⟩, g, fun _ => g, g⟩, r, ⟨by decide, by decide, fun _ => w, rfl, fun k h1 h2 => absurd (Nat.le_trans h1 h2) (by decide)⟩, ⟨false, rfl, rfl, fun z => by cases z⟩, ⟨Or.inl ⟨rfl, rfl⟩, Or.inl ⟨rfl, rfl⟩⟩,
    ⟨⟨rfl, by decide, fun j hj => absurd hj (Nat.not_lt_zero _)⟩, fun j hj => absurd hj (Nat.not_lt_zero _), Nat.le_refl _⟩, ⟨⟨rfl, by decide, fun j hj => absurd hj (Nat.not_lt_zero _)⟩, Nat.le_refl _⟩, fun _ => (by decide : (0 : Nat) < 10)⟩
theorem mvV_0 (v : AV) : mvV 0 v = v := by
  rcases v with v | ⟨r, o⟩ | k
  · rfl
  · show Sum.inr (Sum.inl (0 + r, o)) = _
    rw [Nat.zero_add]
  · rfl
theorem mvC_0 (c : ACell) : mvC 0 c = c := by
  have hl : ∀ l : List AV, l.map (mvV 0) = l := fun l => by
    have : ∀ v ∈ l, mvV 0 v = id v := fun v _ => mvV_0 v
    rw [List.map_congr_left this, List.map_id]
  rcases c with ⟨ty, n, x⟩ | ⟨ci, fs⟩ | ⟨n, m, t⟩
  · rcases x with f | f | f | f
    · rfl
    · rfl
    · rfl
    · show Sum.inl (ty, n, Sum.inr (Sum.inr (Sum.inr (f.map (mvV 0))))) = _
      rw [hl]
  · show Sum.inr (Sum.inl (ci, fs.map (mvV 0))) = _
    rw [hl]
  · rfl
theorem mvH_0 (h : AHp) : mvH 0 h = h := by
  have hc : ∀ x : List ACell, x.map (mvC 0) = x := fun x => by
    have : ∀ c ∈ x, mvC 0 c = id c := fun c _ => mvC_0 c
    rw [List.map_congr_left this, List.map_id]
  have : ∀ x ∈ h, (fun x : List ACell => x.map (mvC 0)) x = id x := fun x _ => hc x
  show h.map _ = h
  rw [List.map_congr_left this, List.map_id]
def bkX (g : Nat) : AHp := mvH g wFl
def bkM (g : Nat) : AHp := mvH g (mdl m00)
set_option maxRecDepth 20000 in
theorem wFl_b : bdH 209 wFl = true := by decide +kernel
set_option maxRecDepth 20000 in
theorem wFl_l : wFl.length = 209 := by decide +kernel
theorem bkX_l (g : Nat) : (bkX g).length = 209 := by
  unfold bkX
  rw [List.length_map, wFl_l]
theorem bkX_r (g : Nat) : (bkX 0).map (fun x => x.map (renC (List.range' g 209))) = bkX g := by
  unfold bkX
  rw [mvH_0]
  exact renH_sh wFl_b
theorem bkX_b : bdH 209 (bkX 0) = true := by
  unfold bkX
  rw [mvH_0]
  exact wFl_b
theorem mdl_b (m : MS) : bdH 5 (mdl m) = true := rfl
theorem bkM_l (g : Nat) : (bkM g).length = 5 := rfl
theorem bkM_r (g : Nat) : (bkM 0).map (fun x => x.map (renC (List.range' g 5))) = bkM g := by
  unfold bkM
  rw [mvH_0]
  exact renH_sh (mdl_b m00)
theorem bkM_b : bdH 5 (bkM 0) = true := by
  unfold bkM
  rw [mvH_0]
  exact mdl_b m00
/-- back to regions -/
theorem At.unflat {γ : CX} {σ : Nat → Nat → Nat} {k n pc : Nat} {ls : List (Nat × AV)} {st : List AV} (h : AHp) (g : At γ (fun r o => σ (oF h r o) 0) k n pc ls st h) : At γ σ k n pc (ls.map (fun q => (q.1, frV (oF h) q.2))) (st.map (frV (oF h))) (flat h) := fun η H locs lsA a b c => by
  have e1 : trL σ (cκ γ) (ls.map (fun q => (q.1, frV (oF h) q.2))) = trL (fun r o => σ (oF h r o) 0) (cκ γ) ls := by
    show (ls.map _).map _ = ls.map _
    rw [List.map_map]
    exact List.map_congr_left fun q _ => Prod.ext rfl (frV_tr q.2)
  have e2 : (st.map (frV (oF h))).map (tr σ (cκ γ)) = st.map (tr (fun r o => σ (oF h r o) 0) (cκ γ)) := by
    rw [List.map_map]
    exact List.map_congr_left fun v _ => frV_tr v
  rw [e2]
  rw [e1] at c
  exact g _ H locs lsA (Rep.unflat a) b c
abbrev oZ : Nat → Int64 := fun _ => 0
abbrev dZ : Nat → UInt64 := fun _ => 0
def hB1 : AHp := bkX 0
def hB2 : AHp := hB1 ++ bkM 209
def hB3 : AHp := hB2 ++ [[aL oZ]]
def hB4 : AHp := hB3 ++ [[aDb dZ]]
theorem hB1_l : hB1.length = 209 := bkX_l 0
theorem hB2_l : hB2.length = 214 := by unfold hB2; rw [List.length_append, hB1_l, bkM_l]
theorem hB3_l : hB3.length = 215 := by unfold hB3; rw [List.length_append, hB2_l]; rfl
theorem hB1_b : bdH 209 hB1 = true := bkX_b
theorem bkM_b2 : bdH 214 (bkM 209) = true := rfl
theorem hB2_b : bdH 214 hB2 = true := bdH_app (bdH_mono (by decide) hB1_b) bkM_b2
theorem hB3_b : bdH 215 hB3 = true := bdH_app (bdH_mono (by decide) hB2_b) rfl
set_option maxRecDepth 20000 in
theorem hB4_eq : hB4 = flat (LH K00 m00 oZ dZ) := by
  have e : hB1 = flat (world K00) := by
    unfold hB1 bkX
    rw [mvH_0]
    exact wFl_eq
  have e2 : flat (LH K00 m00 oZ dZ) = flat (world K00) ++ (bkM 209 ++ [[aL oZ], [aDb dZ]]) := by rfl
  rw [e2, ← e]
  unfold hB4 hB3 hB2
  rw [List.append_assoc, List.append_assoc]
  rfl
def iK_0z : List IE := [(26, .istore 5, 0, 0, 0), (28, .iload 5, 0, 0, 0)]
theorem okK_0z : okL false 34 code iK_0z = true := by decide +kernel
/-- from the entry on: the objects, then the loop -/
theorem law_begin {γ : CX} {σ : Nat → Nat → Nat} {b L : Nat} {xs : Nat → Int32} (X : LX γ b L xs) (fin : ∀ (σ : Nat → Nat → Nat) (k n : Nat) (ls : List (Nat × AV)) (h : AHp), k ≤ 603072 → n ≤ 7198826 → At γ σ k n 3224 ls [vI 1] h) : At γ σ 0 0 0 [(0, .inl (.ref b))] [] [] := by
  refine At.mkI X.1 (ix := 8) (iy := 172) (ci := 11) (N := 13) (m := 208) (C := RX10) (T := TX10) bkX (fs := wF vN vN vN vN vN vN vN vN) (by
    have z := s_X10_init
    rw [← mvH_0 wFl] at z
    exact z) kX10_init ln_L_172 rfl (mT 36 (by decide +kernel) rfl) (mT 37 (by decide +kernel) rfl) in_X10 (fun σ j hj => by
    have : j = 0 ∨ j = 1 ∨ j = 2 ∨ j = 3 ∨ j = 4 ∨ j = 5 ∨ j = 6 ∨ j = 7 ∨ j = 8 ∨ j = 9 ∨ j = 10 ∨ j = 11 ∨ j = 12 := by omega
    rcases this with rfl | rfl | rfl | rfl | rfl | rfl | rfl | rfl | rfl | rfl | rfl | rfl | rfl <;> rfl) rfl bkX_r bkX_l bkX_b (by rw [X.2.2.1]; decide) (by rw [X.2.2.1]; decide) X.fit (dcN okK_0a rfl) (dc1 okK_0a rfl (Or.inl rfl)) (dcI okK_0a rfl) rfl rfl rfl (by decide) fun σ1 g1 => ?_
  show At γ σ1 211 1782 7 [(0, .inl (.ref b))] [vR 0 0] hB1
  refine X.run okK_0a [] 60 ?_
  refine At.mkI X.1 (ix := 173) (iy := 175) (ci := 12) (N := 15) (m := 4) (C := RX11) (T := TX11) bkM (fs := [vI 0, vN, vI 0, vI 0, vI 0, vN, vI 0, vN, vI 0, vI 0, vI 0, vI 0, vI 0, vN, vI 0]) (by
    have z := s_X11_init
    rw [← mvH_0 (mdl m00)] at z
    exact z) kX11_init ln_L_175 rfl (mT 1599 (by decide +kernel) rfl) (mT 1600 (by decide +kernel) rfl) in_X11 (fun σ j hj => by
    have : j = 0 ∨ j = 1 ∨ j = 2 ∨ j = 3 ∨ j = 4 ∨ j = 5 ∨ j = 6 ∨ j = 7 ∨ j = 8 ∨ j = 9 ∨ j = 10 ∨ j = 11 ∨ j = 12 ∨ j = 13 ∨ j = 14 := by omega
    rcases this with rfl | rfl | rfl | rfl | rfl | rfl | rfl | rfl | rfl | rfl | rfl | rfl | rfl | rfl | rfl <;> rfl) rfl bkM_r bkM_l bkM_b (by rw [X.2.2.1]; decide) (by rw [X.2.2.1]; decide) X.fit (dcN okK_0a rfl) (dc1 okK_0a rfl (Or.inl rfl)) (dcI okK_0a rfl) (by rw [hB1_l]; exact hB1_b) (by rw [hB1_l]; rfl) rfl (by decide) fun σ2 g2 => ?_
  rw [hB1_l]
  show At γ σ2 216 3733 15 [(0, .inl (.ref b)), (1, vR 0 0)] [vR 209 0] hB2
  refine X.run okK_0a [] 60 ?_
  refine At.newA (N := 1) (ty := .long) X.1 rfl (fun _ _ _ => rfl) (mT 2144 (by decide +kernel) rfl) (by decide) (by decide) (by decide) (by rw [X.2.2.1]; decide) (by rw [X.2.2.1]; decide) (dcNew okK_0a rfl) (by rw [hB2_l]; exact hB2_b) (by rw [hB2_l]; rfl) rfl fun σ3 g3 => ?_
  rw [hB2_l]
  show At γ σ3 217 3734 19 [(0, .inl (.ref b)), (1, vR 0 0), (2, vR 209 0)] [vR 214 0] hB3
  refine X.run okK_0a [] 60 ?_
  refine At.newA (N := 1) (ty := .double) X.1 rfl (fun _ _ _ => rfl) (mT 2145 (by decide +kernel) rfl) (by decide) (by decide) (by decide) (by rw [X.2.2.1]; decide) (by rw [X.2.2.1]; decide) (dcNew okK_0a rfl) (by rw [hB3_l]; exact hB3_b) (by rw [hB3_l]; rfl) rfl fun σ4 g4 => ?_
  rw [hB3_l]
  show At γ σ4 218 3735 23 [(0, .inl (.ref b)), (1, vR 0 0), (2, vR 209 0), (3, vR 214 0)] [vR 215 0] hB4
  refine X.run okK_0a [(26, [0, 1, 2, 3, 4])] 60 ?_
  refine X.run okK_0z [(28, [0, 1, 2, 3, 4, 5])] 60 ?_
  rw [hB4_eq]
  have hL := X.2.2.2.2.2.2
  have z := law_loop (σ := fun r o => σ4 (oF (LH K00 m00 oZ dZ) r o) 0) X (fin _) (L / 4) 0 (by omega) (by omega) K00 m00 oZ dZ EQ_0
  exact At.wid (k2 := 1000) (n2 := 100000) (by decide) (by decide) (At.unflat (LH K00 m00 oZ dZ) z)
