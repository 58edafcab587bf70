/-! ===== the law's beginning: its ship is made, and built ===== -/
theorem JK_0 : JK 0 K00 := by
  have w : WF S00 := ⟨by decide, by decide, by decide, by decide, Or.inl rfl, fun k hk => absurd hk (Nat.not_lt_zero _)⟩
  have g : GS 0 S00 := ⟨⟨⟨fun i hi => absurd hi (Nat.not_lt_zero _), fun i hi => absurd hi (Nat.not_lt_zero _), ⟨by decide, by decide⟩, ⟨by decide, by decide⟩⟩, fun i hi => absurd hi (Nat.not_lt_zero _)⟩, w, ⟨0, 0, Nat.zero_le _, rfl, rfl, Nat.zero_le _⟩, ⟨0, Nat.le_refl _, rfl, fun i hi => absurd hi (Nat.not_lt_zero _)⟩, fun i hi => absurd hi (Nat.not_lt_zero _)⟩
  exact ⟨⟨w, w, w, w, by decide, by decide, fun _ => w⟩, ⟨g, fun i j _ hj => absurd hj (Nat.not_lt_zero _), ⟨fun i j _ hj => absurd hj (Nat.not_lt_zero _), fun k hk => absurd hk (Nat.not_lt_zero _)⟩, fun i hi => absurd hi (Nat.not_lt_zero _), fun _ => by decide⟩, by decide⟩
theorem mvV_0 (v : AV) : mvV 0 v = v := by
  rcases v with v | ⟨r, o⟩ | k
  · rfl
  · show Sum.inr (Sum.inl (0 + r, o)) = _
    rw [Nat.zero_add]
  · rfl
theorem mvC_0 (c : ACell) : mvC 0 c = c := by
  have hl : ∀ l : List AV, l.map (mvV 0) = l := fun l => by
    have : ∀ v ∈ l, mvV 0 v = id v := fun v _ => mvV_0 v
    rw [List.map_congr_left this, List.map_id]
  rcases c with ⟨ty, n, x⟩ | ⟨ci, fs⟩ | ⟨n, m, t⟩
  · rcases x with f | f | f | f
    · rfl
    · rfl
    · rfl
    · show Sum.inl (ty, n, Sum.inr (Sum.inr (Sum.inr (f.map (mvV 0))))) = _
      rw [hl]
  · show Sum.inr (Sum.inl (ci, fs.map (mvV 0))) = _
    rw [hl]
  · rfl
theorem mvH_0 (h : AHp) : mvH 0 h = h := by
  have hc : ∀ x : List ACell, x.map (mvC 0) = x := fun x => by
    have : ∀ c ∈ x, mvC 0 c = id c := fun c _ => mvC_0 c
    rw [List.map_congr_left this, List.map_id]
  have : ∀ x ∈ h, (fun x : List ACell => x.map (mvC 0)) x = id x := fun x _ => hc x
  show h.map _ = h
  rw [List.map_congr_left this, List.map_id]
def bkX (g : Nat) : AHp := mvH g wFl
set_option maxRecDepth 20000 in
theorem wFl_b : bdH 209 wFl = true := by decide +kernel
set_option maxRecDepth 20000 in
theorem wFl_l : wFl.length = 209 := by decide +kernel
theorem bkX_l (g : Nat) : (bkX g).length = 209 := by
  unfold bkX
  rw [List.length_map, wFl_l]
theorem bkX_r (g : Nat) : (bkX 0).map (fun x => x.map (renC (List.range' g 209))) = bkX g := by
  unfold bkX
  rw [mvH_0]
  exact renH_sh wFl_b
theorem bkX_b : bdH 209 (bkX 0) = true := by
  unfold bkX
  rw [mvH_0]
  exact wFl_b
/-- back to regions -/
theorem At.unflat {γ : CX} {σ : Nat → Nat → Nat} {k n pc : Nat} {ls : List (Nat × AV)} {st : List AV} (h : AHp) (g : At γ (fun r o => σ (oF h r o) 0) k n pc ls st h) : At γ σ k n pc (ls.map (fun q => (q.1, frV (oF h) q.2))) (st.map (frV (oF h))) (flat h) := fun η H locs lsA a b c => by
  have e1 : trL σ (cκ γ) (ls.map (fun q => (q.1, frV (oF h) q.2))) = trL (fun r o => σ (oF h r o) 0) (cκ γ) ls := by
    show (ls.map _).map _ = ls.map _
    rw [List.map_map]
    exact List.map_congr_left fun q _ => Prod.ext rfl (frV_tr q.2)
  have e2 : (st.map (frV (oF h))).map (tr σ (cκ γ)) = st.map (tr (fun r o => σ (oF h r o) 0) (cκ γ)) := by
    rw [List.map_map]
    exact List.map_congr_left fun v _ => frV_tr v
  rw [e2]
  rw [e1] at c
  exact g _ H locs lsA (Rep.unflat a) b c
def hB1 : AHp := bkX 0
theorem hB1_eq : hB1 = flat (world K00) := by
  unfold hB1 bkX
  rw [mvH_0]
  exact wFl_eq
/-- from the entry on -/
theorem law_begin {γ : CX} {σ : Nat → Nat → Nat} (X : LX γ) (fin : ∀ (σ : Nat → Nat → Nat) (k n : Nat) (ls : List (Nat × AV)) (h : AHp), k ≤ 600390 → n ≤ 7289120 → At γ σ k n 1509 ls [vI 1] h) : At γ σ 0 0 0 [(0, vK 60)] [] [] := by
  refine At.mkI X.1 (ix := 14) (iy := 170) (ci := 11) (N := 13) (m := 208) (C := RX10) (T := TX10) bkX (fs := wF vN vN vN vN vN vN vN vN) (by
    have z := s_X10_init
    rw [← mvH_0 wFl] at z
    exact z) kX10_init ln_L_170 rfl (mT 34 (by decide +kernel) rfl) (mT 35 (by decide +kernel) rfl) in_X10 (fun σ j hj => by
    have : j = 0 ∨ j = 1 ∨ j = 2 ∨ j = 3 ∨ j = 4 ∨ j = 5 ∨ j = 6 ∨ j = 7 ∨ j = 8 ∨ j = 9 ∨ j = 10 ∨ j = 11 ∨ j = 12 := by omega
    rcases this with rfl | rfl | rfl | rfl | rfl | rfl | rfl | rfl | rfl | rfl | rfl | rfl | rfl <;> rfl) rfl bkX_r bkX_l bkX_b (by rw [X.2.2]; decide) (by rw [X.2.2]; decide) X.fit (dcN okK_A rfl) (dc1 okK_A rfl (Or.inl rfl)) (dcI okK_A rfl) rfl rfl rfl (by decide) fun σ1 g1 => ?_
  show At γ σ1 211 1782 7 [(0, vK 60)] [vR 0 0] hB1
  refine X.run okK_A [(8, [0, 1])] 60 ?_
  rw [hB1_eq]
  refine At.unflat (world K00) (ls := [(0, vK 60), (1, vR 0 0)]) (st := []) ?_
  refine X.run okK_A [] 60 ?_
  refine At.callS (P := R65) (hC := world K00) (rest := []) (As := [vR 0 0, vK 60]) X.1 (s_build K00 JK_0 rfl) kL_build ln_L_171 nd65 (by
    have F := Fits_pre id65 (world_bd K00) (world_len K00) []
    rw [List.append_nil] at F
    exact F) rfl (X.fit (by decide) (by omega) (by omega)) (Nat.le_of_ble_eq_true rfl) (dcS okK_A rfl) rfl (fun v2 h2 hp => ?_) (fun E h2 hp => by cases hp.1)
  obtain ⟨e1, K', h1, h3, rfl⟩ := hp
  cases e1
  refine ⟨rfl, ?_⟩
  have e := plug_pre id65 (world_bd K') (world_len K00) (world_len K') []
  rw [List.append_nil, List.append_nil] at e
  rw [show plug R65 R65 (world K') (world K00) = world K' from e]
  refine X.run okK_A [(15, [0, 1, 2])] 60 ?_
  exact At.wid (by decide) (by decide) (law_loop X fin 3 0 rfl _ K' (h1.le (by decide)) h3)
