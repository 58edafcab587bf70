/-! ===== Program: keyword, parse ===== -/
theorem dcAst2 {ini : Bool} {o : Nat} {cc : ByteArray} {l : List IE} (h : okL ini o cc l = true) {pc : Nat} (hd : dec_of l pc = some (.astore_n 2)) : decode cc pc = .ok (.astore_n 2, 1) := by
  obtain ⟨e, rfl, e2, h1, -⟩ := okL_dec h hd
  obtain ⟨len, h3, h4⟩ := okD_spec h1
  rw [e2] at h3 h4
  rw [h3, beq_iff_eq.mp h4]; rfl
theorem dcAld2 {ini : Bool} {o : Nat} {cc : ByteArray} {l : List IE} (h : okL ini o cc l = true) {pc : Nat} (hd : dec_of l pc = some (.aload_n 2)) : decode cc pc = .ok (.aload_n 2, 1) := by
  obtain ⟨e, rfl, e2, h1, -⟩ := okL_dec h hd
  obtain ⟨len, h3, h4⟩ := okD_spec h1
  rw [e2] at h3 h4
  rw [h3, beq_iff_eq.mp h4]; rfl
theorem At.astore_nN {γ : CX} {own : String} {cc : ByteArray} {σ : Nat → Nat → Nat} {k n pc : Nat} {ls : List (Nat × AV)} {st : List AV} {h : AHp} (O : OK γ own cc) {i : _root_.Fin 4} (d : decode cc pc = .ok (.astore_n i, 1)) (hn : i < (cC γ).maxLocals) (ho : lvok ls i = true) (g : At γ σ k n (pc + 1) (lvset ls i vN) st h) : At γ σ k n pc ls (vN :: st) h := fun η H locs lsA a b c => by
  have h2 := fun lsB cB => g η H locs lsB a b (lvset_has (v := vN) ho cB)
  simp only [List.map_cons]
  exact lv_astore_nN O.1 O.2.1 d rfl c hn rfl h2
def mxN (f : Nat → Nat) : Nat → Nat
  | 0 => 0
  | n + 1 => if mxN f n < f n then f n else mxN f n
theorem mxN_le {f : Nat → Nat} {b : Nat} (h : ∀ i, f i ≤ b) : ∀ n, mxN f n ≤ b
  | 0 => Nat.zero_le _
  | n + 1 => by
    unfold mxN
    split
    · exact h n
    · exact mxN_le h n
def rkB (I : SBB) (q i : Nat) : Bool := decide (cmN I q i = (sxB i).length)
def rkI (I : SBB) (q : Nat) : Nat := fst (rkB I q) 10
def rkQ (I : SBB) (q : Nat) : Nat := if rkI I q < 10 then q + (sxB (rkI I q)).length else q + mxN (cmN I q) 10
def rkV (i : Nat) : AV := if i < 10 then vK (5 + i) else vN
theorem sx_le9 (j : Nat) : (sxB j).length ≤ 9 := by
  rcases Nat.lt_or_ge j 19 with h | h
  · have := sx_len j h; omega
  · have : sxB j = [] := by
      unfold sxB
      split <;> first | omega | rfl
    rw [this]; exact Nat.zero_le _
theorem cmN_le (I : SBB) (q j : Nat) : cmN I q j ≤ 9 := Nat.le_trans (fst_le _ _) (sx_le9 j)
theorem rkQ_le (I : SBB) (q : Nat) : rkQ I q ≤ q + 9 := by
  unfold rkQ
  split
  · have := sx_le9 (rkI I q); omega
  · have := mxN_le (f := cmN I q) (b := 9) (cmN_le I q) 10; omega
theorem s_p_readKeyword (I : SBB) (hI : I.1 ≤ 1000) (c0 : Int32) (q : Nat) (v : Int32) (kw : Nat → Nat) (rw : Nat → FI) (hq : q ≤ 1900) : Sp 6 0 0 mX7_readKeyword [vR 1 0] (pgW I (pst c0 q v kw rw)) (PoQ (some (rkV (rkI I q))) (pgW I (pst c0 (rkQ I q) v kw rw))) := by
  refine Sp.of' false (fun h => by cases h) (by decide) rfl rfl (Nat.le_of_ble_eq_true rfl) fun γ σ B => ?_
  have hK := (sx B.1).1.2.2.2.2.1
  have loop : ∀ (m i : Nat), i + m = 10 → (∀ k, k < i → rkB I q k = false) → At γ σ 0 0 12 [(0, vR 1 0), (1, vI (nI (mxN (cmN I q) i))), (2, vK 34), (3, vI (nI 10)), (4, vI (nI i))] [] (pgW I (pst c0 q v kw rw)) := by
    intro m
    induction m with
    | zero =>
      intro i hi hno
      have hi : i = 10 := by omega
      subst hi
      have e1 : rkI I q = 10 := fst_none hno
      have e2 : rkQ I q = q + mxN (cmN I q) 10 := by unfold rkQ; rw [e1]; rfl
      refine B.run okX7_readKeyword [(12, [0, 1, 2, 3, 4]), (62, [0, 1, 2, 3, 4, 6]), (27, [0, 1, 2, 3, 4, 5]), (39, [0, 1, 2, 3, 4, 5, 6]), (7, [0, 1, 2]), (21, [0, 1, 2, 3, 4])] 60 ?_
      constructor
      · intro _
        refine ⟨trivial, ?_⟩
        refine At.null B.1 (dc1L okX7_readKeyword rfl (by simp [L1])) ?_
        refine At.aret B.1 B.2.1 (dc1L okX7_readKeyword rfl (by simp [L1])) rfl (Or.inl ⟨_, rfl⟩) (Or.inr rfl) (by decide) (by decide) (Or.inl rfl) ⟨by rw [e1]; rfl, ?_⟩
        rw [e2]
        show pgW I (c0, nI q + nI (mxN (cmN I q) 10), v, kw, rw) = _
        rw [nI_add]
      · intro h
        exact absurd (nI_le (a := 10) (b := 10) (by omega) (by omega)) h
    | succ m ih =>
      intro i hi hno
      have hj : i < 19 := by omega
      have hcl := cmN_le I q i
      have hml := mxN_le (f := cmN I q) (b := 9) (cmN_le I q) i
      refine B.run okX7_readKeyword [(12, [0, 1, 2, 3, 4]), (62, [0, 1, 2, 3, 4, 6]), (27, [0, 1, 2, 3, 4, 5]), (39, [0, 1, 2, 3, 4, 5, 6]), (7, [0, 1, 2]), (21, [0, 1, 2, 3, 4])] 60 ?_
      constructor
      · intro h
        exact absurd h (nI_ge (a := i) (b := 10) (by omega) (by omega))
      · intro _
        refine At.taald B.1 hK.2 (x := vK 34) rfl (vp_in_nI (n := i) (by omega) (by decide)) (v := vK (5 + i)) (by rw [nI_clamp (by omega)]; rfl) (dc1L okX7_readKeyword rfl (by simp [L1])) ?_
        refine B.run okX7_readKeyword [(12, [0, 1, 2, 3, 4]), (62, [0, 1, 2, 3, 4, 6]), (27, [0, 1, 2, 3, 4, 5]), (39, [0, 1, 2, 3, 4, 5, 6]), (7, [0, 1, 2]), (21, [0, 1, 2, 3, 4])] 60 ?_
        refine At.getOFN B.1 (x := vK (5 + i)) (v := vK (15 + i)) ((sx B.1).1.2.1 i (by omega)) rfl rfl ((sx B.1).2.2.1 _ (List.mem_of_getElem? (l := nfL) (i := 1) rfl)) (dcGf okX7_readKeyword rfl) ?_
        refine At.iQ [vK (15 + i)] [] B.1 (s_p_countMatching I hI c0 q v kw rw i hj (by omega)) kX7_countMatching ln_X7_66 (B.fit (by decide) (by decide) (by decide)) (dcV okX7_readKeyword rfl) ?_
        refine B.run okX7_readKeyword [(12, [0, 1, 2, 3, 4]), (62, [0, 1, 2, 3, 4, 6]), (27, [0, 1, 2, 3, 4, 5]), (39, [0, 1, 2, 3, 4, 5, 6]), (7, [0, 1, 2]), (21, [0, 1, 2, 3, 4])] 60 ?_
        refine At.getOFN B.1 (x := vK (5 + i)) (v := vK (15 + i)) ((sx B.1).1.2.1 i (by omega)) rfl rfl ((sx B.1).2.2.1 _ (List.mem_of_getElem? (l := nfL) (i := 1) rfl)) (dcGf okX7_readKeyword rfl) ?_
        refine At.qK [] [] [vI (nI (cmN I q i))] B.1 (x := vK (15 + i)) (q := cκ γ (15 + i)) (fun _ => rfl) ((sx_str B.1 hj).1) (s_strN i hj) kJ0_length_8abf5 ln_X7_70 trivial (B.fit (by decide) (by decide) (by decide)) (dcV okX7_readKeyword rfl) ?_
        refine B.run okX7_readKeyword [(12, [0, 1, 2, 3, 4]), (62, [0, 1, 2, 3, 4, 6]), (27, [0, 1, 2, 3, 4, 5]), (39, [0, 1, 2, 3, 4, 5, 6]), (7, [0, 1, 2]), (21, [0, 1, 2, 3, 4])] 60 ?_
        constructor
        · intro h
          have h : cmN I q i = (sxB i).length := (nI_eq (by omega) (by have := sx_le9 i; omega)).mp h
          have e1 : rkI I q = i := fst_some (decide_eq_true h) hno (by omega)
          have e2 : rkQ I q = q + cmN I q i := by unfold rkQ; rw [e1, if_pos (by omega), h]
          refine ⟨trivial, ⟨by rw [e1]; show _ = Sum.inl (some (rkV i)); unfold rkV; rw [if_pos (by omega)], ?_⟩, by decide, by decide⟩
          rw [e2]
          show pgW I (c0, nI q + nI (cmN I q i), v, kw, rw) = _
          rw [nI_add]
        · intro h
          have h : rkB I q i = false := decide_eq_false fun z => h (by rw [z])
          refine B.run okX7_readKeyword [(12, [0, 1, 2, 3, 4]), (62, [0, 1, 2, 3, 4, 6]), (27, [0, 1, 2, 3, 4, 5]), (39, [0, 1, 2, 3, 4, 5, 6]), (7, [0, 1, 2]), (21, [0, 1, 2, 3, 4])] 60 ?_
          refine At.mmax B.1 kmax ln_X7_73 (fiW B (by decide) (by decide) (by decide)) (Nat.le_of_ble_eq_true rfl) (dcS okX7_readKeyword rfl) ?_
          refine B.run okX7_readKeyword [(12, [0, 1, 2, 3, 4]), (62, [0, 1, 2, 3, 4, 6]), (27, [0, 1, 2, 3, 4, 5]), (39, [0, 1, 2, 3, 4, 5, 6]), (7, [0, 1, 2]), (21, [0, 1, 2, 3, 4])] 60 ?_
          have em : (if nI (mxN (cmN I q) i) < nI (cmN I q i) then nI (cmN I q i) else nI (mxN (cmN I q) i)) = nI (mxN (cmN I q) (i + 1)) := by
            show _ = nI (if mxN (cmN I q) i < cmN I q i then cmN I q i else mxN (cmN I q) i)
            by_cases z : mxN (cmN I q) i < cmN I q i
            · rw [if_pos z, if_pos (nI_lt z (by omega))]
            · rw [if_neg z, if_neg (nI_nlt (by omega) (by omega))]
          show At γ σ 0 0 12 [(0, vR 1 0), (1, vI (if nI (mxN (cmN I q) i) < nI (cmN I q i) then nI (cmN I q i) else nI (mxN (cmN I q) i))), (2, vK 34), (3, vI (nI 10)), (4, vI (nI i + 1))] [] (pgW I (pst c0 q v kw rw))
          rw [em, nI_1]
          refine ih (i + 1) (by omega) fun k hk => ?_
          rcases Nat.lt_or_ge k i with z | z
          · exact hno k z
          · have e : k = i := by omega
            rw [e]; exact h
  refine B.run okX7_readKeyword [(12, [0, 1, 2, 3, 4]), (62, [0, 1, 2, 3, 4, 6]), (27, [0, 1, 2, 3, 4, 5]), (39, [0, 1, 2, 3, 4, 5, 6]), (7, [0, 1, 2]), (21, [0, 1, 2, 3, 4])] 60 ?_
  refine At.getZN B.1 hK.1 (v := vK 34) rfl ((sx B.1).2.2.1 _ (List.mem_of_getElem? (l := nfL) (i := 0) rfl)) (dcG okX7_readKeyword rfl) ?_
  refine B.run okX7_readKeyword [(12, [0, 1, 2, 3, 4]), (62, [0, 1, 2, 3, 4, 6]), (27, [0, 1, 2, 3, 4, 5]), (39, [0, 1, 2, 3, 4, 5, 6]), (7, [0, 1, 2]), (21, [0, 1, 2, 3, 4])] 60 ?_
  refine At.tlen B.1 hK.2 (x := vK 34) rfl (dc1L okX7_readKeyword rfl (by simp [L1])) ?_
  refine B.run okX7_readKeyword [(12, [0, 1, 2, 3, 4]), (62, [0, 1, 2, 3, 4, 6]), (27, [0, 1, 2, 3, 4, 5]), (39, [0, 1, 2, 3, 4, 5, 6]), (7, [0, 1, 2]), (21, [0, 1, 2, 3, 4])] 60 ?_
  exact loop 10 0 (by omega) (fun k hk => absurd hk (Nat.not_lt_zero _))
