/-! ===== StringBuilder.append(int): its digits ===== -/
def itL (s : Bool) (w : Nat) : Nat := match s with
  | true => sb_dg w + 1
  | false => sb_dg w
def itT (s : Bool) (w : Nat) : Nat → Nat := match s with
  | true => fun i => match i with
    | 0 => 45
    | i + 1 => sb_dec w i
  | false => sb_dec w
def itI (s : Bool) (w : Nat) : Int32 := match s with
  | true => -nI w
  | false => nI w
theorem s_size (s : Bool) (w : Nat) (hs : s = true → 0 < w) (hw : w < 1000000) : Sp 0 0 0 mJ6_stringSize_0f7a4 [vI (itI s w)] [] (PoI (nI (itL s w)) []) := by
  refine Sp.of' false (fun h => by cases h) (by decide) rfl rfl (Nat.le_of_ble_eq_true rfl) fun γ σ B => ?_
  have body : ∀ (d : Nat), d ≤ 1 → nI (itL s w) = nI (sb_dg w + d) → At γ σ 0 0 11 [(0, vI (-nI w)), (1, vI (nI d))] [] [] := by
    intro d hd he
    have fin : ∀ i : Nat, sb_dg w = i → PoI (nI (itL s w)) [] (.inl (some (vI (nI i + nI d)))) [] := fun i hi => ⟨by rw [he, hi, nI_add], rfl⟩
    have c1 : (-10 : Int32) = -nI 10 := by decide
    have c2 : (10 : Int32) * -10 = -nI 100 := by decide
    have c3 : (10 : Int32) * (10 * -10) = -nI 1000 := by decide
    have c4 : (10 : Int32) * (10 * (10 * -10)) = -nI 10000 := by decide
    have c5 : (10 : Int32) * (10 * (10 * (10 * -10))) = -nI 100000 := by decide
    have c6 : (10 : Int32) * (10 * (10 * (10 * (10 * -10)))) = -nI 1000000 := by decide
    refine B.run okJ6_stringSize_0f7a4 [] 120 ?_
    refine ⟨fun z => absurd z (by decide), fun _ => ⟨fun z => ?a1, fun z => ?b1⟩⟩
    case b1 =>
      have z : ¬ -nI w ≤ -10 := z
      rw [c1, sb_nle (by omega) (by decide)] at z
      exact ⟨fin 1 (by unfold sb_dg; rw [if_pos (by omega)]), Nat.le_refl _, Nat.le_refl _⟩
    have z : -nI w ≤ -10 := z
    rw [c1, sb_nle (by omega) (by decide)] at z
    refine ⟨fun z => absurd z (by decide), fun _ => ⟨fun z2 => ?a2, fun z2 => ?b2⟩⟩
    case b2 =>
      have z2 : ¬ -nI w ≤ 10 * -10 := z2
      rw [c2, sb_nle (by omega) (by decide)] at z2
      exact ⟨fin 2 (by unfold sb_dg; rw [if_neg (by omega), if_pos (by omega)]), Nat.le_refl _, Nat.le_refl _⟩
    have z2 : -nI w ≤ 10 * -10 := z2
    rw [c2, sb_nle (by omega) (by decide)] at z2
    refine ⟨fun z => absurd z (by decide), fun _ => ⟨fun z3 => ?a3, fun z3 => ?b3⟩⟩
    case b3 =>
      have z3 : ¬ -nI w ≤ 10 * (10 * -10) := z3
      rw [c3, sb_nle (by omega) (by decide)] at z3
      exact ⟨fin 3 (by unfold sb_dg; rw [if_neg (by omega), if_neg (by omega), if_pos (by omega)]), Nat.le_refl _, Nat.le_refl _⟩
    have z3 : -nI w ≤ 10 * (10 * -10) := z3
    rw [c3, sb_nle (by omega) (by decide)] at z3
    refine ⟨fun z => absurd z (by decide), fun _ => ⟨fun z4 => ?a4, fun z4 => ?b4⟩⟩
    case b4 =>
      have z4 : ¬ -nI w ≤ 10 * (10 * (10 * -10)) := z4
      rw [c4, sb_nle (by omega) (by decide)] at z4
      exact ⟨fin 4 (by unfold sb_dg; rw [if_neg (by omega), if_neg (by omega), if_neg (by omega), if_pos (by omega)]), Nat.le_refl _, Nat.le_refl _⟩
    have z4 : -nI w ≤ 10 * (10 * (10 * -10)) := z4
    rw [c4, sb_nle (by omega) (by decide)] at z4
    refine ⟨fun z => absurd z (by decide), fun _ => ⟨fun z5 => ?a5, fun z5 => ?b5⟩⟩
    case b5 =>
      have z5 : ¬ -nI w ≤ 10 * (10 * (10 * (10 * -10))) := z5
      rw [c5, sb_nle (by omega) (by decide)] at z5
      exact ⟨fin 5 (by unfold sb_dg; rw [if_neg (by omega), if_neg (by omega), if_neg (by omega), if_neg (by omega), if_pos (by omega)]), Nat.le_refl _, Nat.le_refl _⟩
    have z5 : -nI w ≤ 10 * (10 * (10 * (10 * -10))) := z5
    rw [c5, sb_nle (by omega) (by decide)] at z5
    refine ⟨fun z => absurd z (by decide), fun _ => ⟨fun z6 => ?_, fun z6 => ?_⟩⟩
    · have z6 : -nI w ≤ 10 * (10 * (10 * (10 * (10 * -10)))) := z6
      rw [c6, sb_nle (by omega) (by decide)] at z6
      omega
    · exact ⟨fin 6 (by unfold sb_dg; rw [if_neg (by omega), if_neg (by omega), if_neg (by omega), if_neg (by omega), if_neg (by omega), if_pos (by omega)]), Nat.le_refl _, Nat.le_refl _⟩
  cases s with
  | true =>
    refine B.run okJ6_stringSize_0f7a4 [(11, [0, 1])] 60 ?_
    refine ⟨fun _ => body 1 (Nat.le_refl _) rfl, fun z => ?_⟩
    exfalso
    have hw0 := hs rfl
    refine z (show -nI w < 0 from ?_)
    rw [Int32.lt_iff_toInt_lt, sb_negT (by omega), Int32.toInt_zero]
    omega
  | false =>
    refine B.run okJ6_stringSize_0f7a4 [(11, [0, 1])] 60 ?_
    refine ⟨fun z => absurd z (nI_pos (by omega)), fun _ => body 0 (Nat.zero_le _) rfl⟩
/-- what getChars leaves: the letters of it behind n, the rest as it was -/
def PoG (s : Bool) (w n p m : Nat) (a : Nat → Int32) : Out → AHp → Prop := fun o h => ∃ a' : Nat → Int32, o = .inl (some (vI (nI n))) ∧ h = [[.inl (.byte, m, .inl a')]] ∧ (∀ j, j < n ∨ p ≤ j → a' j = a j) ∧ (∀ i, i < itL s w → a' (n + i) = sb_b (itT s w i)) ∧ (sb_Fit a → sb_Fit a')
theorem s_getChars (s : Bool) (w n p m : Nat) (a : Nat → Int32) (hs : s = true → 0 < w) (hw : w < 2 ^ 31) (hp : p = n + itL s w) (hpm : p ≤ m) (hm : m ≤ 65536) : Sp 0 0 0 mJ6_getChars_ba4f3 [vI (itI s w), vI (nI p), vR 0 0] [[.inl (.byte, m, .inl a)]] (PoG s w n p m a) := by
  refine Sp.of' false (fun h => by cases h) (by decide) rfl rfl (Nat.le_of_ble_eq_true rfl) fun γ σ B => ?_
  have SX9 := (sx B.1).1
  have z1 := SX9.2.2.2.2.2.2.1
  have z2 := SX9.2.2.2.2.2.2.2.1
  have one : ∀ {pc : Nat} {k0 : Nat} {ls : List (Nat × AV)} {st : List AV} {h : AHp}, decode cJ6_getChars_ba4f3 pc = .ok (.baload, 1) → k0 < 100 → At γ σ 0 0 (pc + 1) ls (vI (nI (48 + k0 % 10)) :: st) h → At γ σ 0 0 pc ls (vI (nI k0) :: vK 36 :: st) h := by
    intro pc k0 ls st h d hk g
    refine At.tbald B.1 z1.2 (x := vK 36) rfl (vp_in_nI hk (by decide)) (v := vI (nI (48 + k0 % 10))) ?_ d g
    rw [nI_clamp (by omega)]
    rfl
  have ten : ∀ {pc : Nat} {k0 : Nat} {ls : List (Nat × AV)} {st : List AV} {h : AHp}, decode cJ6_getChars_ba4f3 pc = .ok (.baload, 1) → k0 < 100 → At γ σ 0 0 (pc + 1) ls (vI (nI (48 + k0 / 10)) :: st) h → At γ σ 0 0 pc ls (vI (nI k0) :: vK 37 :: st) h := by
    intro pc k0 ls st h d hk g
    refine At.tbald B.1 z2.2 (x := vK 37) rfl (vp_in_nI hk (by decide)) (v := vI (nI (48 + k0 / 10))) ?_ d g
    rw [nI_clamp (by omega)]
    rfl
  have g1 : ∀ {pc : Nat} {ls : List (Nat × AV)} {st : List AV} {h : AHp}, decode cJ6_getChars_ba4f3 pc = .ok (.getstatic 83, 3) → At γ σ 0 0 (pc + 3) ls (vK 36 :: st) h → At γ σ 0 0 pc ls st h := fun d g => At.getZ B.1 (v := vK 36) z1.1 rfl (mT 825 (by decide +kernel) rfl) d g
  have g2 : ∀ {pc : Nat} {ls : List (Nat × AV)} {st : List AV} {h : AHp}, decode cJ6_getChars_ba4f3 pc = .ok (.getstatic 87, 3) → At γ σ 0 0 (pc + 3) ls (vK 37 :: st) h → At γ σ 0 0 pc ls st h := fun d g => At.getZ B.1 (v := vK 37) z2.1 rfl (mT 827 (by decide +kernel) rfl) d g
  have loop : ∀ (n0 : Nat) (sg : Int32) (y : Int32) (f w p : Nat) (a : Nat → Int32), w < f → w < 2 ^ 31 → p = n0 + sb_dg w → p ≤ m →
      (∀ a' : Nat → Int32, (∀ j, j < n0 ∨ p ≤ j → a' j = a j) → (∀ i, i < sb_dg w → a' (p - 1 - i) = sb_b (48 + w / 10 ^ i % 10)) → (sb_Fit a → sb_Fit a') → At γ σ 0 0 104 [(2, vR 0 0), (5, vI (nI n0)), (6, vI sg)] [] [[.inl (.byte, m, .inl a')]]) →
      At γ σ 0 0 22 [(0, vI (-nI w)), (2, vR 0 0), (5, vI (nI p)), (6, vI sg)] [] [[.inl (.byte, m, .inl a)]] := by
    intro n0 sg y f
    induction f with
    | zero => intro w p a h; omega
    | succ f ih =>
      intro w p a hwf hw hp hpm hP
      have hd1 := (sb_dg_in w).1
      have e1 : -(-nI w) = nI w := Int32.neg_neg
      by_cases h100 : w < 100
      · refine B.run okJ6_getChars_ba4f3 [] 60 ?_
        refine ⟨fun _ => ?_, fun z => absurd (show -nI 100 < -nI w from (sb_nlt (by decide) hw).mpr h100) z⟩
        show At γ σ 0 0 78 [(0, vI (-nI w)), (2, vR 0 0), (5, vI (nI p + (-1))), (6, vI sg)] [vI (nI p + (-1)), vR 0 0] [[.inl (.byte, m, .inl a)]]
        rw [sb_m1 (by omega)]
        refine g1 (dcG okJ6_getChars_ba4f3 rfl) ?_
        refine B.run okJ6_getChars_ba4f3 [] 60 ?_
        show At γ σ 0 0 83 [(0, vI (-nI w)), (2, vR 0 0), (5, vI (nI (p - 1))), (6, vI sg)] [vI (-(-nI w)), vK 36, vI (nI (p - 1)), vR 0 0] [[.inl (.byte, m, .inl a)]]
        rw [e1]
        refine one (dc1L okJ6_getChars_ba4f3 rfl (by simp [L1])) h100 ?_
        refine B.run okJ6_getChars_ba4f3 [(85, [0, 2, 5, 6])] 60 ?_
        refine ⟨vp_in_nI (by omega) (by omega), ?_⟩
        rw [nI_clamp (by omega)]
        show At γ σ 0 0 85 [(0, vI (-nI w)), (2, vR 0 0), (5, vI (nI (p - 1))), (6, vI sg)] [] [[.inl (.byte, m, .inl (upd a (p - 1) (sb_b (48 + w % 10))))]]
        refine B.run okJ6_getChars_ba4f3 [(104, [2, 5, 6])] 60 ?_
        by_cases h9 : w < 10
        · have hd : sb_dg w = 1 := if_pos h9
          refine ⟨fun _ => ?_, fun z => absurd (show -nI 9 ≤ -nI w from (sb_nle (by decide) hw).mpr (by omega)) z⟩
          have := hP (upd a (p - 1) (sb_b (48 + w % 10))) (fun j hj => pk_un (by omega)) (fun i hi => by
            obtain rfl : i = 0 := by omega
            rw [Nat.sub_zero, pk_us, Nat.pow_zero, Nat.div_one]) (fun hf => sb_fitU hf (sb_fitB _))
          rw [show nI n0 = nI (p - 1) from congrArg nI (by omega)] at this
          exact this
        · have hd : sb_dg w = 2 := by rw [sb_dg, if_neg h9, if_pos h100]
          have d2 : w / 10 % 10 = w / 10 := by omega
          refine ⟨fun z => by have := (sb_nle (by decide) hw).mp (show -nI 9 ≤ -nI w from z); omega, fun _ => ?_⟩
          show At γ σ 0 0 97 [(0, vI (-nI w)), (2, vR 0 0), (5, vI (nI (p - 1) + (-1))), (6, vI sg)] [vI (nI (p - 1) + (-1)), vR 0 0] [[.inl (.byte, m, .inl (upd a (p - 1) (sb_b (48 + w % 10))))]]
          rw [sb_m1 (by omega)]
          refine g2 (dcG okJ6_getChars_ba4f3 rfl) ?_
          refine B.run okJ6_getChars_ba4f3 [] 60 ?_
          show At γ σ 0 0 102 [(0, vI (-nI w)), (2, vR 0 0), (5, vI (nI (p - 1 - 1))), (6, vI sg)] [vI (-(-nI w)), vK 37, vI (nI (p - 1 - 1)), vR 0 0] [[.inl (.byte, m, .inl (upd a (p - 1) (sb_b (48 + w % 10))))]]
          rw [e1]
          refine ten (dc1L okJ6_getChars_ba4f3 rfl (by simp [L1])) h100 ?_
          refine B.run okJ6_getChars_ba4f3 [(104, [2, 5, 6])] 60 ?_
          refine ⟨vp_in_nI (by omega) (by omega), ?_⟩
          rw [nI_clamp (by omega)]
          have := hP (upd (upd a (p - 1) (sb_b (48 + w % 10))) (p - 1 - 1) (sb_b (48 + w / 10))) (fun j hj => by rw [pk_un (by omega), pk_un (by omega)]) (fun i hi => by
            obtain rfl | rfl : i = 0 ∨ i = 1 := by omega
            · rw [Nat.sub_zero, pk_un (by omega), pk_us, Nat.pow_zero, Nat.div_one]
            · rw [pk_us, Nat.pow_one, d2]) (fun hf => sb_fitU (sb_fitU hf (sb_fitB _)) (sb_fitB _))
          rw [show nI n0 = nI (p - 1 - 1) from congrArg nI (by omega)] at this
          exact this
      · have hd := sb_dg100 (w := w) (by omega) hw
        have hd2 := (sb_dg_in (w / 100)).1
        have hr100 : w % 100 < 100 := Nat.mod_lt _ (by decide)
        refine B.run okJ6_getChars_ba4f3 [] 60 ?_
        refine ⟨fun z => absurd ((sb_nlt (by decide) hw).mp (show -nI 100 < -nI w from z)) h100, fun _ => ⟨by decide, ?_⟩⟩
        show At γ σ 0 0 49 [(0, vI (-nI w / 100)), (2, vR 0 0), (5, vI (nI p + (-1))), (6, vI sg), (3, vI (-nI w / 100)), (4, vI (-nI w / 100 * 100 - -nI w))] [vI (nI p + (-1)), vR 0 0] [[.inl (.byte, m, .inl a)]]
        rw [sb_ndiv hw, sb_nrem hw, sb_m1 (by omega)]
        refine g1 (dcG okJ6_getChars_ba4f3 rfl) ?_
        refine B.run okJ6_getChars_ba4f3 [] 60 ?_
        show At γ σ 0 0 54 [(0, vI (-nI (w / 100))), (2, vR 0 0), (5, vI (nI (p - 1))), (6, vI sg), (3, vI (-nI (w / 100))), (4, vI (nI (w % 100)))] [vI (nI (w % 100)), vK 36, vI (nI (p - 1)), vR 0 0] [[.inl (.byte, m, .inl a)]]
        refine one (dc1L okJ6_getChars_ba4f3 rfl (by simp [L1])) hr100 ?_
        refine B.run okJ6_getChars_ba4f3 [] 60 ?_
        refine ⟨vp_in_nI (by omega) (by omega), ?_⟩
        rw [nI_clamp (by omega)]
        show At γ σ 0 0 62 [(0, vI (-nI (w / 100))), (2, vR 0 0), (5, vI (nI (p - 1) + (-1))), (6, vI sg), (3, vI (-nI (w / 100))), (4, vI (nI (w % 100)))] [vI (nI (p - 1) + (-1)), vR 0 0] [[.inl (.byte, m, .inl (upd a (p - 1) (sb_b (48 + w % 100 % 10))))]]
        rw [sb_m1 (by omega)]
        refine g2 (dcG okJ6_getChars_ba4f3 rfl) ?_
        refine B.run okJ6_getChars_ba4f3 [] 60 ?_
        show At γ σ 0 0 67 [(0, vI (-nI (w / 100))), (2, vR 0 0), (5, vI (nI (p - 1 - 1))), (6, vI sg), (3, vI (-nI (w / 100))), (4, vI (nI (w % 100)))] [vI (nI (w % 100)), vK 37, vI (nI (p - 1 - 1)), vR 0 0] [[.inl (.byte, m, .inl (upd a (p - 1) (sb_b (48 + w % 100 % 10))))]]
        refine ten (dc1L okJ6_getChars_ba4f3 rfl (by simp [L1])) hr100 ?_
        refine B.run okJ6_getChars_ba4f3 [(22, [0, 2, 5, 6])] 60 ?_
        refine ⟨vp_in_nI (by omega) (by omega), ?_⟩
        rw [nI_clamp (by omega)]
        refine ih (w / 100) (p - 1 - 1) (upd (upd a (p - 1) (sb_b (48 + w % 100 % 10))) (p - 1 - 1) (sb_b (48 + w % 100 / 10))) (by omega) (by omega) (by omega) (by omega) (fun a' h1 h2 h3 => ?_)
        refine hP a' (fun j hj => by rw [h1 j (by omega), pk_un (by omega), pk_un (by omega)]) (fun i hi => ?_) (fun hf => h3 (sb_fitU (sb_fitU hf (sb_fitB _)) (sb_fitB _)))
        match i, hi with
        | 0, _ => rw [Nat.sub_zero, h1 _ (by omega), pk_un (by omega), pk_us, Nat.pow_zero, Nat.div_one, show w % 100 % 10 = w % 10 by omega]
        | 1, _ => rw [h1 _ (by omega), pk_us, Nat.pow_one, show w % 100 / 10 = w / 10 % 10 by omega]
        | k + 2, hi =>
          rw [show p - 1 - (k + 2) = p - 1 - 1 - 1 - k by omega, h2 k (by omega), Nat.div_div_eq_div_mul, show 100 * 10 ^ k = 10 ^ (k + 2) by rw [show k + 2 = k + 1 + 1 from rfl, Nat.pow_succ, Nat.pow_succ]; omega]
  cases s with
  | true =>
    have hw0 := hs rfl
    have hp : p = n + (sb_dg w + 1) := hp
    refine B.run okJ6_getChars_ba4f3 [(22, [0, 2, 5, 6])] 60 ?_
    refine ⟨fun z => ?_, fun _ => ⟨fun z => absurd z (by decide), fun _ => ?_⟩⟩
    · exfalso
      have z : (0 : Int32) ≤ -nI w := z
      rw [Int32.le_iff_toInt_le, sb_negT hw, Int32.toInt_zero] at z
      omega
    · refine loop (n + 1) 1 0 (w + 1) w p a (by omega) hw (by omega) hpm fun a' h1 h2 h3 => ?_
      refine B.run okJ6_getChars_ba4f3 [] 60 ?_
      refine ⟨fun z => absurd z (by decide), fun _ => ⟨?_, ?_⟩⟩
      · show vp_in (nI (n + 1) + (-1)) m
        rw [sb_m1 (by omega)]
        exact vp_in_nI (by omega) (by omega)
      · refine ⟨⟨upd a' n (sb_b 45), ?_, ?_, fun j hj => ?_, fun i hi => ?_, fun hf => sb_fitU (h3 hf) (sb_fitB _)⟩, Nat.le_refl _, Nat.le_refl _⟩
        · show (Sum.inl (some (vI (nI (n + 1) + (-1)))) : Out) = _
          rw [sb_m1 (by omega)]
          rfl
        · show ([[Sum.inl (FieldType.byte, m, Sum.inl (upd a' (nI (n + 1) + (-1)).toNatClampNeg (45 : Int32).toInt8.toInt32))]] : AHp) = _
          rw [sb_m1 (by omega), nI_clamp (by omega)]
          rfl
        · rw [pk_un (by omega)]
          exact h1 j (by omega)
        · match i, hi with
          | 0, _ => exact pk_us
          | k + 1, hi =>
            have hi : k + 1 < sb_dg w + 1 := hi
            rw [pk_un (by omega)]
            have := h2 (sb_dg w - 1 - k) (by omega)
            rw [show p - 1 - (sb_dg w - 1 - k) = n + (k + 1) by omega] at this
            exact this
  | false =>
    have hp : p = n + sb_dg w := hp
    refine B.run okJ6_getChars_ba4f3 [(22, [0, 2, 5, 6])] 60 ?_
    refine ⟨fun _ => ⟨fun _ => ?_, fun z => absurd rfl z⟩, fun z => absurd (nI_pos' hw) z⟩
    refine loop n 0 0 (w + 1) w p a (by omega) hw (by omega) hpm fun a' h1 h2 h3 => ?_
    refine B.run okJ6_getChars_ba4f3 [] 60 ?_
    refine ⟨fun _ => ?_, fun z => absurd rfl z⟩
    refine ⟨⟨a', rfl, rfl, h1, fun i hi => ?_, h3⟩, Nat.le_refl _, Nat.le_refl _⟩
    have hi : i < sb_dg w := hi
    have := h2 (sb_dg w - 1 - i) (by omega)
    rw [show p - 1 - (sb_dg w - 1 - i) = n + i by omega] at this
    exact this
theorem itL_in (s : Bool) (w : Nat) : 1 ≤ itL s w ∧ itL s w ≤ 11 := by
  have := sb_dg_in w
  cases s
  · exact ⟨this.1, Nat.le_succ_of_le this.2⟩
  · exact ⟨Nat.succ_le_succ (Nat.zero_le _), Nat.succ_le_succ this.2⟩
theorem itT_lt (s : Bool) (w i : Nat) : itT s w i < 256 := by
  have : ∀ v j, sb_dec v j < 256 := fun v j => by
    unfold sb_dec
    have := Nat.mod_lt (v / 10 ^ (sb_dg v - 1 - j)) (show 0 < 10 by decide)
    omega
  cases s with
  | false => exact this w i
  | true =>
    cases i with
    | zero => exact (by decide : 45 < 256)
    | succ i => exact this w i
theorem s_aI (s : Bool) (w n m mc ms : Nat) (t : Nat → Nat) (hs : s = true → 0 < w) (hw : w < 1000000) (hr : sb_Room (n + itL s w) m mc ms) : Sp 4 mc ms mJ5_append_c97b9 [vR 0 0, vI (itI s w)] [[aB n m t]] (PoQ (some (vR 0 0)) [[aB (n + itL s w) (sb_cap (n + itL s w) m) (sb_cat t n (itT s w))]]) := by
  refine Sp.of' false (fun h => by cases h) (by decide) rfl rfl (Nat.le_of_ble_eq_true rfl) fun γ σ B => ?_
  have hg := sb_cap_ge (n + itL s w) m
  have hil := itL_in s w
  refine At.opn (r := 0) (o := 0) rfl rfl rfl rfl fun σ2 ml a hs2 hL hF hnm hm => ?_
  have hq := sb_room_le hm hr
  refine B.runX okJ5_append_c97b9 [(5, [0, 1, 2])] 60 ?_
  refine At.cls (N := 1) (r := 0) (o := 0) (r2 := 1) (nn := n) (m := m) (t := t) rfl rfl hL hF hnm hm (by decide) (Nat.le_refl _) rfl hs2 rfl rfl ?_
  show At γ σ 0 0 5 [(0, vR 0 0), (1, vI (itI s w)), (2, vI (nI n))] [] [[aB n m t]]
  refine B.run okJ5_append_c97b9 [] 60 ?_
  refine At.cSI [] [vI (itI s w)] [vI (nI n)] B.1 (s_size s w hs hw) kJ6_stringSize_0f7a4 ln_J5_245 trivial (B.fit (by decide) (by omega) (by omega)) (dcS okJ5_append_c97b9 rfl) ?_
  refine B.run okJ5_append_c97b9 [] 60 ?_
  show At γ σ 0 0 14 [(0, vR 0 0), (1, vI (itI s w)), (2, vI (nI n)), (3, vI (nI n + nI (itL s w)))] [vI (nI n + nI (itL s w)), vR 0 0] [[aB n m t]]
  rw [nI_add]
  refine At.qU [0] [vI (nI (n + itL s w))] [] B.1 (c := aB n m t) (C := RJ4) (s_ens n m (n + itL s w) mc ms t hq hr) nJ5_ens im_J5_ensureCapacityInternal_d00df sm_ens (seP B.1 rfl pv_ens im_J5_ensureCapacityInternal_d00df) ln_J5_100 ⟨rfl, trivial⟩ (B.fit (by decide) (by omega) (by omega)) (dcV okJ5_append_c97b9 rfl) rfl ?_
  refine B.run okJ5_append_c97b9 [] 60 ?_
  refine At.qU [0] [] [] B.1 (c := aB n (sb_cap (n + itL s w) m) t) (C := RJ4) (s_isL n (sb_cap (n + itL s w) m) t) nJ5_isL im_J5_isLatin1_aae02 sm_isL (B.1.2.2.2.1 _ se_isL) ln_J5_83 ⟨rfl, trivial⟩ (B.fit (by decide) (by omega) (by omega)) (dcV okJ5_append_c97b9 rfl) rfl ?_
  refine B.run okJ5_append_c97b9 [(24, [0, 1, 3])] 60 ?_
  refine ⟨fun h => absurd h (by decide), fun _ => ?_⟩
  show At γ σ (0 + mc + 0) (0 + ms + 0) 24 [(0, vR 0 0), (1, vI (itI s w)), (3, vI (nI (n + itL s w)))] [] [[aB n (sb_cap (n + itL s w) m) t]]
  refine At.opn (r := 0) (o := 0) rfl rfl rfl rfl fun σ3 ml3 a3 hs3 hL3 hF3 hnm3 hm3 => ?_
  refine B.runX okJ5_append_c97b9 [] 60 ?_
  refine At.callS (P := [1]) (As := [vI (itI s w), vI (nI (n + itL s w)), vR 0 0]) (rest := []) B.1 (s_getChars s w n (n + itL s w) (sb_cap (n + itL s w) m) a3 hs (by omega) rfl (by omega) hm3) kJ6_getChars_ba4f3 ln_J5_248 rfl ⟨rfl, trivial⟩ rfl (B.fit (by decide) (by omega) (by omega)) (by decide) (dcS okJ5_append_c97b9 rfl) rfl (fun v h2 hp => ?_) (fun E h2 hp => by obtain ⟨_, z, _⟩ := hp; cases z)
  obtain ⟨a', e1, rfl, f1, f2, f3⟩ := hp
  cases e1
  refine ⟨rfl, ?_⟩
  refine B.runX okJ5_append_c97b9 [(53, [0])] 60 ?_
  refine ⟨trivial, ?_⟩
  refine At.cls (σ := σ) (N := 1) (r := 0) (o := 0) (r2 := 1) (nn := n + itL s w) (m := sb_cap (n + itL s w) m) (t := sb_cat t n (itT s w)) (ml := ml3) (x := a') rfl rfl (sb_latPut hL3 (fun j hj => f1 j (Or.inl hj)) (fun i hi => ⟨itT_lt s w i, f2 i hi⟩)) (f3 hF3) (by omega) hm3 (by decide) (Nat.le_refl _) rfl hs3 rfl rfl ?_
  refine B.run okJ5_append_c97b9 [] 60 ?_
  exact ⟨⟨rfl, rfl⟩, by omega, by omega⟩
theorem s_sI (s : Bool) (w n m mc ms : Nat) (t : Nat → Nat) (hs : s = true → 0 < w) (hw : w < 1000000) (hr : sb_Room (n + itL s w) m mc ms) : Sp 5 mc ms mJ4_append_bf812 [vR 0 0, vI (itI s w)] [[aB n m t]] (PoQ (some (vR 0 0)) [[aB (n + itL s w) (sb_cap (n + itL s w) m) (sb_cat t n (itT s w))]]) := by
  refine Sp.of' false (fun h => by cases h) (by decide) rfl rfl (Nat.le_of_ble_eq_true rfl) fun γ σ B => ?_
  refine B.run okJ4_append_bf812 [] 60 ?_
  refine At.qP [0] [vI (itI s w)] [] B.1 (c := aB n m t) (ci := 1) (C := RJ4) rfl (s_aI s w n m mc ms t hs hw hr) nJ5_apI im_J5_append_c97b9 sm_apI su_J4 (by decide) ln_J4_53 ⟨rfl, trivial⟩ (B.fit (by decide) (by omega) (by omega)) (dcI okJ4_append_bf812 rfl) rfl ?_
  refine B.run okJ4_append_bf812 [] 60 ?_
  exact ⟨⟨rfl, rfl⟩, by omega, by omega⟩
