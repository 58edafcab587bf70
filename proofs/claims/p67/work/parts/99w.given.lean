/-! ===== what is given of the statics, out of the statement (positions by program) ===== -/
def NLs : List Cond := flatC (Jvm.Cond.and given_1 narrow_1)
section GIV
variable {s : State} {args : Array Value}
theorem nw (hgv : (Jvm.Cond.and given_1 narrow_1).before args s = true) {w : Cond} (i : Nat) (h : NLs[i]? = some w) : w.before args s = true := flat_of_before _ hgv _ (List.mem_of_getElem? h)
theorem nwp (hgv : (Jvm.Cond.and given_1 narrow_1).before args s = true) {N : Nat} {f : Nat → Cond} (P : List Nat) (h : ∀ i, i < N → NLs[P.getD i 0]? = some (f i)) (i : Nat) (hi : i < N) : (f i).before args s = true := flat_of_before _ hgv _ (List.mem_of_getElem? (h i hi))
theorem nwr (hgv : (Jvm.Cond.and given_1 narrow_1).before args s = true) {N p : Nat} {f : Nat → Cond} (h : (List.range N).map f = (NLs.drop p).take N) (j : Nat) (hj : j < N) : (f j).before args s = true := flat_of_before _ hgv _ (va_run h j hj)
theorem tbw (hts : ∀ w ∈ lw_tbl, w.before args s = true) {w : Cond} (i : Nat) (h : tables_1[i]? = some w) : w.before args s = true := hts _ (List.mem_append_right _ (List.mem_of_getElem? h))
theorem tbp (hts : ∀ w ∈ lw_tbl, w.before args s = true) {N : Nat} {f : Nat → Cond} (P : List Nat) (h : ∀ i, i < N → tables_1[P.getD i 0]? = some (f i)) (i : Nat) (hi : i < N) : (f i).before args s = true := hts _ (List.mem_append_right _ (List.mem_of_getElem? (h i hi)))
/-- a field of an object that a term names -/
theorem fld_of {t : Term} {a : Nat} {o n d : String} {v : Value} {A : Nat → Prop} (ht : t.eval args s none [] s = some (.ref a)) (hv : (Term.field t o n d).eval args s none [] s = some v) (hA : ∀ a : Nat, a < s.heap.size → ¬ A a) : va_OF o n d v a A s s.heap := by
  cases hfo : s.fieldFound? o n d with
  | none =>
    rw [va_fe ht] at hv
    simp [State.fieldOf?, State.fieldNamed?, hfo] at hv
  | some x =>
    obtain ⟨cf, k, fi, f⟩ := x
    obtain ⟨g1, cell, g2, g3, -, -, g6⟩ := Term.field_spec hfo ht hv
    exact ⟨cf, k, fi, f, cell, hfo, g1, g2, g3, g6, hA _ (Array.getElem?_eq_some_iff.mp g2).1⟩
theorem ref_of {t : Term} {nm : String} (h : (Cond.exactly t nm).before args s = true) : ∃ a, t.eval args s none [] s = some (.ref a) := by
  obtain ⟨a, c, cell, k, q1, -⟩ := Cond.exactly_spec h
  exact ⟨a, q1⟩
abbrev tS (C : String) (e : Nat) : Term := .string C e
abbrev tV (C : String) (e : Nat) : Term := .field (.string C e) "java/lang/String" "value" "[B"
theorem str_of {C : String} {e : Nat} {tx : List Nat} {A : Nat → Prop} (hA : ∀ a : Nat, a < s.heap.size → ¬ A a) (hn : tx.length < 2 ^ 31) (h1 : (Cond.exactly (tS C e) "java/lang/String").before args s = true) (h2 : (Cond.eq (.field (tS C e) "java/lang/String" "coder" "B") (.int 0)).before args s = true)
    (h3 : (Cond.arrayOf (tV C e) .byte).before args s = true) (h4 : (Cond.eq (.length (tV C e)) (.int (Int32.ofNat tx.length))).before args s = true) (h5 : ∀ j, j < tx.length → (Cond.eq (.elem (tV C e) (.int (Int32.ofNat j))) (.int (nI (tx.getD j 0)))).before args s = true) :
    ∃ p : Nat × Nat, (tS C e).eval args s none [] s = some (.ref p.1) ∧ strAt tx p.1 p.2 A s s.heap := by
  obtain ⟨a, ha⟩ := ref_of h1
  obtain ⟨b, hb, hT⟩ := va_Tof (N := tx.length) (f := fun j => .int (nI (tx.getD j 0))) hn h3 (va_eqt h4) (fun j hj => va_eqt (h5 j hj)) hA
  exact ⟨(a, b), ha, va_Oof h1 ha hA, fld_of ha (va_eqt h2) hA, fld_of ha hb hA, hT⟩
end GIV
/-- the constants' places -/
def kap (fa ka : Nat → Nat) (sp : Nat → Nat × Nat) (t4 t6 t7 : Nat) : Nat → Nat := fun i => if i < 5 then fa i else if i < 15 then ka (i - 5) else if i < 34 then (sp (i - 15)).1 else if i = 60 then t4 else if i = 36 then t6 else if i = 37 then t7 else (sp (i - 40)).2
section KAP
variable {fa ka : Nat → Nat} {sp : Nat → Nat × Nat} {t4 t6 t7 : Nat}
theorem kap_f {i : Nat} (h : i < 5) : kap fa ka sp t4 t6 t7 i = fa i := if_pos h
theorem kap_k {i : Nat} (h : i < 10) : kap fa ka sp t4 t6 t7 (5 + i) = ka i := by
  unfold kap
  rw [if_neg (by omega), if_pos (by omega)]
  exact congrArg ka (by omega)
theorem kap_s {j : Nat} (h : j < 19) : kap fa ka sp t4 t6 t7 (15 + j) = (sp j).1 := by
  unfold kap
  rw [if_neg (by omega), if_neg (by omega), if_pos (by omega)]
  exact congrArg (fun z => (sp z).1) (by omega)
theorem kap_b {j : Nat} (h : j < 19) : kap fa ka sp t4 t6 t7 (40 + j) = (sp j).2 := by
  unfold kap
  rw [if_neg (by omega), if_neg (by omega), if_neg (by omega), if_neg (by omega), if_neg (by omega), if_neg (by omega)]
  exact congrArg (fun z => (sp z).2) (by omega)
end KAP
theorem En_cg {E d : String} {nm : List String} {F : List (String × String × String × List Int32)} {ad ad2 : Nat → Nat} {A : Nat → Prop} {U : State} {H : Heap} (h : va_En E d nm F ad A U H) (e : ∀ i, i < nm.length → ad2 i = ad i) : va_En E d nm F ad2 A U H :=
  ⟨fun i hi => by rw [e i hi]; exact h.1 i hi, fun i j hi hj q => h.2 i j hi hj (by rw [← e i hi, ← e j hj]; exact q)⟩
def SEc : Nat → String := fun j => if j < 16 then RL else RX10
def SEe : Nat → Nat := fun j => [175, 204, 209, 218, 220, 225, 227, 229, 231, 242, 175, 175, 175, 175, 175, 175, 341, 346, 351].getD j 0
theorem str_0 {s : State} {args : Array Value} {A : Nat → Prop} (hgv : (Jvm.Cond.and given_1 narrow_1).before args s = true) (hA : ∀ a : Nat, a < s.heap.size → ¬ A a) : ∃ p : Nat × Nat, (tS (SEc 0) (SEe 0)).eval args s none [] s = some (.ref p.1) ∧ strAt (sxB 0) p.1 p.2 A s s.heap :=
  str_of hA (by decide) (nw hgv 905 (by decide +kernel)) (nw hgv 906 (by decide +kernel)) (nw hgv 907 (by decide +kernel)) (nw hgv 908 (by decide +kernel)) (nwr hgv (p := 0) (by decide +kernel))
theorem str_1 {s : State} {args : Array Value} {A : Nat → Prop} (hgv : (Jvm.Cond.and given_1 narrow_1).before args s = true) (hA : ∀ a : Nat, a < s.heap.size → ¬ A a) : ∃ p : Nat × Nat, (tS (SEc 1) (SEe 1)).eval args s none [] s = some (.ref p.1) ∧ strAt (sxB 1) p.1 p.2 A s s.heap :=
  str_of hA (by decide) (nw hgv 909 (by decide +kernel)) (nw hgv 910 (by decide +kernel)) (nw hgv 911 (by decide +kernel)) (nw hgv 912 (by decide +kernel)) (nwr hgv (p := 913) (by decide +kernel))
theorem str_2 {s : State} {args : Array Value} {A : Nat → Prop} (hgv : (Jvm.Cond.and given_1 narrow_1).before args s = true) (hA : ∀ a : Nat, a < s.heap.size → ¬ A a) : ∃ p : Nat × Nat, (tS (SEc 2) (SEe 2)).eval args s none [] s = some (.ref p.1) ∧ strAt (sxB 2) p.1 p.2 A s s.heap :=
  str_of hA (by decide) (nw hgv 914 (by decide +kernel)) (nw hgv 915 (by decide +kernel)) (nw hgv 916 (by decide +kernel)) (nw hgv 917 (by decide +kernel)) (nwr hgv (p := 918) (by decide +kernel))
theorem str_3 {s : State} {args : Array Value} {A : Nat → Prop} (hgv : (Jvm.Cond.and given_1 narrow_1).before args s = true) (hA : ∀ a : Nat, a < s.heap.size → ¬ A a) : ∃ p : Nat × Nat, (tS (SEc 3) (SEe 3)).eval args s none [] s = some (.ref p.1) ∧ strAt (sxB 3) p.1 p.2 A s s.heap :=
  str_of hA (by decide) (nw hgv 919 (by decide +kernel)) (nw hgv 920 (by decide +kernel)) (nw hgv 921 (by decide +kernel)) (nw hgv 922 (by decide +kernel)) (nwr hgv (p := 923) (by decide +kernel))
theorem str_4 {s : State} {args : Array Value} {A : Nat → Prop} (hgv : (Jvm.Cond.and given_1 narrow_1).before args s = true) (hA : ∀ a : Nat, a < s.heap.size → ¬ A a) : ∃ p : Nat × Nat, (tS (SEc 4) (SEe 4)).eval args s none [] s = some (.ref p.1) ∧ strAt (sxB 4) p.1 p.2 A s s.heap :=
  str_of hA (by decide) (nw hgv 924 (by decide +kernel)) (nw hgv 925 (by decide +kernel)) (nw hgv 926 (by decide +kernel)) (nw hgv 927 (by decide +kernel)) (nwr hgv (p := 928) (by decide +kernel))
theorem str_5 {s : State} {args : Array Value} {A : Nat → Prop} (hgv : (Jvm.Cond.and given_1 narrow_1).before args s = true) (hA : ∀ a : Nat, a < s.heap.size → ¬ A a) : ∃ p : Nat × Nat, (tS (SEc 5) (SEe 5)).eval args s none [] s = some (.ref p.1) ∧ strAt (sxB 5) p.1 p.2 A s s.heap :=
  str_of hA (by decide) (nw hgv 931 (by decide +kernel)) (nw hgv 932 (by decide +kernel)) (nw hgv 933 (by decide +kernel)) (nw hgv 934 (by decide +kernel)) (nwr hgv (p := 935) (by decide +kernel))
theorem str_6 {s : State} {args : Array Value} {A : Nat → Prop} (hgv : (Jvm.Cond.and given_1 narrow_1).before args s = true) (hA : ∀ a : Nat, a < s.heap.size → ¬ A a) : ∃ p : Nat × Nat, (tS (SEc 6) (SEe 6)).eval args s none [] s = some (.ref p.1) ∧ strAt (sxB 6) p.1 p.2 A s s.heap :=
  str_of hA (by decide) (nw hgv 936 (by decide +kernel)) (nw hgv 937 (by decide +kernel)) (nw hgv 938 (by decide +kernel)) (nw hgv 939 (by decide +kernel)) (nwr hgv (p := 940) (by decide +kernel))
theorem str_7 {s : State} {args : Array Value} {A : Nat → Prop} (hgv : (Jvm.Cond.and given_1 narrow_1).before args s = true) (hA : ∀ a : Nat, a < s.heap.size → ¬ A a) : ∃ p : Nat × Nat, (tS (SEc 7) (SEe 7)).eval args s none [] s = some (.ref p.1) ∧ strAt (sxB 7) p.1 p.2 A s s.heap :=
  str_of hA (by decide) (nw hgv 941 (by decide +kernel)) (nw hgv 942 (by decide +kernel)) (nw hgv 943 (by decide +kernel)) (nw hgv 944 (by decide +kernel)) (nwr hgv (p := 945) (by decide +kernel))
theorem str_8 {s : State} {args : Array Value} {A : Nat → Prop} (hgv : (Jvm.Cond.and given_1 narrow_1).before args s = true) (hA : ∀ a : Nat, a < s.heap.size → ¬ A a) : ∃ p : Nat × Nat, (tS (SEc 8) (SEe 8)).eval args s none [] s = some (.ref p.1) ∧ strAt (sxB 8) p.1 p.2 A s s.heap :=
  str_of hA (by decide) (nw hgv 948 (by decide +kernel)) (nw hgv 949 (by decide +kernel)) (nw hgv 950 (by decide +kernel)) (nw hgv 951 (by decide +kernel)) (nwr hgv (p := 952) (by decide +kernel))
theorem str_9 {s : State} {args : Array Value} {A : Nat → Prop} (hgv : (Jvm.Cond.and given_1 narrow_1).before args s = true) (hA : ∀ a : Nat, a < s.heap.size → ¬ A a) : ∃ p : Nat × Nat, (tS (SEc 9) (SEe 9)).eval args s none [] s = some (.ref p.1) ∧ strAt (sxB 9) p.1 p.2 A s s.heap :=
  str_of hA (by decide) (nw hgv 955 (by decide +kernel)) (nw hgv 956 (by decide +kernel)) (nw hgv 957 (by decide +kernel)) (nw hgv 958 (by decide +kernel)) (nwr hgv (p := 959) (by decide +kernel))
theorem str_10 {s : State} {args : Array Value} {A : Nat → Prop} (hgv : (Jvm.Cond.and given_1 narrow_1).before args s = true) (hA : ∀ a : Nat, a < s.heap.size → ¬ A a) : ∃ p : Nat × Nat, (tS (SEc 10) (SEe 10)).eval args s none [] s = some (.ref p.1) ∧ strAt (sxB 10) p.1 p.2 A s s.heap :=
  str_of hA (by decide) (nw hgv 905 (by decide +kernel)) (nw hgv 906 (by decide +kernel)) (nw hgv 907 (by decide +kernel)) (nw hgv 908 (by decide +kernel)) (nwr hgv (p := 0) (by decide +kernel))
theorem str_11 {s : State} {args : Array Value} {A : Nat → Prop} (hgv : (Jvm.Cond.and given_1 narrow_1).before args s = true) (hA : ∀ a : Nat, a < s.heap.size → ¬ A a) : ∃ p : Nat × Nat, (tS (SEc 11) (SEe 11)).eval args s none [] s = some (.ref p.1) ∧ strAt (sxB 11) p.1 p.2 A s s.heap :=
  str_of hA (by decide) (nw hgv 905 (by decide +kernel)) (nw hgv 906 (by decide +kernel)) (nw hgv 907 (by decide +kernel)) (nw hgv 908 (by decide +kernel)) (nwr hgv (p := 0) (by decide +kernel))
theorem str_12 {s : State} {args : Array Value} {A : Nat → Prop} (hgv : (Jvm.Cond.and given_1 narrow_1).before args s = true) (hA : ∀ a : Nat, a < s.heap.size → ¬ A a) : ∃ p : Nat × Nat, (tS (SEc 12) (SEe 12)).eval args s none [] s = some (.ref p.1) ∧ strAt (sxB 12) p.1 p.2 A s s.heap :=
  str_of hA (by decide) (nw hgv 905 (by decide +kernel)) (nw hgv 906 (by decide +kernel)) (nw hgv 907 (by decide +kernel)) (nw hgv 908 (by decide +kernel)) (nwr hgv (p := 0) (by decide +kernel))
theorem str_13 {s : State} {args : Array Value} {A : Nat → Prop} (hgv : (Jvm.Cond.and given_1 narrow_1).before args s = true) (hA : ∀ a : Nat, a < s.heap.size → ¬ A a) : ∃ p : Nat × Nat, (tS (SEc 13) (SEe 13)).eval args s none [] s = some (.ref p.1) ∧ strAt (sxB 13) p.1 p.2 A s s.heap :=
  str_of hA (by decide) (nw hgv 905 (by decide +kernel)) (nw hgv 906 (by decide +kernel)) (nw hgv 907 (by decide +kernel)) (nw hgv 908 (by decide +kernel)) (nwr hgv (p := 0) (by decide +kernel))
theorem str_14 {s : State} {args : Array Value} {A : Nat → Prop} (hgv : (Jvm.Cond.and given_1 narrow_1).before args s = true) (hA : ∀ a : Nat, a < s.heap.size → ¬ A a) : ∃ p : Nat × Nat, (tS (SEc 14) (SEe 14)).eval args s none [] s = some (.ref p.1) ∧ strAt (sxB 14) p.1 p.2 A s s.heap :=
  str_of hA (by decide) (nw hgv 905 (by decide +kernel)) (nw hgv 906 (by decide +kernel)) (nw hgv 907 (by decide +kernel)) (nw hgv 908 (by decide +kernel)) (nwr hgv (p := 0) (by decide +kernel))
theorem str_15 {s : State} {args : Array Value} {A : Nat → Prop} (hgv : (Jvm.Cond.and given_1 narrow_1).before args s = true) (hA : ∀ a : Nat, a < s.heap.size → ¬ A a) : ∃ p : Nat × Nat, (tS (SEc 15) (SEe 15)).eval args s none [] s = some (.ref p.1) ∧ strAt (sxB 15) p.1 p.2 A s s.heap :=
  str_of hA (by decide) (nw hgv 905 (by decide +kernel)) (nw hgv 906 (by decide +kernel)) (nw hgv 907 (by decide +kernel)) (nw hgv 908 (by decide +kernel)) (nwr hgv (p := 0) (by decide +kernel))
theorem str_16 {s : State} {args : Array Value} {A : Nat → Prop} (hgv : (Jvm.Cond.and given_1 narrow_1).before args s = true) (hA : ∀ a : Nat, a < s.heap.size → ¬ A a) : ∃ p : Nat × Nat, (tS (SEc 16) (SEe 16)).eval args s none [] s = some (.ref p.1) ∧ strAt (sxB 16) p.1 p.2 A s s.heap :=
  str_of hA (by decide) (nw hgv 550 (by decide +kernel)) (nw hgv 551 (by decide +kernel)) (nw hgv 552 (by decide +kernel)) (nw hgv 553 (by decide +kernel)) (nwr hgv (p := 554) (by decide +kernel))
theorem str_17 {s : State} {args : Array Value} {A : Nat → Prop} (hgv : (Jvm.Cond.and given_1 narrow_1).before args s = true) (hA : ∀ a : Nat, a < s.heap.size → ¬ A a) : ∃ p : Nat × Nat, (tS (SEc 17) (SEe 17)).eval args s none [] s = some (.ref p.1) ∧ strAt (sxB 17) p.1 p.2 A s s.heap :=
  str_of hA (by decide) (nw hgv 556 (by decide +kernel)) (nw hgv 557 (by decide +kernel)) (nw hgv 558 (by decide +kernel)) (nw hgv 559 (by decide +kernel)) (nwr hgv (p := 560) (by decide +kernel))
theorem str_18 {s : State} {args : Array Value} {A : Nat → Prop} (hgv : (Jvm.Cond.and given_1 narrow_1).before args s = true) (hA : ∀ a : Nat, a < s.heap.size → ¬ A a) : ∃ p : Nat × Nat, (tS (SEc 18) (SEe 18)).eval args s none [] s = some (.ref p.1) ∧ strAt (sxB 18) p.1 p.2 A s s.heap :=
  str_of hA (by decide) (nw hgv 562 (by decide +kernel)) (nw hgv 563 (by decide +kernel)) (nw hgv 564 (by decide +kernel)) (nw hgv 565 (by decide +kernel)) (nwr hgv (p := 566) (by decide +kernel))
theorem all19 {P : Nat → Prop} (h0 : P 0) (h1 : P 1) (h2 : P 2) (h3 : P 3) (h4 : P 4) (h5 : P 5) (h6 : P 6) (h7 : P 7) (h8 : P 8) (h9 : P 9) (h10 : P 10) (h11 : P 11) (h12 : P 12) (h13 : P 13) (h14 : P 14) (h15 : P 15) (h16 : P 16) (h17 : P 17) (h18 : P 18) : ∀ j, j < 19 → P j := fun j hj => match j, hj with
  | 0, _ => h0
  | 1, _ => h1
  | 2, _ => h2
  | 3, _ => h3
  | 4, _ => h4
  | 5, _ => h5
  | 6, _ => h6
  | 7, _ => h7
  | 8, _ => h8
  | 9, _ => h9
  | 10, _ => h10
  | 11, _ => h11
  | 12, _ => h12
  | 13, _ => h13
  | 14, _ => h14
  | 15, _ => h15
  | 16, _ => h16
  | 17, _ => h17
  | 18, _ => h18
  | k + 19, hj => absurd hj (by omega)
theorem strs_of {s : State} {args : Array Value} {A : Nat → Prop} (hgv : (Jvm.Cond.and given_1 narrow_1).before args s = true) (hA : ∀ a : Nat, a < s.heap.size → ¬ A a) : ∃ sp : Nat → Nat × Nat, ∀ j, j < 19 → (tS (SEc j) (SEe j)).eval args s none [] s = some (.ref (sp j).1) ∧ strAt (sxB j) (sp j).1 (sp j).2 A s s.heap := by
  have h0 : ∀ j : Nat, ∃ p : Nat × Nat, j < 19 → (tS (SEc j) (SEe j)).eval args s none [] s = some (.ref p.1) ∧ strAt (sxB j) p.1 p.2 A s s.heap := by
    intro j
    by_cases hj : j < 19
    · obtain ⟨p, hp⟩ := all19 (P := fun j => ∃ p : Nat × Nat, (tS (SEc j) (SEe j)).eval args s none [] s = some (.ref p.1) ∧ strAt (sxB j) p.1 p.2 A s s.heap) (str_0 hgv hA) (str_1 hgv hA) (str_2 hgv hA) (str_3 hgv hA) (str_4 hgv hA) (str_5 hgv hA) (str_6 hgv hA) (str_7 hgv hA) (str_8 hgv hA) (str_9 hgv hA) (str_10 hgv hA) (str_11 hgv hA) (str_12 hgv hA) (str_13 hgv hA) (str_14 hgv hA) (str_15 hgv hA) (str_16 hgv hA) (str_17 hgv hA) (str_18 hgv hA) j hj
      exact ⟨p, fun _ => hp⟩
    · exact ⟨(0, 0), fun h => absurd h hj⟩
  exact Classical.axiomOfChoice h0
def faNm : List String := ["NONE", "NO_INDEX", "BAD_ARGUMENT", "BAD_STATE", "NO_ELEMENT"]
def pr_fa : List (List Nat) := [[0, 229, 225, 234, 240], [229, 0, 230, 236, 242], [225, 230, 0, 235, 241], [234, 236, 235, 0, 243], [240, 242, 241, 243, 0]]
theorem ls_fa : ∀ i, i < 5 → tables_1[[1063, 1070, 1065, 1075, 1093].getD i 0]? = some (Cond.laysStatic RX3 (faNm.getD i "") "LBallastControl$Fault;") := by decide +kernel
theorem ex_fa : ∀ i, i < 5 → NLs[[219, 226, 222, 231, 237].getD i 0]? = some (Cond.exactly (.static RX3 (faNm.getD i "") "LBallastControl$Fault;") RX3) := by decide +kernel
theorem ne_fa : ∀ i, i < 5 → ∀ j, j < 5 → i ≠ j → NLs[(pr_fa.getD i []).getD j 0]? = some (Cond.not (.eq (.static RX3 (faNm.getD i "") "LBallastControl$Fault;") (.static RX3 (faNm.getD j "") "LBallastControl$Fault;"))) ∨ NLs[(pr_fa.getD i []).getD j 0]? = some (Cond.not (.eq (.static RX3 (faNm.getD j "") "LBallastControl$Fault;") (.static RX3 (faNm.getD i "") "LBallastControl$Fault;"))) := by decide +kernel
def pr_kw : List (List Nat) := [[0]]
theorem ls_kw : ∀ i, i < 1 → tables_1[[272].getD i 0]? = some (Cond.laysStatic RX6 (kwNm.getD i "") "LBallastControl$Keyword;") := by decide +kernel
theorem ex_kw : ∀ i, i < 1 → NLs[[5].getD i 0]? = some (Cond.exactly (.static RX6 (kwNm.getD i "") "LBallastControl$Keyword;") RX6) := by decide +kernel
theorem ne_kw : ∀ i, i < 1 → ∀ j, j < 1 → i ≠ j → NLs[(pr_kw.getD i []).getD j 0]? = some (Cond.not (.eq (.static RX6 (kwNm.getD i "") "LBallastControl$Keyword;") (.static RX6 (kwNm.getD j "") "LBallastControl$Keyword;"))) ∨ NLs[(pr_kw.getD i []).getD j 0]? = some (Cond.not (.eq (.static RX6 (kwNm.getD j "") "LBallastControl$Keyword;") (.static RX6 (kwNm.getD i "") "LBallastControl$Keyword;"))) := by decide +kernel
theorem or_kw : ∀ i, i < 1 → NLs[[6].getD i 0]? = some (Cond.eq (.field (.static RX6 (kwNm.getD i "") "LBallastControl$Keyword;") "java/lang/Enum" "ordinal" "I") (.int (([0] : List Int32).getD i 0))) := by decide +kernel
theorem el_O : (List.range 100).map (fun j => Cond.eq (.elem (.static RJ6 "DigitOnes" "[B") (.int (Int32.ofNat j))) (.int (nI (48 + j % 10)))) = (NLs.drop 16).take 100 := by decide +kernel
theorem el_T : (List.range 100).map (fun j => Cond.eq (.elem (.static RJ6 "DigitTens" "[B") (.int (Int32.ofNat j))) (.int (nI (48 + j / 10)))) = (NLs.drop 119).take 100 := by decide +kernel
theorem ex_t : ∀ q ∈ exL, ∃ i j : Nat, tables_1[i]? = some (Cond.stringRef q.1 q.2.1 q.2.2) ∧ NLs[j]? = some (Cond.exactly (.string q.1 q.2.1) "java/lang/String") := by
  unfold exL
  exact List.forall_mem_cons.mpr ⟨⟨1337, 813, by decide +kernel, by decide +kernel⟩, List.forall_mem_cons.mpr ⟨⟨1356, 853, by decide +kernel, by decide +kernel⟩, List.forall_mem_cons.mpr ⟨⟨474, 375, by decide +kernel, by decide +kernel⟩, List.forall_mem_cons.mpr ⟨⟨1031, 568, by decide +kernel, by decide +kernel⟩, List.forall_mem_cons.mpr ⟨⟨489, 391, by decide +kernel, by decide +kernel⟩, List.forall_mem_cons.mpr ⟨⟨1043, 582, by decide +kernel, by decide +kernel⟩, List.forall_mem_cons.mpr ⟨⟨1122, 675, by decide +kernel, by decide +kernel⟩, List.forall_mem_cons.mpr ⟨⟨1155, 737, by decide +kernel, by decide +kernel⟩, List.forall_mem_cons.mpr ⟨⟨1203, 771, by decide +kernel, by decide +kernel⟩, List.forall_mem_cons.mpr ⟨⟨1399, 875, by decide +kernel, by decide +kernel⟩, List.forall_mem_cons.mpr ⟨⟨389, 352, by decide +kernel, by decide +kernel⟩, List.forall_mem_cons.mpr ⟨⟨1072, 603, by decide +kernel, by decide +kernel⟩, List.forall_mem_cons.mpr ⟨⟨1085, 628, by decide +kernel, by decide +kernel⟩, List.forall_mem_cons.mpr ⟨⟨502, 411, by decide +kernel, by decide +kernel⟩, List.forall_mem_cons.mpr ⟨⟨609, 428, by decide +kernel, by decide +kernel⟩, List.forall_mem_cons.mpr ⟨⟨1216, 796, by decide +kernel, by decide +kernel⟩, List.forall_mem_cons.mpr ⟨⟨1094, 648, by decide +kernel, by decide +kernel⟩, List.forall_mem_cons.mpr ⟨⟨1140, 712, by decide +kernel, by decide +kernel⟩, fun _ z => absurd z List.not_mem_nil⟩⟩⟩⟩⟩⟩⟩⟩⟩⟩⟩⟩⟩⟩⟩⟩⟩⟩
theorem nw_m : ∀ q ∈ NWm, ∃ i : Nat, tables_1[i]? = some (Cond.methodLinkNest q.1 q.2.1 q.2.2 RX10) := by
  unfold NWm
  exact List.forall_mem_cons.mpr ⟨⟨44, by decide +kernel⟩, List.forall_mem_cons.mpr ⟨⟨50, by decide +kernel⟩, List.forall_mem_cons.mpr ⟨⟨92, by decide +kernel⟩, List.forall_mem_cons.mpr ⟨⟨125, by decide +kernel⟩, List.forall_mem_cons.mpr ⟨⟨191, by decide +kernel⟩, List.forall_mem_cons.mpr ⟨⟨205, by decide +kernel⟩, List.forall_mem_cons.mpr ⟨⟨568, by decide +kernel⟩, List.forall_mem_cons.mpr ⟨⟨1232, by decide +kernel⟩, fun _ z => absurd z List.not_mem_nil⟩⟩⟩⟩⟩⟩⟩⟩
theorem nc_m : ∀ q ∈ ncL, ∃ i : Nat, NLs[i]? = some (Cond.not (.castable q.1 q.2)) := by
  unfold ncL
  exact List.forall_mem_cons.mpr ⟨⟨275, by decide +kernel⟩, List.forall_mem_cons.mpr ⟨⟨291, by decide +kernel⟩, List.forall_mem_cons.mpr ⟨⟨290, by decide +kernel⟩, List.forall_mem_cons.mpr ⟨⟨273, by decide +kernel⟩, List.forall_mem_cons.mpr ⟨⟨274, by decide +kernel⟩, List.forall_mem_cons.mpr ⟨⟨255, by decide +kernel⟩, List.forall_mem_cons.mpr ⟨⟨257, by decide +kernel⟩, fun _ z => absurd z List.not_mem_nil⟩⟩⟩⟩⟩⟩⟩
