/-! ===== what is given of the statics, out of the statement (positions by program) ===== -/
def NLs : List Cond := flatC (Jvm.Cond.and given_1 narrow_1)
section GIV
variable {s : State} {args : Array Value}
theorem nw (hgv : (Jvm.Cond.and given_1 narrow_1).before args s = true) {w : Cond} (i : Nat) (h : NLs[i]? = some w) : w.before args s = true := flat_of_before _ hgv _ (List.mem_of_getElem? h)
theorem nwp (hgv : (Jvm.Cond.and given_1 narrow_1).before args s = true) {N : Nat} {f : Nat → Cond} (P : List Nat) (h : ∀ i, i < N → NLs[P.getD i 0]? = some (f i)) (i : Nat) (hi : i < N) : (f i).before args s = true := flat_of_before _ hgv _ (List.mem_of_getElem? (h i hi))
theorem nwr (hgv : (Jvm.Cond.and given_1 narrow_1).before args s = true) {N p : Nat} {f : Nat → Cond} (h : (List.range N).map f = (NLs.drop p).take N) (j : Nat) (hj : j < N) : (f j).before args s = true := flat_of_before _ hgv _ (va_run h j hj)
theorem tbw (hts : ∀ w ∈ lw_tbl, w.before args s = true) {w : Cond} (i : Nat) (h : tables_1[i]? = some w) : w.before args s = true := hts _ (List.mem_append_right _ (List.mem_of_getElem? h))
theorem tbp (hts : ∀ w ∈ lw_tbl, w.before args s = true) {N : Nat} {f : Nat → Cond} (P : List Nat) (h : ∀ i, i < N → tables_1[P.getD i 0]? = some (f i)) (i : Nat) (hi : i < N) : (f i).before args s = true := hts _ (List.mem_append_right _ (List.mem_of_getElem? (h i hi)))
/-- a field of an object that a term names -/
theorem fld_of {t : Term} {a : Nat} {o n d : String} {v : Value} {A : Nat → Prop} (ht : t.eval args s none [] s = some (.ref a)) (hv : (Term.field t o n d).eval args s none [] s = some v) (hA : ∀ a : Nat, a < s.heap.size → ¬ A a) : va_OF o n d v a A s s.heap := by
  cases hfo : s.fieldFound? o n d with
  | none =>
    rw [va_fe ht] at hv
    simp [State.fieldOf?, State.fieldNamed?, hfo] at hv
  | some x =>
    obtain ⟨cf, k, fi, f⟩ := x
    obtain ⟨g1, cell, g2, g3, -, -, g6⟩ := Term.field_spec hfo ht hv
    exact ⟨cf, k, fi, f, cell, hfo, g1, g2, g3, g6, hA _ (Array.getElem?_eq_some_iff.mp g2).1⟩
theorem ref_of {t : Term} {nm : String} (h : (Cond.exactly t nm).before args s = true) : ∃ a, t.eval args s none [] s = some (.ref a) := by
  obtain ⟨a, c, cell, k, q1, -⟩ := Cond.exactly_spec h
  exact ⟨a, q1⟩
abbrev tS (C : String) (e : Nat) : Term := .string C e
abbrev tV (C : String) (e : Nat) : Term := .field (.string C e) "java/lang/String" "value" "[B"
theorem str_of {C : String} {e : Nat} {tx : List Nat} {A : Nat → Prop} (hA : ∀ a : Nat, a < s.heap.size → ¬ A a) (hn : tx.length < 2 ^ 31) (h1 : (Cond.exactly (tS C e) "java/lang/String").before args s = true) (h2 : (Cond.eq (.field (tS C e) "java/lang/String" "coder" "B") (.int 0)).before args s = true)
    (h3 : (Cond.arrayOf (tV C e) .byte).before args s = true) (h4 : (Cond.eq (.length (tV C e)) (.int (Int32.ofNat tx.length))).before args s = true) (h5 : ∀ j, j < tx.length → (Cond.eq (.elem (tV C e) (.int (Int32.ofNat j))) (.int (nI (tx.getD j 0)))).before args s = true) :
    ∃ p : Nat × Nat, (tS C e).eval args s none [] s = some (.ref p.1) ∧ strAt tx p.1 p.2 A s s.heap := by
  obtain ⟨a, ha⟩ := ref_of h1
  obtain ⟨b, hb, hT⟩ := va_Tof (N := tx.length) (f := fun j => .int (nI (tx.getD j 0))) hn h3 (va_eqt h4) (fun j hj => va_eqt (h5 j hj)) hA
  exact ⟨(a, b), ha, va_Oof h1 ha hA, fld_of ha (va_eqt h2) hA, fld_of ha hb hA, hT⟩
end GIV
/-- the constants' places -/
def kap (fa ka : Nat → Nat) (sp : Nat → Nat × Nat) (t4 t5 t6 t7 : Nat) : Nat → Nat := fun i => if i < 5 then fa i else if i < 15 then ka (i - 5) else if i < 34 then (sp (i - 15)).1 else if i = 34 then t4 else if i = 35 then t5 else if i = 36 then t6 else if i = 37 then t7 else (sp (i - 40)).2
section KAP
variable {fa ka : Nat → Nat} {sp : Nat → Nat × Nat} {t4 t5 t6 t7 : Nat}
theorem kap_f {i : Nat} (h : i < 5) : kap fa ka sp t4 t5 t6 t7 i = fa i := if_pos h
theorem kap_k {i : Nat} (h : i < 10) : kap fa ka sp t4 t5 t6 t7 (5 + i) = ka i := by
  unfold kap
  rw [if_neg (by omega), if_pos (by omega)]
  exact congrArg ka (by omega)
theorem kap_s {j : Nat} (h : j < 19) : kap fa ka sp t4 t5 t6 t7 (15 + j) = (sp j).1 := by
  unfold kap
  rw [if_neg (by omega), if_neg (by omega), if_pos (by omega)]
  exact congrArg (fun z => (sp z).1) (by omega)
theorem kap_b {j : Nat} (h : j < 19) : kap fa ka sp t4 t5 t6 t7 (40 + j) = (sp j).2 := by
  unfold kap
  rw [if_neg (by omega), if_neg (by omega), if_neg (by omega), if_neg (by omega), if_neg (by omega), if_neg (by omega), if_neg (by omega)]
  exact congrArg (fun z => (sp z).2) (by omega)
end KAP
theorem En_cg {E d : String} {nm : List String} {F : List (String × String × String × List Int32)} {ad ad2 : Nat → Nat} {A : Nat → Prop} {U : State} {H : Heap} (h : va_En E d nm F ad A U H) (e : ∀ i, i < nm.length → ad2 i = ad i) : va_En E d nm F ad2 A U H :=
  ⟨fun i hi => by rw [e i hi]; exact h.1 i hi, fun i j hi hj q => h.2 i j hi hj (by rw [← e i hi, ← e j hj]; exact q)⟩
def SEc : Nat → String := fun j => if j < 16 then RX6 else RX10
def SEe : Nat → Nat := fun j => [61, 69, 74, 79, 84, 87, 90, 95, 100, 103, 63, 71, 76, 81, 92, 97, 341, 346, 351].getD j 0
theorem str_0 {s : State} {args : Array Value} {A : Nat → Prop} (hgv : (Jvm.Cond.and given_1 narrow_1).before args s = true) (hA : ∀ a : Nat, a < s.heap.size → ¬ A a) : ∃ p : Nat × Nat, (tS (SEc 0) (SEe 0)).eval args s none [] s = some (.ref p.1) ∧ strAt (sxB 0) p.1 p.2 A s s.heap :=
  str_of hA (by decide) (nw hgv 1326 (by decide +kernel)) (nw hgv 1327 (by decide +kernel)) (nw hgv 1328 (by decide +kernel)) (nw hgv 1329 (by decide +kernel)) (nwr hgv (p := 1330) (by decide +kernel))
theorem str_1 {s : State} {args : Array Value} {A : Nat → Prop} (hgv : (Jvm.Cond.and given_1 narrow_1).before args s = true) (hA : ∀ a : Nat, a < s.heap.size → ¬ A a) : ∃ p : Nat × Nat, (tS (SEc 1) (SEe 1)).eval args s none [] s = some (.ref p.1) ∧ strAt (sxB 1) p.1 p.2 A s s.heap :=
  str_of hA (by decide) (nw hgv 1342 (by decide +kernel)) (nw hgv 1343 (by decide +kernel)) (nw hgv 1344 (by decide +kernel)) (nw hgv 1345 (by decide +kernel)) (nwr hgv (p := 1346) (by decide +kernel))
theorem str_2 {s : State} {args : Array Value} {A : Nat → Prop} (hgv : (Jvm.Cond.and given_1 narrow_1).before args s = true) (hA : ∀ a : Nat, a < s.heap.size → ¬ A a) : ∃ p : Nat × Nat, (tS (SEc 2) (SEe 2)).eval args s none [] s = some (.ref p.1) ∧ strAt (sxB 2) p.1 p.2 A s s.heap :=
  str_of hA (by decide) (nw hgv 1358 (by decide +kernel)) (nw hgv 1359 (by decide +kernel)) (nw hgv 1360 (by decide +kernel)) (nw hgv 1361 (by decide +kernel)) (nwr hgv (p := 1362) (by decide +kernel))
theorem str_3 {s : State} {args : Array Value} {A : Nat → Prop} (hgv : (Jvm.Cond.and given_1 narrow_1).before args s = true) (hA : ∀ a : Nat, a < s.heap.size → ¬ A a) : ∃ p : Nat × Nat, (tS (SEc 3) (SEe 3)).eval args s none [] s = some (.ref p.1) ∧ strAt (sxB 3) p.1 p.2 A s s.heap :=
  str_of hA (by decide) (nw hgv 1374 (by decide +kernel)) (nw hgv 1375 (by decide +kernel)) (nw hgv 1376 (by decide +kernel)) (nw hgv 1377 (by decide +kernel)) (nwr hgv (p := 1378) (by decide +kernel))
theorem str_4 {s : State} {args : Array Value} {A : Nat → Prop} (hgv : (Jvm.Cond.and given_1 narrow_1).before args s = true) (hA : ∀ a : Nat, a < s.heap.size → ¬ A a) : ∃ p : Nat × Nat, (tS (SEc 4) (SEe 4)).eval args s none [] s = some (.ref p.1) ∧ strAt (sxB 4) p.1 p.2 A s s.heap :=
  str_of hA (by decide) (nw hgv 1391 (by decide +kernel)) (nw hgv 1392 (by decide +kernel)) (nw hgv 1393 (by decide +kernel)) (nw hgv 1394 (by decide +kernel)) (nwr hgv (p := 1395) (by decide +kernel))
theorem str_5 {s : State} {args : Array Value} {A : Nat → Prop} (hgv : (Jvm.Cond.and given_1 narrow_1).before args s = true) (hA : ∀ a : Nat, a < s.heap.size → ¬ A a) : ∃ p : Nat × Nat, (tS (SEc 5) (SEe 5)).eval args s none [] s = some (.ref p.1) ∧ strAt (sxB 5) p.1 p.2 A s s.heap :=
  str_of hA (by decide) (nw hgv 1400 (by decide +kernel)) (nw hgv 1401 (by decide +kernel)) (nw hgv 1402 (by decide +kernel)) (nw hgv 1403 (by decide +kernel)) (nwr hgv (p := 1404) (by decide +kernel))
theorem str_6 {s : State} {args : Array Value} {A : Nat → Prop} (hgv : (Jvm.Cond.and given_1 narrow_1).before args s = true) (hA : ∀ a : Nat, a < s.heap.size → ¬ A a) : ∃ p : Nat × Nat, (tS (SEc 6) (SEe 6)).eval args s none [] s = some (.ref p.1) ∧ strAt (sxB 6) p.1 p.2 A s s.heap :=
  str_of hA (by decide) (nw hgv 1409 (by decide +kernel)) (nw hgv 1410 (by decide +kernel)) (nw hgv 1411 (by decide +kernel)) (nw hgv 1412 (by decide +kernel)) (nwr hgv (p := 1413) (by decide +kernel))
theorem str_7 {s : State} {args : Array Value} {A : Nat → Prop} (hgv : (Jvm.Cond.and given_1 narrow_1).before args s = true) (hA : ∀ a : Nat, a < s.heap.size → ¬ A a) : ∃ p : Nat × Nat, (tS (SEc 7) (SEe 7)).eval args s none [] s = some (.ref p.1) ∧ strAt (sxB 7) p.1 p.2 A s s.heap :=
  str_of hA (by decide) (nw hgv 1427 (by decide +kernel)) (nw hgv 1428 (by decide +kernel)) (nw hgv 1429 (by decide +kernel)) (nw hgv 1430 (by decide +kernel)) (nwr hgv (p := 1431) (by decide +kernel))
theorem str_8 {s : State} {args : Array Value} {A : Nat → Prop} (hgv : (Jvm.Cond.and given_1 narrow_1).before args s = true) (hA : ∀ a : Nat, a < s.heap.size → ¬ A a) : ∃ p : Nat × Nat, (tS (SEc 8) (SEe 8)).eval args s none [] s = some (.ref p.1) ∧ strAt (sxB 8) p.1 p.2 A s s.heap :=
  str_of hA (by decide) (nw hgv 1442 (by decide +kernel)) (nw hgv 1443 (by decide +kernel)) (nw hgv 1444 (by decide +kernel)) (nw hgv 1445 (by decide +kernel)) (nwr hgv (p := 1446) (by decide +kernel))
theorem str_9 {s : State} {args : Array Value} {A : Nat → Prop} (hgv : (Jvm.Cond.and given_1 narrow_1).before args s = true) (hA : ∀ a : Nat, a < s.heap.size → ¬ A a) : ∃ p : Nat × Nat, (tS (SEc 9) (SEe 9)).eval args s none [] s = some (.ref p.1) ∧ strAt (sxB 9) p.1 p.2 A s s.heap :=
  str_of hA (by decide) (nw hgv 1452 (by decide +kernel)) (nw hgv 1453 (by decide +kernel)) (nw hgv 1454 (by decide +kernel)) (nw hgv 1455 (by decide +kernel)) (nwr hgv (p := 1456) (by decide +kernel))
theorem str_10 {s : State} {args : Array Value} {A : Nat → Prop} (hgv : (Jvm.Cond.and given_1 narrow_1).before args s = true) (hA : ∀ a : Nat, a < s.heap.size → ¬ A a) : ∃ p : Nat × Nat, (tS (SEc 10) (SEe 10)).eval args s none [] s = some (.ref p.1) ∧ strAt (sxB 10) p.1 p.2 A s s.heap :=
  str_of hA (by decide) (nw hgv 1335 (by decide +kernel)) (nw hgv 1336 (by decide +kernel)) (nw hgv 1337 (by decide +kernel)) (nw hgv 1338 (by decide +kernel)) (nwr hgv (p := 1339) (by decide +kernel))
theorem str_11 {s : State} {args : Array Value} {A : Nat → Prop} (hgv : (Jvm.Cond.and given_1 narrow_1).before args s = true) (hA : ∀ a : Nat, a < s.heap.size → ¬ A a) : ∃ p : Nat × Nat, (tS (SEc 11) (SEe 11)).eval args s none [] s = some (.ref p.1) ∧ strAt (sxB 11) p.1 p.2 A s s.heap :=
  str_of hA (by decide) (nw hgv 1351 (by decide +kernel)) (nw hgv 1352 (by decide +kernel)) (nw hgv 1353 (by decide +kernel)) (nw hgv 1354 (by decide +kernel)) (nwr hgv (p := 1355) (by decide +kernel))
theorem str_12 {s : State} {args : Array Value} {A : Nat → Prop} (hgv : (Jvm.Cond.and given_1 narrow_1).before args s = true) (hA : ∀ a : Nat, a < s.heap.size → ¬ A a) : ∃ p : Nat × Nat, (tS (SEc 12) (SEe 12)).eval args s none [] s = some (.ref p.1) ∧ strAt (sxB 12) p.1 p.2 A s s.heap :=
  str_of hA (by decide) (nw hgv 1369 (by decide +kernel)) (nw hgv 1370 (by decide +kernel)) (nw hgv 1371 (by decide +kernel)) (nw hgv 1372 (by decide +kernel)) (nwr hgv (p := 1373) (by decide +kernel))
theorem str_13 {s : State} {args : Array Value} {A : Nat → Prop} (hgv : (Jvm.Cond.and given_1 narrow_1).before args s = true) (hA : ∀ a : Nat, a < s.heap.size → ¬ A a) : ∃ p : Nat × Nat, (tS (SEc 13) (SEe 13)).eval args s none [] s = some (.ref p.1) ∧ strAt (sxB 13) p.1 p.2 A s s.heap :=
  str_of hA (by decide) (nw hgv 1384 (by decide +kernel)) (nw hgv 1385 (by decide +kernel)) (nw hgv 1386 (by decide +kernel)) (nw hgv 1387 (by decide +kernel)) (nwr hgv (p := 1388) (by decide +kernel))
theorem str_14 {s : State} {args : Array Value} {A : Nat → Prop} (hgv : (Jvm.Cond.and given_1 narrow_1).before args s = true) (hA : ∀ a : Nat, a < s.heap.size → ¬ A a) : ∃ p : Nat × Nat, (tS (SEc 14) (SEe 14)).eval args s none [] s = some (.ref p.1) ∧ strAt (sxB 14) p.1 p.2 A s s.heap :=
  str_of hA (by decide) (nw hgv 1418 (by decide +kernel)) (nw hgv 1419 (by decide +kernel)) (nw hgv 1420 (by decide +kernel)) (nw hgv 1421 (by decide +kernel)) (nwr hgv (p := 1422) (by decide +kernel))
theorem str_15 {s : State} {args : Array Value} {A : Nat → Prop} (hgv : (Jvm.Cond.and given_1 narrow_1).before args s = true) (hA : ∀ a : Nat, a < s.heap.size → ¬ A a) : ∃ p : Nat × Nat, (tS (SEc 15) (SEe 15)).eval args s none [] s = some (.ref p.1) ∧ strAt (sxB 15) p.1 p.2 A s s.heap :=
  str_of hA (by decide) (nw hgv 1437 (by decide +kernel)) (nw hgv 1438 (by decide +kernel)) (nw hgv 1439 (by decide +kernel)) (nw hgv 1440 (by decide +kernel)) (nwr hgv (p := 1441) (by decide +kernel))
theorem str_16 {s : State} {args : Array Value} {A : Nat → Prop} (hgv : (Jvm.Cond.and given_1 narrow_1).before args s = true) (hA : ∀ a : Nat, a < s.heap.size → ¬ A a) : ∃ p : Nat × Nat, (tS (SEc 16) (SEe 16)).eval args s none [] s = some (.ref p.1) ∧ strAt (sxB 16) p.1 p.2 A s s.heap :=
  str_of hA (by decide) (nw hgv 1087 (by decide +kernel)) (nw hgv 1088 (by decide +kernel)) (nw hgv 1089 (by decide +kernel)) (nw hgv 1090 (by decide +kernel)) (nwr hgv (p := 1091) (by decide +kernel))
theorem str_17 {s : State} {args : Array Value} {A : Nat → Prop} (hgv : (Jvm.Cond.and given_1 narrow_1).before args s = true) (hA : ∀ a : Nat, a < s.heap.size → ¬ A a) : ∃ p : Nat × Nat, (tS (SEc 17) (SEe 17)).eval args s none [] s = some (.ref p.1) ∧ strAt (sxB 17) p.1 p.2 A s s.heap :=
  str_of hA (by decide) (nw hgv 1093 (by decide +kernel)) (nw hgv 1094 (by decide +kernel)) (nw hgv 1095 (by decide +kernel)) (nw hgv 1096 (by decide +kernel)) (nwr hgv (p := 1097) (by decide +kernel))
theorem str_18 {s : State} {args : Array Value} {A : Nat → Prop} (hgv : (Jvm.Cond.and given_1 narrow_1).before args s = true) (hA : ∀ a : Nat, a < s.heap.size → ¬ A a) : ∃ p : Nat × Nat, (tS (SEc 18) (SEe 18)).eval args s none [] s = some (.ref p.1) ∧ strAt (sxB 18) p.1 p.2 A s s.heap :=
  str_of hA (by decide) (nw hgv 1099 (by decide +kernel)) (nw hgv 1100 (by decide +kernel)) (nw hgv 1101 (by decide +kernel)) (nw hgv 1102 (by decide +kernel)) (nwr hgv (p := 1103) (by decide +kernel))
theorem all19 {P : Nat → Prop} (h0 : P 0) (h1 : P 1) (h2 : P 2) (h3 : P 3) (h4 : P 4) (h5 : P 5) (h6 : P 6) (h7 : P 7) (h8 : P 8) (h9 : P 9) (h10 : P 10) (h11 : P 11) (h12 : P 12) (h13 : P 13) (h14 : P 14) (h15 : P 15) (h16 : P 16) (h17 : P 17) (h18 : P 18) : ∀ j, j < 19 → P j := fun j hj => match j, hj with
  | 0, _ => h0
  | 1, _ => h1
  | 2, _ => h2
  | 3, _ => h3
  | 4, _ => h4
  | 5, _ => h5
  | 6, _ => h6
  | 7, _ => h7
  | 8, _ => h8
  | 9, _ => h9
  | 10, _ => h10
  | 11, _ => h11
  | 12, _ => h12
  | 13, _ => h13
  | 14, _ => h14
  | 15, _ => h15
  | 16, _ => h16
  | 17, _ => h17
  | 18, _ => h18
  | k + 19, hj => absurd hj (by omega)
theorem strs_of {s : State} {args : Array Value} {A : Nat → Prop} (hgv : (Jvm.Cond.and given_1 narrow_1).before args s = true) (hA : ∀ a : Nat, a < s.heap.size → ¬ A a) : ∃ sp : Nat → Nat × Nat, ∀ j, j < 19 → (tS (SEc j) (SEe j)).eval args s none [] s = some (.ref (sp j).1) ∧ strAt (sxB j) (sp j).1 (sp j).2 A s s.heap := by
  have h0 : ∀ j : Nat, ∃ p : Nat × Nat, j < 19 → (tS (SEc j) (SEe j)).eval args s none [] s = some (.ref p.1) ∧ strAt (sxB j) p.1 p.2 A s s.heap := by
    intro j
    by_cases hj : j < 19
    · obtain ⟨p, hp⟩ := all19 (P := fun j => ∃ p : Nat × Nat, (tS (SEc j) (SEe j)).eval args s none [] s = some (.ref p.1) ∧ strAt (sxB j) p.1 p.2 A s s.heap) (str_0 hgv hA) (str_1 hgv hA) (str_2 hgv hA) (str_3 hgv hA) (str_4 hgv hA) (str_5 hgv hA) (str_6 hgv hA) (str_7 hgv hA) (str_8 hgv hA) (str_9 hgv hA) (str_10 hgv hA) (str_11 hgv hA) (str_12 hgv hA) (str_13 hgv hA) (str_14 hgv hA) (str_15 hgv hA) (str_16 hgv hA) (str_17 hgv hA) (str_18 hgv hA) j hj
      exact ⟨p, fun _ => hp⟩
    · exact ⟨(0, 0), fun h => absurd h hj⟩
  exact Classical.axiomOfChoice h0
def faNm : List String := ["NONE", "NO_INDEX", "BAD_ARGUMENT", "BAD_STATE", "NO_ELEMENT"]
def pr_fa : List (List Nat) := [[0, 237, 227, 232, 243], [237, 0, 236, 238, 245], [227, 236, 0, 231, 242], [232, 238, 231, 0, 244], [243, 245, 242, 244, 0]]
theorem ls_fa : ∀ i, i < 5 → tables_1[[894, 901, 892, 896, 937].getD i 0]? = some (Cond.laysStatic RX3 (faNm.getD i "") "LBallastControl$Fault;") := by decide +kernel
theorem ex_fa : ∀ i, i < 5 → NLs[[224, 233, 221, 228, 239].getD i 0]? = some (Cond.exactly (.static RX3 (faNm.getD i "") "LBallastControl$Fault;") RX3) := by decide +kernel
theorem ne_fa : ∀ i, i < 5 → ∀ j, j < 5 → i ≠ j → NLs[(pr_fa.getD i []).getD j 0]? = some (Cond.not (.eq (.static RX3 (faNm.getD i "") "LBallastControl$Fault;") (.static RX3 (faNm.getD j "") "LBallastControl$Fault;"))) ∨ NLs[(pr_fa.getD i []).getD j 0]? = some (Cond.not (.eq (.static RX3 (faNm.getD j "") "LBallastControl$Fault;") (.static RX3 (faNm.getD i "") "LBallastControl$Fault;"))) := by decide +kernel
def pr_kw : List (List Nat) := [[0, 278, 288, 299, 311, 324, 338, 353, 369, 386], [278, 0, 294, 305, 317, 330, 344, 359, 375, 392], [288, 294, 0, 306, 318, 331, 345, 360, 376, 393], [299, 305, 306, 0, 319, 332, 346, 361, 377, 394], [311, 317, 318, 319, 0, 333, 347, 362, 378, 395], [324, 330, 331, 332, 333, 0, 348, 363, 379, 396], [338, 344, 345, 346, 347, 348, 0, 364, 380, 397], [353, 359, 360, 361, 362, 363, 364, 0, 381, 398], [369, 375, 376, 377, 378, 379, 380, 381, 0, 399], [386, 392, 393, 394, 395, 396, 397, 398, 399, 0]]
theorem ls_kw : ∀ i, i < 10 → tables_1[[277, 2187, 2188, 2189, 2190, 2191, 2192, 2193, 2194, 2195].getD i 0]? = some (Cond.laysStatic RX6 (kwNm.getD i "") "LBallastControl$Keyword;") := by decide +kernel
theorem ex_kw : ∀ i, i < 10 → NLs[[5, 274, 284, 295, 307, 320, 334, 349, 365, 382].getD i 0]? = some (Cond.exactly (.static RX6 (kwNm.getD i "") "LBallastControl$Keyword;") RX6) := by decide +kernel
theorem ne_kw : ∀ i, i < 10 → ∀ j, j < 10 → i ≠ j → NLs[(pr_kw.getD i []).getD j 0]? = some (Cond.not (.eq (.static RX6 (kwNm.getD i "") "LBallastControl$Keyword;") (.static RX6 (kwNm.getD j "") "LBallastControl$Keyword;"))) ∨ NLs[(pr_kw.getD i []).getD j 0]? = some (Cond.not (.eq (.static RX6 (kwNm.getD j "") "LBallastControl$Keyword;") (.static RX6 (kwNm.getD i "") "LBallastControl$Keyword;"))) := by decide +kernel
theorem or_kw : ∀ i, i < 10 → NLs[[6, 275, 285, 296, 308, 321, 335, 350, 366, 383].getD i 0]? = some (Cond.eq (.field (.static RX6 (kwNm.getD i "") "LBallastControl$Keyword;") "java/lang/Enum" "ordinal" "I") (.int (([0, 1, 2, 3, 4, 5, 6, 7, 8, 9] : List Int32).getD i 0))) := by decide +kernel
theorem wo_kw : ∀ i, i < 10 → NLs[[7, 276, 286, 297, 309, 322, 336, 351, 367, 384].getD i 0]? = some (Cond.eq (.field (.static RX6 (kwNm.getD i "") "LBallastControl$Keyword;") RX6 "word" "Ljava/lang/String;") (tS (SEc i) (SEe i))) := by decide +kernel
theorem sh_kw : ∀ i, i < 10 → NLs[[8, 277, 287, 298, 310, 323, 337, 352, 368, 385].getD i 0]? = some (Cond.eq (.field (.static RX6 (kwNm.getD i "") "LBallastControl$Keyword;") RX6 "shape" "Ljava/lang/String;") (tS (SEc (shp i)) (SEe (shp i)))) := by decide +kernel
theorem el_K : (List.range 10).map (fun j => Cond.eq (.elem (.static RX10 "KEYWORDS" "[LBallastControl$Keyword;") (.int (Int32.ofNat j))) (.static RX6 (kwNm.getD j "") "LBallastControl$Keyword;")) = (NLs.drop 251).take 10 := by decide +kernel
theorem el_M : (List.range 10).map (fun j => Cond.eq (.elem (.static RX0 "$SwitchMap$BallastControl$Keyword" "[I") (.int (Int32.ofNat j))) (.int (swI j))) = (NLs.drop 264).take 10 := by decide +kernel
theorem el_O : (List.range 100).map (fun j => Cond.eq (.elem (.static RJ6 "DigitOnes" "[B") (.int (Int32.ofNat j))) (.int (nI (48 + j % 10)))) = (NLs.drop 16).take 100 := by decide +kernel
theorem el_T : (List.range 100).map (fun j => Cond.eq (.elem (.static RJ6 "DigitTens" "[B") (.int (Int32.ofNat j))) (.int (nI (48 + j / 10)))) = (NLs.drop 119).take 100 := by decide +kernel
theorem ex_t : ∀ q ∈ exL, ∃ i j : Nat, tables_1[i]? = some (Cond.stringRef q.1 q.2.1 q.2.2) ∧ NLs[j]? = some (Cond.exactly (.string q.1 q.2.1) "java/lang/String") := by
  unfold exL
  exact List.forall_mem_cons.mpr ⟨⟨1068, 721, by decide +kernel, by decide +kernel⟩, List.forall_mem_cons.mpr ⟨⟨1087, 761, by decide +kernel, by decide +kernel⟩, List.forall_mem_cons.mpr ⟨⟨1237, 800, by decide +kernel, by decide +kernel⟩, List.forall_mem_cons.mpr ⟨⟨1245, 816, by decide +kernel, by decide +kernel⟩, List.forall_mem_cons.mpr ⟨⟨1253, 830, by decide +kernel, by decide +kernel⟩, List.forall_mem_cons.mpr ⟨⟨1280, 850, by decide +kernel, by decide +kernel⟩, List.forall_mem_cons.mpr ⟨⟨1315, 898, by decide +kernel, by decide +kernel⟩, List.forall_mem_cons.mpr ⟨⟨1348, 960, by decide +kernel, by decide +kernel⟩, List.forall_mem_cons.mpr ⟨⟨1356, 994, by decide +kernel, by decide +kernel⟩, List.forall_mem_cons.mpr ⟨⟨1379, 1011, by decide +kernel, by decide +kernel⟩, List.forall_mem_cons.mpr ⟨⟨1394, 1036, by decide +kernel, by decide +kernel⟩, List.forall_mem_cons.mpr ⟨⟨1461, 1105, by decide +kernel, by decide +kernel⟩, List.forall_mem_cons.mpr ⟨⟨1479, 1135, by decide +kernel, by decide +kernel⟩, List.forall_mem_cons.mpr ⟨⟨1480, 1161, by decide +kernel, by decide +kernel⟩, List.forall_mem_cons.mpr ⟨⟨1541, 1183, by decide +kernel, by decide +kernel⟩, List.forall_mem_cons.mpr ⟨⟨1554, 1204, by decide +kernel, by decide +kernel⟩, List.forall_mem_cons.mpr ⟨⟨1566, 1224, by decide +kernel, by decide +kernel⟩, List.forall_mem_cons.mpr ⟨⟨1574, 1252, by decide +kernel, by decide +kernel⟩, List.forall_mem_cons.mpr ⟨⟨1582, 1273, by decide +kernel, by decide +kernel⟩, List.forall_mem_cons.mpr ⟨⟨1594, 1300, by decide +kernel, by decide +kernel⟩, List.forall_mem_cons.mpr ⟨⟨911, 636, by decide +kernel, by decide +kernel⟩, List.forall_mem_cons.mpr ⟨⟨917, 659, by decide +kernel, by decide +kernel⟩, List.forall_mem_cons.mpr ⟨⟨929, 684, by decide +kernel, by decide +kernel⟩, List.forall_mem_cons.mpr ⟨⟨947, 704, by decide +kernel, by decide +kernel⟩, List.forall_mem_cons.mpr ⟨⟨1421, 1068, by decide +kernel, by decide +kernel⟩, List.forall_mem_cons.mpr ⟨⟨1119, 783, by decide +kernel, by decide +kernel⟩, List.forall_mem_cons.mpr ⟨⟨1292, 871, by decide +kernel, by decide +kernel⟩, List.forall_mem_cons.mpr ⟨⟨1333, 935, by decide +kernel, by decide +kernel⟩, fun _ z => absurd z List.not_mem_nil⟩⟩⟩⟩⟩⟩⟩⟩⟩⟩⟩⟩⟩⟩⟩⟩⟩⟩⟩⟩⟩⟩⟩⟩⟩⟩⟩⟩
theorem nw_m : ∀ q ∈ NWm, ∃ i : Nat, tables_1[i]? = some (Cond.methodLinkNest q.1 q.2.1 q.2.2 RX10) := by
  unfold NWm
  exact List.forall_mem_cons.mpr ⟨⟨46, by decide +kernel⟩, List.forall_mem_cons.mpr ⟨⟨52, by decide +kernel⟩, List.forall_mem_cons.mpr ⟨⟨94, by decide +kernel⟩, List.forall_mem_cons.mpr ⟨⟨127, by decide +kernel⟩, List.forall_mem_cons.mpr ⟨⟨196, by decide +kernel⟩, List.forall_mem_cons.mpr ⟨⟨210, by decide +kernel⟩, List.forall_mem_cons.mpr ⟨⟨425, by decide +kernel⟩, List.forall_mem_cons.mpr ⟨⟨888, by decide +kernel⟩, fun _ z => absurd z List.not_mem_nil⟩⟩⟩⟩⟩⟩⟩⟩
theorem nf_m : ∀ q ∈ nfL, ∃ i : Nat, tables_1[i]? = some (Cond.fieldLinkNest RX7 q.1 q.2.1 q.2.2.1 q.2.2.2 RX10) := by
  unfold nfL
  exact List.forall_mem_cons.mpr ⟨⟨1496, by decide +kernel⟩, List.forall_mem_cons.mpr ⟨⟨2182, by decide +kernel⟩, List.forall_mem_cons.mpr ⟨⟨2183, by decide +kernel⟩, fun _ z => absurd z List.not_mem_nil⟩⟩⟩
theorem nc_m : ∀ q ∈ ncL, ∃ i : Nat, NLs[i]? = some (Cond.not (.castable q.1 q.2)) := by
  unfold ncL
  exact List.forall_mem_cons.mpr ⟨⟨413, by decide +kernel⟩, List.forall_mem_cons.mpr ⟨⟨450, by decide +kernel⟩, List.forall_mem_cons.mpr ⟨⟨451, by decide +kernel⟩, List.forall_mem_cons.mpr ⟨⟨467, by decide +kernel⟩, List.forall_mem_cons.mpr ⟨⟨469, by decide +kernel⟩, List.forall_mem_cons.mpr ⟨⟨452, by decide +kernel⟩, List.forall_mem_cons.mpr ⟨⟨414, by decide +kernel⟩, fun _ z => absurd z List.not_mem_nil⟩⟩⟩⟩⟩⟩⟩
