/-! ===== what holds at the law's start ===== -/
set_option maxHeartbeats 4000000 in
/-- what the claim's start gives -/
theorem St_of {s : State} {args : Array Value} {A : Nat → Prop} (hts : ∀ w ∈ lw_tbl, w.before args s = true) (hgv : (Jvm.Cond.and given_1 narrow_1).before args s = true) (hA : ∀ a : Nat, a < s.heap.size → ¬ A a) : ∃ κ : Nat → Nat, St κ A s s.heap := by
  obtain ⟨fa, hfa⟩ := va_Enof (E := RX3) (d := "LBallastControl$Fault;") (nm := faNm) (F := []) (tbp hts _ ls_fa) (tbw hts 16 (by decide +kernel)) (nwp hgv _ ex_fa) (fun q hq => absurd hq List.not_mem_nil) (fun i j hi hj hij => by
    rcases ne_fa i hi j hj hij with h | h
    · exact Or.inl (nw hgv _ h)
    · exact Or.inr (nw hgv _ h)) hA
  obtain ⟨ka, hka, hke⟩ := va_Enof2 (E := RX6) (d := "LBallastControl$Keyword;") (nm := kwNm) (F := kwF) (tbp hts _ ls_kw) (tbw hts 14 (by decide +kernel)) (nwp hgv _ ex_kw) (fun q hq i hi => by
    cases List.mem_singleton.mp hq
    exact nwp hgv _ or_kw i hi) (fun i j hi hj hij => by
    rcases ne_kw i hi j hj hij with h | h
    · exact Or.inl (nw hgv _ h)
    · exact Or.inr (nw hgv _ h)) hA
  obtain ⟨sp, hsp⟩ := strs_of hgv hA
  have hwo := va_Efof (N := 10) (tm := fun i => tS (SEc i) (SEe i)) (v := fun i => .ref (sp i).1) hke (nwp hgv _ wo_kw) (fun i hi => (hsp i (by omega)).1) hA
  have hsh := va_Efof (N := 10) (tm := fun i => tS (SEc (shp i)) (SEe (shp i))) (v := fun i => .ref (sp (shp i)).1) hke (nwp hgv _ sh_kw) (fun i hi => (hsp (shp i) (by have := (shp_in i hi).2; omega)).1) hA
  obtain ⟨t4, e4, T4⟩ := va_Tof (tm := .static RX10 "KEYWORDS" "[LBallastControl$Keyword;") (ty := .object RX6) (N := 10) (f := fun i => .ref (ka i)) (by decide) (nw hgv 248 (by decide +kernel)) (va_eqt (nw hgv 249 (by decide +kernel))) (fun j hj => va_eqv (nwr hgv el_K j hj) (hke j hj)) hA
  obtain ⟨t5, e5, T5⟩ := va_Tof (tm := .static RX0 "$SwitchMap$BallastControl$Keyword" "[I") (ty := .int) (N := 10) (f := fun i => .int (swI i)) (by decide) (nw hgv 262 (by decide +kernel)) (va_eqt (nw hgv 263 (by decide +kernel))) (fun j hj => va_eqt (nwr hgv el_M j hj)) hA
  obtain ⟨t6, e6, T6⟩ := va_Tof (tm := .static RJ6 "DigitOnes" "[B") (ty := .byte) (N := 100) (f := fun i => .int (nI (48 + i % 10))) (by decide) (nw hgv 14 (by decide +kernel)) (va_eqt (nw hgv 15 (by decide +kernel))) (fun j hj => va_eqt (nwr hgv el_O j hj)) hA
  obtain ⟨t7, e7, T7⟩ := va_Tof (tm := .static RJ6 "DigitTens" "[B") (ty := .byte) (N := 100) (f := fun i => .int (nI (48 + i / 10))) (by decide) (nw hgv 117 (by decide +kernel)) (va_eqt (nw hgv 118 (by decide +kernel))) (fun j hj => va_eqt (nwr hgv el_T j hj)) hA
  refine ⟨kap fa ka sp t4 t5 t6 t7, En_cg hfa fun i hi => kap_f hi, fun q hq => ?_, fun q hq => ?_, fun w hw => ?_, ?_, ?_, ⟨?_, ?_, ?_, fun j hj => ?_, ⟨?_, ?_⟩, ⟨?_, ?_⟩, ⟨?_, ?_⟩, ⟨?_, ?_⟩, ?_, ?_⟩, fun q hq => ?_, fun q hq => ?_, fun q hq => ?_, fun C hC => ?_, ?_⟩
  · obtain ⟨i, h⟩ := nw_m q hq
    exact va_Nw.of rfl (tbw hts i h)
  · obtain ⟨i, j, h1, h2⟩ := ex_t q hq
    obtain ⟨a, ha⟩ := ref_of (nw hgv j h2)
    exact ⟨a, vk_R.of (tbw hts i h1) ha⟩
  · have h2 := (List.mem_filter.mp hw).2
    simp only [Bool.and_eq_true] at h2
    exact va_tabs h2.1 rfl (hts w (List.mem_filter.mp hw).1)
  · exact vx_Zqof (tbw hts 716 (by decide +kernel)) (tbw hts 17 (by decide +kernel)) (nw hgv 219 (by decide +kernel)) hA
  · exact vx_Zqof (tbw hts 718 (by decide +kernel)) (tbw hts 17 (by decide +kernel)) (nw hgv 220 (by decide +kernel)) hA
  · exact En_cg hka fun i hi => kap_k hi
  · intro i hi
    show va_OF RX6 "word" "Ljava/lang/String;" (.ref (kap fa ka sp t4 t5 t6 t7 (15 + i))) (kap fa ka sp t4 t5 t6 t7 (5 + i)) _ _ _
    rw [kap_k hi, kap_s (by omega)]
    exact hwo i hi
  · intro i hi
    show va_OF RX6 "shape" "Ljava/lang/String;" (.ref (kap fa ka sp t4 t5 t6 t7 (15 + shp i))) (kap fa ka sp t4 t5 t6 t7 (5 + i)) _ _ _
    rw [kap_k hi, kap_s (by have := (shp_in i hi).2; omega)]
    exact hsh i hi
  · rw [kap_s hj, kap_b hj]
    exact (hsp j hj).2
  · exact va_Zref (tbw hts 1497 (by decide +kernel)) (tbw hts 1 (by decide +kernel)) e4 hA
  · obtain ⟨cell, q1, q2, q3, q4, q5, q6, q7⟩ := T4
    refine ⟨cell, q1, q2, q3, q4, q5, fun j hj => ?_, q7⟩
    show _ = some (Value.ref (kap fa ka sp t4 t5 t6 t7 (5 + j)))
    rw [kap_k hj]
    exact q6 j hj
  · exact va_Zref (tbw hts 1547 (by decide +kernel)) (tbw hts 35 (by decide +kernel)) e5 hA
  · exact T5
  · exact va_Zref (tbw hts 642 (by decide +kernel)) (tbw hts 34 (by decide +kernel)) e6 hA
  · exact T6
  · exact va_Zref (tbw hts 644 (by decide +kernel)) (tbw hts 34 (by decide +kernel)) e7 hA
  · exact T7
  · exact va_Zof (tbw hts 241 (by decide +kernel)) (tbw hts 10 (by decide +kernel)) (va_eqi (nw hgv 4 (by decide +kernel))) hA
  · exact va_Zqof (tbw hts 572 (by decide +kernel)) (tbw hts 31 (by decide +kernel)) (nw hgv 9 (by decide +kernel)) hA
  · unfold ldL at hq
    simp only [List.mem_cons, List.not_mem_nil, or_false] at hq
    rcases hq with rfl | rfl | rfl
    · exact vk_R.of (tbw hts 1442 (by decide +kernel)) (by rw [show kap fa ka sp t4 t5 t6 t7 31 = (sp 16).1 from kap_s (j := 16) (by decide)]; exact (hsp 16 (by decide)).1)
    · exact vk_R.of (tbw hts 1444 (by decide +kernel)) (by rw [show kap fa ka sp t4 t5 t6 t7 32 = (sp 17).1 from kap_s (j := 17) (by decide)]; exact (hsp 17 (by decide)).1)
    · exact vk_R.of (tbw hts 1446 (by decide +kernel)) (by rw [show kap fa ka sp t4 t5 t6 t7 33 = (sp 18).1 from kap_s (j := 18) (by decide)]; exact (hsp 18 (by decide)).1)
  · obtain ⟨i, h⟩ := nf_m q hq
    exact va_Nw.of rfl (tbw hts i h)
  · obtain ⟨i, h⟩ := nc_m q hq
    exact va_Nc.of (nw hgv i h)
  · unfold aoL at hC
    simp only [List.mem_cons, List.not_mem_nil, or_false] at hC
    rcases hC with rfl | rfl
    · exact va_AO.of (tbw hts 195 (by decide +kernel))
    · exact va_AO.of (tbw hts 273 (by decide +kernel))
  · have h9 : (Cond.arrayOver (.array .int)).before args s = true := tbw hts 275 (by decide +kernel)
    exact h9
