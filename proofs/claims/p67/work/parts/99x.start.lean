/-! ===== what holds at the law's start ===== -/
set_option maxHeartbeats 4000000 in
/-- what the claim's start gives -/
theorem St_of {s : State} {args : Array Value} {A : Nat → Prop} {b L : Nat} {xs : Nat → Int32} (hts : ∀ w ∈ lw_tbl, w.before args s = true) (hgv : (Jvm.Cond.and given_1 narrow_1).before args s = true) (hA : ∀ a : Nat, a < s.heap.size → ¬ A a) (hX : va_X b L xs s s.heap) (hL : L ≤ 260) : ∃ κ : Nat → Nat, κ 60 = b ∧ St κ A s s.heap := by
  obtain ⟨fa, hfa⟩ := va_Enof (E := RX3) (d := "LBallastControl$Fault;") (nm := faNm) (F := []) (tbp hts _ ls_fa) (tbw hts 15 (by decide +kernel)) (nwp hgv _ ex_fa) (fun q hq => absurd hq List.not_mem_nil) (fun i j hi hj hij => by
    rcases ne_fa i hi j hj hij with h | h
    · exact Or.inl (nw hgv _ h)
    · exact Or.inr (nw hgv _ h)) hA
  obtain ⟨ka, hka, hke⟩ := va_Enof2 (E := RX6) (d := "LBallastControl$Keyword;") (nm := kwNm) (F := kwF) (tbp hts _ ls_kw) (tbw hts 14 (by decide +kernel)) (nwp hgv _ ex_kw) (fun q hq i hi => by
    cases List.mem_singleton.mp hq
    exact nwp hgv _ or_kw i hi) (fun i j hi hj hij => by
    rcases ne_kw i hi j hj hij with h | h
    · exact Or.inl (nw hgv _ h)
    · exact Or.inr (nw hgv _ h)) hA
  obtain ⟨sp, hsp⟩ := strs_of hgv hA
  obtain ⟨t6, e6, T6⟩ := va_Tof (tm := .static RJ6 "DigitOnes" "[B") (ty := .byte) (N := 100) (f := fun i => .int (nI (48 + i % 10))) (by decide) (nw hgv 14 (by decide +kernel)) (va_eqt (nw hgv 15 (by decide +kernel))) (fun j hj => va_eqt (nwr hgv el_O j hj)) hA
  obtain ⟨t7, e7, T7⟩ := va_Tof (tm := .static RJ6 "DigitTens" "[B") (ty := .byte) (N := 100) (f := fun i => .int (nI (48 + i / 10))) (by decide) (nw hgv 117 (by decide +kernel)) (va_eqt (nw hgv 118 (by decide +kernel))) (fun j hj => va_eqt (nwr hgv el_T j hj)) hA
  refine ⟨kap fa ka sp b t6 t7, rfl, En_cg hfa fun i hi => kap_f hi, fun q hq => ?_, fun q hq => ?_, fun w hw => ?_, ?_, ?_, ⟨?_, ?_, trivial, fun j hj => ?_, trivial, trivial, ⟨?_, ?_⟩, ⟨?_, ?_⟩, ?_, ?_⟩, fun q hq => ?_, fun q hq => ?_, fun q hq => ?_, fun C hC => ?_, ?_⟩
  · obtain ⟨i, h⟩ := nw_m q hq
    exact va_Nw.of rfl (tbw hts i h)
  · obtain ⟨i, j, h1, h2⟩ := ex_t q hq
    obtain ⟨a, ha⟩ := ref_of (nw hgv j h2)
    exact ⟨a, vk_R.of (tbw hts i h1) ha⟩
  · have h2 := (List.mem_filter.mp hw).2
    simp only [Bool.and_eq_true] at h2
    exact va_tabs h2.1 rfl (hts w (List.mem_filter.mp hw).1)
  · exact vx_Zqof (tbw hts 371 (by decide +kernel)) (tbw hts 16 (by decide +kernel)) (nw hgv 7 (by decide +kernel)) hA
  · exact vx_Zqof (tbw hts 373 (by decide +kernel)) (tbw hts 16 (by decide +kernel)) (nw hgv 8 (by decide +kernel)) hA
  · exact En_cg hka fun i hi => kap_k (Nat.lt_of_lt_of_le hi (by decide))
  · obtain ⟨scr, h1, h2, h3, h4, h5⟩ := hX
    exact ⟨L, xs, by omega, scr, h1, h2, h3, Nat.le_of_eq h4.symm, by rw [h4], h5, hA _ (Array.getElem?_eq_some_iff.mp h1).1⟩
  · rw [kap_s hj, kap_b hj]
    exact (hsp j hj).2
  · exact va_Zref (tbw hts 826 (by decide +kernel)) (tbw hts 31 (by decide +kernel)) e6 hA
  · exact T6
  · exact va_Zref (tbw hts 828 (by decide +kernel)) (tbw hts 31 (by decide +kernel)) e7 hA
  · exact T7
  · exact va_Zof (tbw hts 236 (by decide +kernel)) (tbw hts 10 (by decide +kernel)) (va_eqi (nw hgv 4 (by decide +kernel))) hA
  · exact va_Zqof (tbw hts 756 (by decide +kernel)) (tbw hts 28 (by decide +kernel)) (nw hgv 9 (by decide +kernel)) hA
  · unfold ldL at hq
    simp only [List.mem_cons, List.not_mem_nil, or_false] at hq
    rcases hq with rfl | rfl | rfl
    · exact vk_R.of (tbw hts 988 (by decide +kernel)) (by rw [show kap fa ka sp b t6 t7 31 = (sp 16).1 from kap_s (j := 16) (by decide)]; exact (hsp 16 (by decide)).1)
    · exact vk_R.of (tbw hts 990 (by decide +kernel)) (by rw [show kap fa ka sp b t6 t7 32 = (sp 17).1 from kap_s (j := 17) (by decide)]; exact (hsp 17 (by decide)).1)
    · exact vk_R.of (tbw hts 992 (by decide +kernel)) (by rw [show kap fa ka sp b t6 t7 33 = (sp 18).1 from kap_s (j := 18) (by decide)]; exact (hsp 18 (by decide)).1)
  · unfold lwL at hq
    simp only [List.mem_cons, List.not_mem_nil, or_false] at hq
    rcases hq with rfl | rfl | rfl | rfl | rfl | rfl | rfl | rfl | rfl | rfl
    · exact vk_R.of (tbw hts 1431 (by decide +kernel)) (by rw [show kap fa ka sp b t6 t7 15 = (sp 0).1 from kap_s (j := 0) (by decide)]; exact (hsp 0 (by decide)).1)
    · exact vk_R.of (tbw hts 1432 (by decide +kernel)) (by rw [show kap fa ka sp b t6 t7 16 = (sp 1).1 from kap_s (j := 1) (by decide)]; exact (hsp 1 (by decide)).1)
    · exact vk_R.of (tbw hts 1433 (by decide +kernel)) (by rw [show kap fa ka sp b t6 t7 17 = (sp 2).1 from kap_s (j := 2) (by decide)]; exact (hsp 2 (by decide)).1)
    · exact vk_R.of (tbw hts 1434 (by decide +kernel)) (by rw [show kap fa ka sp b t6 t7 18 = (sp 3).1 from kap_s (j := 3) (by decide)]; exact (hsp 3 (by decide)).1)
    · exact vk_R.of (tbw hts 1435 (by decide +kernel)) (by rw [show kap fa ka sp b t6 t7 19 = (sp 4).1 from kap_s (j := 4) (by decide)]; exact (hsp 4 (by decide)).1)
    · exact vk_R.of (tbw hts 1436 (by decide +kernel)) (by rw [show kap fa ka sp b t6 t7 20 = (sp 5).1 from kap_s (j := 5) (by decide)]; exact (hsp 5 (by decide)).1)
    · exact vk_R.of (tbw hts 1437 (by decide +kernel)) (by rw [show kap fa ka sp b t6 t7 21 = (sp 6).1 from kap_s (j := 6) (by decide)]; exact (hsp 6 (by decide)).1)
    · exact vk_R.of (tbw hts 1438 (by decide +kernel)) (by rw [show kap fa ka sp b t6 t7 22 = (sp 7).1 from kap_s (j := 7) (by decide)]; exact (hsp 7 (by decide)).1)
    · exact vk_R.of (tbw hts 1439 (by decide +kernel)) (by rw [show kap fa ka sp b t6 t7 23 = (sp 8).1 from kap_s (j := 8) (by decide)]; exact (hsp 8 (by decide)).1)
    · exact vk_R.of (tbw hts 1440 (by decide +kernel)) (by rw [show kap fa ka sp b t6 t7 24 = (sp 9).1 from kap_s (j := 9) (by decide)]; exact (hsp 9 (by decide)).1)
  · obtain ⟨i, h⟩ := nc_m q hq
    exact va_Nc.of (nw hgv i h)
  · unfold aoL at hC
    simp only [List.mem_cons, List.not_mem_nil, or_false] at hC
    rcases hC with rfl | rfl
    · exact va_AO.of (tbw hts 190 (by decide +kernel))
    · exact va_AO.of (tbw hts 268 (by decide +kernel))
  · have h9 : (Cond.arrayOver (.array .int)).before args s = true := tbw hts 270 (by decide +kernel)
    exact h9
