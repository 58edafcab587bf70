/-! ===== the model: it reads a word ===== -/
def lt3 (I : SBB) (a b c : Nat) (s : PQ) : PQ := nd I c (nd I b (nd I a s))
def wd (I : SBB) (f : Nat) (s : PQ) : Nat × PQ :=
  if f = 116 then (116, lt3 I 97 110 107 s)
  else if f = 117 then (117, nd I 100 (nd I 97 (lt3 I 110 108 111 s)))
  else if f = 108 then (if atB I s.1 101 = true then (107, lt3 I 101 97 107 s) else (108, lt3 I 111 97 100 s))
  else if f = 115 then (if atB I s.1 116 = true then (111, nd I 109 (lt3 I 116 111 114 s)) else (105, nd I 116 (lt3 I 104 105 102 s)))
  else if f = 112 then (if atB I s.1 111 = true then (119, nd I 114 (lt3 I 111 119 101 s)) else (109, lt3 I 117 109 112 s))
  else if atB I s.1 105 = true then (110, lt3 I 116 101 115 (lt3 I 105 110 117 s)) else (118, lt3 I 111 118 101 s)
def isL (f : Nat) : Prop := f = 116 ∨ f = 108 ∨ f = 117 ∨ f = 115 ∨ f = 112 ∨ f = 109
theorem okQ_lt3 {I : SBB} (hI : I.1 ≤ 60) {a b c : Nat} {s : PQ} (h : okQ s) : okQ (lt3 I a b c s) := okQ_nd hI (okQ_nd hI (okQ_nd hI h))
theorem okQ_wd {I : SBB} (hI : I.1 ≤ 60) {f : Nat} {s : PQ} (h : okQ s) : okQ (wd I f s).2 := by
  unfold wd
  repeat' split
  all_goals first
    | exact okQ_lt3 hI h
    | exact okQ_nd hI (okQ_lt3 hI h)
    | exact okQ_nd hI (okQ_nd hI (okQ_lt3 hI h))
    | exact okQ_lt3 hI (okQ_lt3 hI h)
section NW
variable {m : MS} {I : SBB}
theorem n_word (hI : IR I m) (s : PQ) (hs : okQ s) (f : Nat) (hf : isL f) : Sp 3 0 0 mX11_word [vR 0 0, vI (nI f)] (mdl (wQm m s)) (PoI (nI (wd I f s).1) (mdl (wQm m (wd I f s).2))) := by
  refine Sp.of' false (fun h => by cases h) (by decide) rfl rfl (Nat.le_of_ble_eq_true rfl) fun γ σ B => ?_
  have F : Fit γ 0 0 0 0 0 := fiW B (by decide) (Nat.zero_le _) (Nat.zero_le _)
  have F1 : Fit γ 0 0 1 0 0 := fiW B (by decide) (Nat.zero_le _) (Nat.zero_le _)
  have F2 : Fit γ 0 0 2 0 0 := fiW B (by decide) (Nat.zero_le _) (Nat.zero_le _)
  have hl := hI.2.1
  have at_ : ∀ c, c < 256 → (sg I s.1 = nI c ↔ atB I s.1 c = true) := fun c hc => sg_at (fun j hj => (hI.2.2 j hj).2) hc
  have S3 : ∀ (s' : PQ) (a b c : Nat), okQ s' → a < 256 → b < 256 → c < 256 → Sp 2 0 0 mX11_letters [vR 0 0, vI (nI a), vI (nI b), vI (nI c)] (mdl (wQm m s')) (PoV (mdl (wQm m (lt3 I a b c s')))) := fun s' a b c h ha hb hc => n_letters hI s' h a b c ha hb hc
  refine B.run okX11_word [] 60 ?_
  refine At.mI [] [] B.1 (n_sign hI s hs) kX11_sign ln_X11_217 F (dcV okX11_word rfl) ?_
  rcases hf with rfl | rfl | rfl | rfl | rfl | rfl
  · refine B.run okX11_word [] 60 ?_
    refine ⟨fun _ => ?_, fun w => absurd rfl w⟩
    have e : wd I 116 s = (116, lt3 I 97 110 107 (s)) := rfl
    refine B.run okX11_word [] 60 ?_
    refine At.mV [vI (nI 97), vI (nI 110), vI (nI 107)] [] B.1 (S3 (s) 97 110 107 (hs) (by decide) (by decide) (by decide)) kX11_letters ln_X11_226 F2 (dcV okX11_word rfl) ?_
    refine B.run okX11_word [] 60 ?_
    exact rI (by rw [e]; rfl) (by rw [e])
  · refine B.run okX11_word [] 60 ?_
    refine ⟨fun w => absurd w (by decide), fun _ => ?_⟩
    refine ⟨fun w => absurd w (by decide), fun _ => ?_⟩
    refine ⟨fun _ => ?_, fun w => absurd rfl w⟩
    constructor
    · intro w
      have ha := (at_ 101 (by decide)).mp w
      have e : wd I 108 s = (107, lt3 I 101 97 107 (s)) := by
        show (if atB I s.1 101 = true then _ else _) = _
        rw [if_pos ha]
      refine B.run okX11_word [] 60 ?_
      refine At.mV [vI (nI 101), vI (nI 97), vI (nI 107)] [] B.1 (S3 (s) 101 97 107 (hs) (by decide) (by decide) (by decide)) kX11_letters ln_X11_226 F2 (dcV okX11_word rfl) ?_
      refine B.run okX11_word [] 60 ?_
      exact rI (by rw [e]; rfl) (by rw [e])
    · intro w
      have hn : ¬ atB I s.1 101 = true := fun z => w ((at_ 101 (by decide)).mpr z)
      refine ⟨fun _ => ?_, fun w => absurd rfl w⟩
      have e : wd I 108 s = (108, lt3 I 111 97 100 (s)) := by
        show (if atB I s.1 101 = true then _ else _) = _
        rw [if_neg hn]
      refine B.run okX11_word [] 60 ?_
      refine At.mV [vI (nI 111), vI (nI 97), vI (nI 100)] [] B.1 (S3 (s) 111 97 100 (hs) (by decide) (by decide) (by decide)) kX11_letters ln_X11_226 F2 (dcV okX11_word rfl) ?_
      refine B.run okX11_word [] 60 ?_
      exact rI (by rw [e]; rfl) (by rw [e])
  · refine B.run okX11_word [] 60 ?_
    refine ⟨fun w => absurd w (by decide), fun _ => ?_⟩
    refine ⟨fun _ => ?_, fun w => absurd rfl w⟩
    have e : wd I 117 s = (117, nd I 100 (nd I 97 (lt3 I 110 108 111 (s)))) := rfl
    refine B.run okX11_word [] 60 ?_
    refine At.mV [vI (nI 110), vI (nI 108), vI (nI 111)] [] B.1 (S3 (s) 110 108 111 (hs) (by decide) (by decide) (by decide)) kX11_letters ln_X11_226 F2 (dcV okX11_word rfl) ?_
    refine B.run okX11_word [] 60 ?_
    refine At.mV [vI (nI 97)] [] B.1 (n_needs hI (lt3 I 110 108 111 (s)) (okQ_lt3 hl (hs)) 97 (by decide)) kX11_needs ln_X11_220 F1 (dcV okX11_word rfl) ?_
    refine B.run okX11_word [] 60 ?_
    refine At.mV [vI (nI 100)] [] B.1 (n_needs hI (nd I 97 (lt3 I 110 108 111 (s))) (okQ_nd hl (okQ_lt3 hl (hs))) 100 (by decide)) kX11_needs ln_X11_220 F1 (dcV okX11_word rfl) ?_
    refine B.run okX11_word [] 60 ?_
    exact rI (by rw [e]; rfl) (by rw [e])
  · refine B.run okX11_word [] 60 ?_
    refine ⟨fun w => absurd w (by decide), fun _ => ?_⟩
    refine ⟨fun w => absurd w (by decide), fun _ => ?_⟩
    refine ⟨fun w => absurd w (by decide), fun _ => ?_⟩
    refine ⟨fun w => absurd w (by decide), fun _ => ?_⟩
    refine ⟨fun _ => ?_, fun w => absurd rfl w⟩
    constructor
    · intro w
      have ha := (at_ 116 (by decide)).mp w
      have e : wd I 115 s = (111, nd I 109 (lt3 I 116 111 114 (s))) := by
        show (if atB I s.1 116 = true then _ else _) = _
        rw [if_pos ha]
      refine B.run okX11_word [] 60 ?_
      refine At.mV [vI (nI 116), vI (nI 111), vI (nI 114)] [] B.1 (S3 (s) 116 111 114 (hs) (by decide) (by decide) (by decide)) kX11_letters ln_X11_226 F2 (dcV okX11_word rfl) ?_
      refine B.run okX11_word [] 60 ?_
      refine At.mV [vI (nI 109)] [] B.1 (n_needs hI (lt3 I 116 111 114 (s)) (okQ_lt3 hl (hs)) 109 (by decide)) kX11_needs ln_X11_220 F1 (dcV okX11_word rfl) ?_
      refine B.run okX11_word [] 60 ?_
      exact rI (by rw [e]; rfl) (by rw [e])
    · intro w
      have hn : ¬ atB I s.1 116 = true := fun z => w ((at_ 116 (by decide)).mpr z)
      refine ⟨fun _ => ?_, fun w => absurd rfl w⟩
      have e : wd I 115 s = (105, nd I 116 (lt3 I 104 105 102 (s))) := by
        show (if atB I s.1 116 = true then _ else _) = _
        rw [if_neg hn]
      refine B.run okX11_word [] 60 ?_
      refine At.mV [vI (nI 104), vI (nI 105), vI (nI 102)] [] B.1 (S3 (s) 104 105 102 (hs) (by decide) (by decide) (by decide)) kX11_letters ln_X11_226 F2 (dcV okX11_word rfl) ?_
      refine B.run okX11_word [] 60 ?_
      refine At.mV [vI (nI 116)] [] B.1 (n_needs hI (lt3 I 104 105 102 (s)) (okQ_lt3 hl (hs)) 116 (by decide)) kX11_needs ln_X11_220 F1 (dcV okX11_word rfl) ?_
      refine B.run okX11_word [] 60 ?_
      exact rI (by rw [e]; rfl) (by rw [e])
  · refine B.run okX11_word [] 60 ?_
    refine ⟨fun w => absurd w (by decide), fun _ => ?_⟩
    refine ⟨fun w => absurd w (by decide), fun _ => ?_⟩
    refine ⟨fun w => absurd w (by decide), fun _ => ?_⟩
    refine ⟨fun w => absurd w (by decide), fun _ => ?_⟩
    refine ⟨fun w => absurd w (by decide), fun _ => ?_⟩
    refine ⟨fun w => absurd w (by decide), fun _ => ?_⟩
    refine ⟨fun _ => ?_, fun w => absurd rfl w⟩
    constructor
    · intro w
      have ha := (at_ 111 (by decide)).mp w
      have e : wd I 112 s = (119, nd I 114 (lt3 I 111 119 101 (s))) := by
        show (if atB I s.1 111 = true then _ else _) = _
        rw [if_pos ha]
      refine B.run okX11_word [] 60 ?_
      refine At.mV [vI (nI 111), vI (nI 119), vI (nI 101)] [] B.1 (S3 (s) 111 119 101 (hs) (by decide) (by decide) (by decide)) kX11_letters ln_X11_226 F2 (dcV okX11_word rfl) ?_
      refine B.run okX11_word [] 60 ?_
      refine At.mV [vI (nI 114)] [] B.1 (n_needs hI (lt3 I 111 119 101 (s)) (okQ_lt3 hl (hs)) 114 (by decide)) kX11_needs ln_X11_220 F1 (dcV okX11_word rfl) ?_
      refine B.run okX11_word [] 60 ?_
      exact rI (by rw [e]; rfl) (by rw [e])
    · intro w
      have hn : ¬ atB I s.1 111 = true := fun z => w ((at_ 111 (by decide)).mpr z)
      refine ⟨fun _ => ?_, fun w => absurd rfl w⟩
      have e : wd I 112 s = (109, lt3 I 117 109 112 (s)) := by
        show (if atB I s.1 111 = true then _ else _) = _
        rw [if_neg hn]
      refine B.run okX11_word [] 60 ?_
      refine At.mV [vI (nI 117), vI (nI 109), vI (nI 112)] [] B.1 (S3 (s) 117 109 112 (hs) (by decide) (by decide) (by decide)) kX11_letters ln_X11_226 F2 (dcV okX11_word rfl) ?_
      refine B.run okX11_word [] 60 ?_
      exact rI (by rw [e]; rfl) (by rw [e])
  · refine B.run okX11_word [] 60 ?_
    refine ⟨fun w => absurd w (by decide), fun _ => ?_⟩
    refine ⟨fun w => absurd w (by decide), fun _ => ?_⟩
    refine ⟨fun w => absurd w (by decide), fun _ => ?_⟩
    refine ⟨fun w => absurd w (by decide), fun _ => ?_⟩
    refine ⟨fun w => absurd w (by decide), fun _ => ?_⟩
    refine ⟨fun w => absurd w (by decide), fun _ => ?_⟩
    refine ⟨fun w => absurd w (by decide), fun _ => ?_⟩
    refine ⟨fun w => absurd w (by decide), fun _ => ?_⟩
    constructor
    · intro w
      have ha := (at_ 105 (by decide)).mp w
      have e : wd I 109 s = (110, lt3 I 116 101 115 (lt3 I 105 110 117 (s))) := by
        show (if atB I s.1 105 = true then _ else _) = _
        rw [if_pos ha]
      refine B.run okX11_word [] 60 ?_
      refine At.mV [vI (nI 105), vI (nI 110), vI (nI 117)] [] B.1 (S3 (s) 105 110 117 (hs) (by decide) (by decide) (by decide)) kX11_letters ln_X11_226 F2 (dcV okX11_word rfl) ?_
      refine B.run okX11_word [] 60 ?_
      refine At.mV [vI (nI 116), vI (nI 101), vI (nI 115)] [] B.1 (S3 (lt3 I 105 110 117 (s)) 116 101 115 (okQ_lt3 hl (hs)) (by decide) (by decide) (by decide)) kX11_letters ln_X11_226 F2 (dcV okX11_word rfl) ?_
      refine B.run okX11_word [] 60 ?_
      exact rI (by rw [e]; rfl) (by rw [e])
    · intro w
      have ha : ¬ atB I s.1 105 = true := fun z => w ((at_ 105 (by decide)).mpr z)
      have e : wd I 109 s = (118, lt3 I 111 118 101 (s)) := by
        show (if atB I s.1 105 = true then _ else _) = _
        rw [if_neg ha]
      refine B.run okX11_word [] 60 ?_
      refine At.mV [vI (nI 111), vI (nI 118), vI (nI 101)] [] B.1 (S3 (s) 111 118 101 (hs) (by decide) (by decide) (by decide)) kX11_letters ln_X11_226 F2 (dcV okX11_word rfl) ?_
      refine B.run okX11_word [] 60 ?_
      exact rI (by rw [e]; rfl) (by rw [e])
end NW
