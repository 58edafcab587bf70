/-! ===== a program carried out: class and model ===== -/
theorem kd_knd : ∀ j, j < 10 → knd (kdJ j) := by
  refine ten ?_ ?_ ?_ ?_ ?_ ?_ ?_ ?_ ?_ ?_ <;> (unfold knd; decide)
theorem fe_eq {S T : SH} (h : SP S T) {a b c b' c' : Int32} : ∀ o, o < 10 → (2 ≤ usN o → b' = b) → (3 ≤ usN o → c' = c) → fKm (kdJ o) T a b' c' = fK o S a b c ∧ (fK o S a b c = 0 → SP (eK o S a b c) (eKm (kdJ o) T a b' c')) := by
  refine ten ?_ ?_ ?_ ?_ ?_ ?_ ?_ ?_ ?_ ?_
  · intro hb _
    rw [hb (by decide)]
    exact ⟨(h.add a b).2, fun _ => (h.add a b).1⟩
  · intro hb _
    rw [hb (by decide)]
    exact ⟨(h.put a b).2, fun _ => (h.put a b).1⟩
  · intro _ _
    exact ⟨(h.rem a).2, fun _ => (h.rem a).1⟩
  · intro hb _
    rw [hb (by decide)]
    exact ⟨(h.car a b).2, fun _ => (h.car a b).1⟩
  · intro hb _
    rw [hb (by decide)]
    exact ⟨(h.rat a b).2.2, fun _ => (h.rat a b).1⟩
  · intro hb _
    rw [hb (by decide)]
    exact ⟨(h.rat a b).2.2, fun _ => (h.rat a b).2.1⟩
  · intro hb hc
    rw [hb (by decide), hc (by decide)]
    exact ⟨(h.mov a b c).2, fun _ => (h.mov a b c).1⟩
  · intro _ _
    exact ⟨rfl, fun _ => (h.pow a).1⟩
  · intro hb _
    rw [hb (by decide)]
    exact ⟨h.fsch a b, fun hf => h.sch hf⟩
  · intro _ _
    exact ⟨(h.pas a).2, fun _ => (h.pas a).1⟩
/-- the commands from i on -/
theorem rn_eq {nn : Nat} {C : FI} {kw : Nat → Nat} {rw' : Nat → FI} (hA : AGP nn C kw rw') : ∀ (n i : Nat) {S T : SH}, i + n ≤ nn → SP S T → (rnM C (fun k => kdJ (kw k)) n i T).1 = (rnF kw rw' n i S).1 ∧ SP (rnF kw rw' n i S).2 (rnM C (fun k => kdJ (kw k)) n i T).2
  | 0, i, S, T, _, h => ⟨rfl, h⟩
  | n + 1, i, S, T, hi, h => by
    obtain ⟨h1, h2, h3, h4, h5⟩ := hA i (by omega)
    obtain ⟨e1, e2⟩ := fe_eq h (a := rw' i 0) (b := rw' i 1) (c := rw' i 2) (b' := C (4 * i + 2)) (c' := C (4 * i + 3)) (kw i) h1 h4 h5
    unfold rnM rnF
    rw [h3, e1]
    by_cases f : fK (kw i) S (rw' i 0) (rw' i 1) (rw' i 2) = 0
    · rw [if_pos f, if_pos f]
      exact rn_eq hA n (i + 1) (by omega) (e2 f)
    · rw [if_neg f, if_neg f]
      exact ⟨rfl, h⟩
