/-! ===== WHAT IS GIVEN OF THE STATICS: the constants of Fault, nest links, the texts of exceptions, face words ===== -/
def exL : List (String × Nat × String) := [(RX10, 141, "no transfer makes the moment smaller"), (RX10, 165, "limit out of range"), (RX10, 230, "no such rank"), (RX10, 233, "never full"), (RX10, 238, "no such position"), (RX10, 253, "no piece on board"), (RX10, 288, "transfers do not balance the ship"), (RX10, 293, "number of minutes out of range"), (RX10, 295, "does not sink"), (RX10, 300, "no storm is scheduled"), (RX10, 311, "the log has no such position"), (RX10, 365, "the line has no such index"), (RX10, 371, "character out of range"), (RX10, 373, "the buffer is full"), (RX10, 387, "malformed program"), (RX10, 414, "a command failed"), (RX10, 420, "no program was malformed"), (RX10, 422, "no command failed"), (RX10, 425, "no change can be undone"), (RX10, 434, "there is no saved copy"), (RX10, 445, "no such compartment"), (RX10, 447, "argument out of range"), (RX10, 452, "not possible now"), (RX10, 457, "no such piece"), (RX10, 464, "no compartments"), (RX10, 471, "no such storm"), (RX10, 476, "no transfer is possible"), (RX10, 481, "no piece can be moved")]
def FT : List Cond := lw_tbl.filter (fun w => w.onTables && w.keepsFace)
def St (κ : Nat → Nat) (A : Nat → Prop) (U : State) (H : Heap) : Prop :=
  va_En RX3 "LBallastControl$Fault;" ["NONE", "NO_INDEX", "BAD_ARGUMENT", "BAD_STATE", "NO_ELEMENT"] [] κ A U H ∧ (∀ q ∈ NWm, va_Nw (.methodLinkNest q.1 q.2.1 q.2.2 RX10) U) ∧ (∀ q ∈ exL, ∃ sa, vk_R q.1 q.2.1 q.2.2 sa U) ∧ (∀ w ∈ FT, w.before #[] U = true) ∧
  vx_Zq Bundle.tN "UNASSIGNED_STACK" Bundle.steD A U H ∧ vx_Zq Bundle.tN "SUPPRESSED_SENTINEL" Bundle.listD A U H
theorem St.kept {κ : Nat → Nat} {A : Nat → Prop} {U : State} {H H1 : Heap} (h : St κ A U H) (hq : ∀ a : Nat, a < H.size → ¬ A a → H1[a]? = H[a]?) : St κ A U H1 := ⟨h.1.kept hq, h.2.1, h.2.2.1, h.2.2.2.1, h.2.2.2.2.1.kept hq, h.2.2.2.2.2.kept hq⟩
theorem St.narrow {κ : Nat → Nat} {A B : Nat → Prop} {U : State} {H : Heap} (h : St κ A U H) (hAB : ∀ q, B q → A q) : St κ B U H := ⟨h.1.narrow hAB, h.2.1, h.2.2.1, h.2.2.2.1, h.2.2.2.2.1.narrow hAB, h.2.2.2.2.2.narrow hAB⟩
theorem FT_warm {s U : State} (hW : s.WarmedH U.vm) {w : Cond} (hw : w ∈ FT) (h : w.before #[] s = true) : w.before #[] U = true := by
  have h2 := (List.mem_filter.mp hw).2
  simp only [Bool.and_eq_true] at h2
  exact va_tabs h2.1 (rfl : (s.setVm U.vm).vm = U.vm) (Cond.before_shiftedFace (State.Shifted.of_warmed hW) w h2.2 h)
theorem St.warm {κ : Nat → Nat} {A : Nat → Prop} {s U : State} {H : Heap} (hW : s.WarmedH U.vm) (h : St κ A s H) : St κ A U H :=
  ⟨va_En.moved hW.alike h.1, fun q hq => va_Nw.warmM hW (h.2.1 q hq), fun q hq => by obtain ⟨sa, h9⟩ := h.2.2.1 q hq; exact ⟨sa, vk_R.warm hW h9⟩, fun w hw => FT_warm hW hw (h.2.2.2.1 w hw), vx_Zq.moved hW.alike h.2.2.2.2.1, vx_Zq.moved hW.alike h.2.2.2.2.2⟩
theorem St.same {κ : Nat → Nat} {A : Nat → Prop} {s U : State} {H : Heap} (hv : U.vm = s.vm) (h : St κ A s H) : St κ A U H := by
  have ha : s.vm.Alike U.vm := by rw [hv]; exact Vm.Alike.refl s.vm
  exact ⟨va_En.moved ha h.1, fun q hq => va_Nw.same rfl hv.symm (h.2.1 q hq), fun q hq => by obtain ⟨sa, h9⟩ := h.2.2.1 q hq; exact ⟨sa, vk_R.same hv h9⟩,
    fun w hw => by
      have h2 := (List.mem_filter.mp hw).2
      simp only [Bool.and_eq_true] at h2
      exact va_tabs h2.1 hv.symm (h.2.2.2.1 w hw), vx_Zq.moved ha h.2.2.2.2.1, vx_Zq.moved ha h.2.2.2.2.2⟩
theorem TS_probe1 : ∀ w ∈ vx_atS RX10 143 "java/lang/IllegalStateException" ["java/lang/RuntimeException", "java/lang/Exception"], vx_ot w = true := by decide +kernel
