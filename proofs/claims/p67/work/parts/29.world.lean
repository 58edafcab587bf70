/-! ===== throw sites; calls over the whole heap; the world of BallastControl ===== -/
def xI : String := "java/lang/IndexOutOfBoundsException"
def xA : String := "java/lang/IllegalArgumentException"
def xS : String := "java/lang/IllegalStateException"
def xN : String := "java/util/NoSuchElementException"
def xM : String := "java/lang/ArithmeticException"
def nRE : List String := ["java/lang/RuntimeException", "java/lang/Exception"]
theorem mFT {w : Cond} (i : Nat) (h : tables_1[i]? = some w) (g : (w.onTables && w.keepsFace) = true) : w ∈ FT := List.mem_filter.mpr ⟨List.mem_append_right _ (List.mem_of_getElem? h), g⟩
theorem FT_all {l : List Cond} (h1 : ∀ w ∈ l, w ∈ lw_tbl) (h2 : l.all (fun w => w.onTables && w.keepsFace) = true) : ∀ w ∈ l, w ∈ FT := fun w hw => List.mem_filter.mpr ⟨h1 w hw, List.all_eq_true.mp h2 w hw⟩
theorem T_I : TSok RX10 231 235 xI nRE := ⟨by decide +kernel, by decide +kernel, FT_all (l := [_]) (by decide +kernel) (by decide +kernel) _ List.mem_cons_self, FT_all (l := [_]) (by decide +kernel) (by decide +kernel) _ List.mem_cons_self, FT_all (by decide +kernel) (by decide +kernel), by decide +kernel⟩
