/-! words at the start -/
theorem st_nest : ∀ q ∈ nestW, Cond.methodLinkNest q.1 q.2.1 q.2.2.1 q.2.2.2 ∈ lw_tbl := by decide +kernel
theorem st_cast : ∀ q ∈ castW, Cond.castable q.1 q.2 ∈ lw_tbl := by decide +kernel
theorem st_ao : ∀ C ∈ aoW, Cond.arrayOver (.object C) ∈ lw_tbl := by decide +kernel
theorem st_decl : ∀ x ∈ declW, Cond.declares x ∈ lw_tbl := by decide +kernel
theorem st_arr : Cond.arrayOver (.array .long) ∈ lw_tbl := by decide +kernel
theorem st_msg : ∀ q ∈ msgW, Cond.stringRef q.1 q.2.1 q.2.2 ∈ lw_tbl := by decide +kernel
theorem st_word : ∀ q ∈ wordW, Cond.stringRef q.1 q.2.1 q.2.2.1 ∈ lw_tbl := by decide +kernel
def nrw : List Cond := flatC (Jvm.Cond.and given_1 narrow_1)
theorem sn_nc : ∀ q ∈ ncW, Cond.not (.castable q.1 q.2) ∈ nrw := by decide +kernel
def rdW : List Nat := [55, 67, 75, 80, 101, 103, 105, 123]
def mdW : List Nat := [163, 168, 178, 173, 148, 154, 156, 161]
def tmR (i : Nat) : Term := .string "MiddleScale$Reader" (rdW.getD i 0)
def tmM (i : Nat) : Term := .string "MiddleScaleModel" (mdW.getD i 0)
theorem sn_msg : ∀ q ∈ msgW, Cond.exactly (.string q.1 q.2.1) "java/lang/String" ∈ nrw := by decide +kernel
theorem sn_ex : ∀ i, i < 8 → Cond.exactly (tmR i) "java/lang/String" ∈ nrw := by decide +kernel
theorem sn_co : ∀ i, i < 8 → Cond.eq (.field (tmR i) "java/lang/String" "coder" "B") (.int 0) ∈ nrw := by decide +kernel
theorem sn_ar : ∀ i, i < 8 → Cond.arrayOf (.field (tmR i) "java/lang/String" "value" "[B") .byte ∈ nrw := by decide +kernel
theorem sn_le : ∀ i, i < 8 → Cond.eq (.length (.field (tmR i) "java/lang/String" "value" "[B")) (.int (Int32.ofNat (lenJS.getD i 0))) ∈ nrw := by decide +kernel
theorem sn_el : ∀ i, i < 8 → ∀ j, j < lenJS.getD i 0 → Cond.eq (.elem (.field (tmR i) "java/lang/String" "value" "[B") (.int (Int32.ofNat j))) (.int ((bytJS.getD i []).getD j 0)) ∈ nrw := by decide +kernel
theorem sn_eq : ∀ i, i < 8 → Cond.eq (tmR i) (tmM i) ∈ nrw := by decide +kernel
theorem sn_cs : Cond.eq (.static "java/lang/String" "COMPACT_STRINGS" "Z") (.int 1) ∈ nrw := by decide +kernel
theorem sn_us : Cond.isRef (.static Bundle.tN "UNASSIGNED_STACK" Bundle.steD) ∈ nrw := by decide +kernel
theorem sn_ss : Cond.isRef (.static Bundle.tN "SUPPRESSED_SENTINEL" Bundle.listD) ∈ nrw := by decide +kernel
theorem sn_fm : Cond.isRef (.static "jdk/internal/util/Preconditions" "SIOOBE_FORMATTER" "Ljava/util/function/BiFunction;") ∈ nrw := by decide +kernel
theorem st_fm : Cond.laysStatic "jdk/internal/util/Preconditions" "SIOOBE_FORMATTER" "Ljava/util/function/BiFunction;" ∈ lw_tbl ∧ Cond.initialized "jdk/internal/util/Preconditions" ∈ lw_tbl := by decide +kernel
theorem st_cs : Cond.laysStatic "java/lang/String" "COMPACT_STRINGS" "Z" ∈ lw_tbl ∧ Cond.initialized "java/lang/String" ∈ lw_tbl ∧ Cond.laysStatic Bundle.tN "UNASSIGNED_STACK" Bundle.steD ∈ lw_tbl ∧ Cond.laysStatic Bundle.tN "SUPPRESSED_SENTINEL" Bundle.listD ∈ lw_tbl ∧ Cond.initialized Bundle.tN ∈ lw_tbl := by decide +kernel
theorem st_cl : ∀ q ∈ vwCl, (∀ w ∈ u_ws q.1 q.2.1 q.2.2, w ∈ lw_tbl) ∧ Cond.instantiable q.1 q.2.2 ∈ lw_tbl := by decide +kernel
theorem word_ok : ∀ q ∈ wordW, q.2.2.2 < 8 ∧ ((q.1 = "MiddleScale$Reader" ∧ q.2.1 = rdW.getD q.2.2.2 0) ∨ (q.1 = "MiddleScaleModel" ∧ q.2.1 = mdW.getD q.2.2.2 0)) := by decide +kernel
theorem byt_ne : ∀ i, i < 8 → ∀ j, j < 8 → i ≠ j → lenJS.getD i 0 = lenJS.getD j 0 → ∃ k, k < lenJS.getD i 0 ∧ (bytJS.getD i []).getD k 0 ≠ (bytJS.getD j []).getD k 0 := by
  have : ∀ i, i < 8 → ∀ j, j < 8 → i ≠ j → lenJS.getD i 0 = lenJS.getD j 0 → (List.range (lenJS.getD i 0)).any (fun k => decide ((bytJS.getD i []).getD k 0 ≠ (bytJS.getD j []).getD k 0)) = true := by decide +kernel
  intro i hi j hj h1 h2
  obtain ⟨k, k1, k2⟩ := List.any_eq_true.mp (this i hi j hj h1 h2)
  exact ⟨k, List.mem_range.mp k1, of_decide_eq_true k2⟩
theorem len_lt : ∀ i, i < 8 → ∀ j, j < 8 → lenJS.getD i 0 < 2 ^ 31 ∧ (Int32.ofNat (lenJS.getD i 0) = Int32.ofNat (lenJS.getD j 0) → lenJS.getD i 0 = lenJS.getD j 0) := by decide +kernel
