/-! the law's start: what the statement says of it, by its places -/
def wfl : List Cond := flatC (Jvm.Cond.and given_1 narrow_1)
/-- which String constant stands for the n-th text: class, entry, its place in the list above -/
def wsl : List (String × Nat × Nat) := [(RX3, 75, 359), (RX3, 96, 391), (RX3, 83, 447), (RX3, 108, 453), (RX3, 114, 460), (RX3, 106, 518), (RX3, 101, 525), (RX5, 43, 531), (RX5, 50, 556), (RX12, 291, 588), (RX12, 293, 596), (RX12, 295, 603), (RX12, 297, 612), (RX12, 299, 620), (RX12, 301, 627), (RX12, 238, 635), (RX12, 240, 643), (RX12, 242, 652), (RX12, 244, 663), (RX12, 246, 671), (RX12, 248, 682), (RX12, 250, 692), (RX12, 252, 702), (RX12, 220, 727), (RX12, 222, 734), (RX12, 224, 744), (RX12, 226, 753), (RX12, 228, 763), (RX12, 230, 772), (RX12, 232, 781), (RX12, 234, 789), (RX12, 236, 799)]
def wsd (n : Nat) : String × Nat × Nat := wsl.getD n (RX3, 0, 0)
def wstm (n : Nat) : Term := .string (wsd n).1 (wsd n).2.1
theorem wfl_s : ∀ n, n < 32 → wfl[(wsd n).2.2]? = some (.exactly (wstm n) "java/lang/String") ∧ wfl[(wsd n).2.2 + 1]? = some (.eq (.field (wstm n) "java/lang/String" "coder" "B") (.int 0)) ∧ wfl[(wsd n).2.2 + 2]? = some (.arrayOf (.field (wstm n) "java/lang/String" "value" "[B") .byte) ∧ wfl[(wsd n).2.2 + 3]? = some (.eq (.length (.field (wstm n) "java/lang/String" "value" "[B")) (.int (Int32.ofNat (zstl n)))) ∧ zstl n < 2 ^ 31 := by decide +kernel
theorem wfl_c : ∀ n, n < 32 → ∀ j, j < zstl n → wfl[(wsd n).2.2 + 4 + j]? = some (.eq (.elem (.field (wstm n) "java/lang/String" "value" "[B") (.int (Int32.ofNat j))) (.int (zstc n j))) := by decide +kernel
theorem wfl_r : ∀ x ∈ zsrf, (Term.string x.1 x.2.1 = wstm x.2.2.2 ∨ Cond.eq (wstm x.2.2.2) (.string x.1 x.2.1) ∈ wfl) ∧ x.2.2.2 < 32 := by decide +kernel
theorem ztb_r : ∀ x ∈ zsrf, Cond.stringRef x.1 x.2.1 x.2.2.1 ∈ lw_tbl := by decide +kernel
theorem wfl_nc : ∀ x ∈ zncs, Cond.not (.castable x.1 x.2) ∈ wfl := by decide +kernel
theorem ztb_nest : ∀ w ∈ znest, w ∈ lw_tbl := by decide +kernel
theorem ztb_ao : Cond.arrayOver (.object "java/lang/Object") ∈ lw_tbl := by decide +kernel
theorem ztb_st : ∀ x ∈ zstat, Cond.laysStatic x.1 x.2.1 x.2.2.1 ∈ lw_tbl ∧ Cond.initialized x.1 ∈ lw_tbl := by decide +kernel
theorem ztb_st2 : Cond.laysStatic Bundle.tN "UNASSIGNED_STACK" Bundle.steD ∈ lw_tbl ∧ Cond.laysStatic Bundle.tN "SUPPRESSED_SENTINEL" Bundle.listD ∈ lw_tbl ∧ Cond.initialized Bundle.tN ∈ lw_tbl := by decide +kernel
theorem ztb_st3 : Cond.laysStatic "java/lang/String" "COMPACT_STRINGS" "Z" ∈ lw_tbl ∧ Cond.initialized "java/lang/String" ∈ lw_tbl := by decide +kernel
theorem ztb_st4 : Cond.laysStatic "jdk/internal/util/Preconditions" "SIOOBE_FORMATTER" "Ljava/util/function/BiFunction;" ∈ lw_tbl ∧ Cond.initialized "jdk/internal/util/Preconditions" ∈ lw_tbl := by decide +kernel
