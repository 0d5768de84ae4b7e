/-! the law's start: what the statement says of it, by its places -/
def wfl : List Cond := flatC (Jvm.Cond.and given_1 narrow_1)
/-- which String constant stands for the n-th text: class, entry, its place in the list above -/
def wsl : List (String × Nat × Nat) := [(RX3, 75, 143), (RX3, 96, 175), (RX3, 83, 231), (RX3, 108, 237), (RX3, 114, 244), (RX3, 106, 302), (RX3, 101, 309), (RX5, 43, 315), (RX5, 50, 340), (RX12, 291, 365), (RX12, 293, 373), (RX12, 295, 380), (RX12, 297, 389), (RX12, 299, 397), (RX12, 301, 404), (RX12, 238, 412), (RX12, 240, 420), (RX12, 242, 429), (RX12, 244, 440), (RX12, 246, 448), (RX12, 248, 459), (RX12, 250, 469), (RX12, 252, 479), (RX12, 220, 504), (RX12, 222, 511), (RX12, 224, 521), (RX12, 226, 530), (RX12, 228, 540), (RX12, 230, 549), (RX12, 232, 558), (RX12, 234, 566), (RX12, 236, 576)]
def wsd (n : Nat) : String × Nat × Nat := wsl.getD n (RX3, 0, 0)
def wstm (n : Nat) : Term := .string (wsd n).1 (wsd n).2.1
theorem wfl_s : ∀ n, n < 32 → wfl[(wsd n).2.2]? = some (.exactly (wstm n) "java/lang/String") ∧ wfl[(wsd n).2.2 + 1]? = some (.eq (.field (wstm n) "java/lang/String" "coder" "B") (.int 0)) ∧ wfl[(wsd n).2.2 + 2]? = some (.arrayOf (.field (wstm n) "java/lang/String" "value" "[B") .byte) ∧ wfl[(wsd n).2.2 + 3]? = some (.eq (.length (.field (wstm n) "java/lang/String" "value" "[B")) (.int (Int32.ofNat (zstl n)))) ∧ zstl n < 2 ^ 31 := by decide +kernel
theorem wfl_c : ∀ n, n < 32 → ∀ j, j < zstl n → wfl[(wsd n).2.2 + 4 + j]? = some (.eq (.elem (.field (wstm n) "java/lang/String" "value" "[B") (.int (Int32.ofNat j))) (.int (zstc n j))) := by decide +kernel
theorem wfl_r : ∀ x ∈ zsrf, (Term.string x.1 x.2.1 = wstm x.2.2.2 ∨ Cond.eq (wstm x.2.2.2) (.string x.1 x.2.1) ∈ wfl) ∧ x.2.2.2 < 32 := by decide +kernel
theorem ztb_r : ∀ x ∈ zsrf, Cond.stringRef x.1 x.2.1 x.2.2.1 ∈ lw_tbl := by decide +kernel
theorem wfl_nc : ∀ x ∈ zncs, Cond.not (.castable x.1 x.2) ∈ wfl := by decide +kernel
theorem ztb_nest : ∀ w ∈ znest, w ∈ lw_tbl := by decide +kernel
theorem ztb_ao : Cond.arrayOver (.object "java/lang/Object") ∈ lw_tbl := by decide +kernel
theorem ztb_st : ∀ x ∈ zstat, Cond.laysStatic x.1 x.2.1 x.2.2.1 ∈ lw_tbl ∧ Cond.initialized x.1 ∈ lw_tbl := by decide +kernel
theorem ztb_st2 : Cond.laysStatic Bundle.tN "UNASSIGNED_STACK" Bundle.steD ∈ lw_tbl ∧ Cond.laysStatic Bundle.tN "SUPPRESSED_SENTINEL" Bundle.listD ∈ lw_tbl ∧ Cond.initialized Bundle.tN ∈ lw_tbl := by decide +kernel
theorem ztb_st3 : Cond.laysStatic "java/lang/String" "COMPACT_STRINGS" "Z" ∈ lw_tbl ∧ Cond.initialized "java/lang/String" ∈ lw_tbl := by decide +kernel
theorem ztb_st4 : Cond.laysStatic "jdk/internal/util/Preconditions" "SIOOBE_FORMATTER" "Ljava/util/function/BiFunction;" ∈ lw_tbl ∧ Cond.initialized "jdk/internal/util/Preconditions" ∈ lw_tbl := by decide +kernel
