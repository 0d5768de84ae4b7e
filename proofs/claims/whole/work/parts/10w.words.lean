/-! further words: what getClass, clone and arraycopy ask -/
theorem oc_sel : Cond.selects "[Ljava/lang/Object;" ⟨"java/lang/Object", "getClass", "()Ljava/lang/Class;"⟩ ⟨"java/lang/Object", "getClass", "()Ljava/lang/Class;"⟩ ∈ zgood := zg_9 53 (by decide +kernel) rfl
theorem oc_inst : Cond.instanceMethod ⟨"java/lang/Object", "getClass", "()Ljava/lang/Class;"⟩ ∈ zgood := zg_3 151 (by decide +kernel) rfl
theorem oc_nat : Cond.native ⟨"java/lang/Object", "getClass", "()Ljava/lang/Class;"⟩ ∈ zgood := zg_3 172 (by decide +kernel) rfl
theorem oc_decl : Cond.declares ⟨"java/lang/Object", "getClass", "()Ljava/lang/Class;"⟩ ∈ zcast := zh_9 54 (by decide +kernel) rfl
theorem cl_same : Cond.sameMethod "[I" "java/lang/Object" "clone" "()Ljava/lang/Object;" ∈ zgood := zg_2 81 (by decide +kernel) rfl
theorem cl_nat : Cond.native ⟨"java/lang/Object", "clone", "()Ljava/lang/Object;"⟩ ∈ zgood := zg_2 82 (by decide +kernel) rfl
theorem cl_inst : Cond.instanceMethod ⟨"java/lang/Object", "clone", "()Ljava/lang/Object;"⟩ ∈ zgood := zg_2 83 (by decide +kernel) rfl
theorem cl_sel : Cond.selects "[I" ⟨"[I", "clone", "()Ljava/lang/Object;"⟩ ⟨"java/lang/Object", "clone", "()Ljava/lang/Object;"⟩ ∈ zgood := zg_2 84 (by decide +kernel) rfl
theorem cl_cast : Cond.castable "[I" RJx8e188 ∈ zcast := zh_2 85 (by decide +kernel) rfl
theorem ac_nat : Cond.native arraycopyName ∈ zgood := zg_2 92 (by decide +kernel) rfl
theorem ac_stat : Cond.static arraycopyName ∈ zgood := zg_2 91 (by decide +kernel) rfl
theorem ac_ini : Cond.initialized RJ10 ∈ zgood := zg_1 12 (by decide +kernel) rfl
