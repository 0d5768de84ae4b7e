/-! further words: what getClass, clone and arraycopy ask -/
theorem oc_sel : Cond.selects "[Ljava/lang/Object;" ⟨"java/lang/Object", "getClass", "()Ljava/lang/Class;"⟩ ⟨"java/lang/Object", "getClass", "()Ljava/lang/Class;"⟩ ∈ zgood := zg_10 34 (by decide +kernel) rfl
theorem oc_inst : Cond.instanceMethod ⟨"java/lang/Object", "getClass", "()Ljava/lang/Class;"⟩ ∈ zgood := zg_3 155 (by decide +kernel) rfl
theorem oc_nat : Cond.native ⟨"java/lang/Object", "getClass", "()Ljava/lang/Class;"⟩ ∈ zgood := zg_3 178 (by decide +kernel) rfl
theorem oc_decl : Cond.declares ⟨"java/lang/Object", "getClass", "()Ljava/lang/Class;"⟩ ∈ zcast := zh_10 35 (by decide +kernel) rfl
theorem cl_same : Cond.sameMethod "[I" "java/lang/Object" "clone" "()Ljava/lang/Object;" ∈ zgood := zg_2 155 (by decide +kernel) rfl
theorem cl_nat : Cond.native ⟨"java/lang/Object", "clone", "()Ljava/lang/Object;"⟩ ∈ zgood := zg_2 156 (by decide +kernel) rfl
theorem cl_inst : Cond.instanceMethod ⟨"java/lang/Object", "clone", "()Ljava/lang/Object;"⟩ ∈ zgood := zg_2 157 (by decide +kernel) rfl
theorem cl_sel : Cond.selects "[I" ⟨"[I", "clone", "()Ljava/lang/Object;"⟩ ⟨"java/lang/Object", "clone", "()Ljava/lang/Object;"⟩ ∈ zgood := zg_2 158 (by decide +kernel) rfl
theorem cl_cast : Cond.castable "[I" RJx8e188 ∈ zcast := zh_2 159 (by decide +kernel) rfl
theorem ac_nat : Cond.native arraycopyName ∈ zgood := zg_2 166 (by decide +kernel) rfl
theorem ac_stat : Cond.static arraycopyName ∈ zgood := zg_2 165 (by decide +kernel) rfl
theorem ac_ini : Cond.initialized RJ10 ∈ zgood := zg_1 14 (by decide +kernel) rfl
