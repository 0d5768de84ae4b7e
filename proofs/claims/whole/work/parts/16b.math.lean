/-! methods of java.lang.Math: no native stands for them -/
section Bodies
variable {l : Launch}
theorem vx_ofWF {y : MethodName} {ws ws' : List Cond} {rm : Room} {Pc : Array Value → State → Prop} {Qc : Array Value → State → Outcome → State → Prop} {XC : String → State → State → Prop} {mc ms : Nat} {free : Addr → Prop} {cc : ByteArray} {maxL : Nat} {ret : Option FieldType}
    (hy : plainFor y = true) (hw : ws = Cond.code y cc maxL ret :: ws')
    (body : ∀ p e s m args below meth c s₁, BodyLoose p l y (headSpec ws rm) cc maxL ret e s m args below meth c s₁ → c.maxLocals = maxL → (∀ x ∈ c.exceptionTable.toList, False) → Pc args s →
      W p l e (headSpec ws rm).room s m args below meth c s.heap [] 0 0 (vx_MQ below Qc XC args s mc ms free) (entryFrame m args maxL)) : vx_Met l y ws rm Pc Qc XC mc ms free := by
  refine MetFree.of_bodySF (code := cc) (maxLocals := maxL) (ret := ret) hy ?_ ?_
  · intro args s m h hn
    obtain ⟨meth, c, h1, h2, h3, h4, h5, h6, -, -⟩ := Cond.code_spec hn (atoms_spec (ws := ws) h _ (by rw [hw]; exact List.mem_cons_self))
    exact ⟨meth, c, h1, h2, h3, h4, h5, h6⟩
  · intro p e s m args below meth c s₁ B hml hP _
    have hh0 : s₁.heap = s.heap := by rw [B.state]; rfl
    have ht : ∀ x ∈ c.exceptionTable.toList, False := by
      obtain ⟨meth9, c9, h1, h2, -, -, -, -, h7, -⟩ := Cond.code_spec B.named (atoms_spec (ws := ws) B.pre _ (by rw [hw]; exact List.mem_cons_self))
      cases Option.some.inj (h1.symm.trans B.method)
      cases Option.some.inj (h2.symm.trans (Stand.of_body B).code)
      intro x hx
      rw [Array.isEmpty_iff.mp h7] at hx
      cases hx
    obtain ⟨t, a1, o, b1, b2, b3⟩ := body p e s m args below meth c s₁ B hml ht hP s₁ hh0 (Stand.of_body B)
    exact ⟨t, o, a1, b1, b2, b3⟩
end Bodies
section ZMethF
variable {E : ZE} {l : Launch} {M : ZM} {d b : Nat} {Q : ZQ} {as : List Value} {G : ZG}
theorem z_methF (hy : plainFor M.1 = true) (hn : as.length ≤ M.2.2.1) (hc : ∀ v ∈ as, v.category = 1) (body : zW E l M d b G Q b 0 (zarg as M.2.2.1) [] G) : zMet E l M d b as G Q := by
  intro ρ
  refine vx_ofWF (cc := M.2.1) (maxL := M.2.2.1) (ret := M.2.2.2) (ws' := zgood) hy rfl ?_
  intro p e s m args below meth c s₁ B hml hex hv
  obtain ⟨rfl, hga, hbase, hR, hK, hZ⟩ := hv
  have hts0 := atoms_spec (ws := zws M) B.pre
  have hts : ∀ w ∈ zgood, w.before _ s = true := fun w hw => hts0 w (List.mem_cons_of_mem _ hw)
  have hcv : ∀ v ∈ as.map (zv ρ), v.category = 1 := by
    intro v hv
    obtain ⟨u, hu, rfl⟩ := List.mem_map.mp hv
    rw [zv_cat]; exact hc u hu
  have hlen : (lg_sl (as.map (zv ρ))).length ≤ M.2.2.1 := by rw [lg_sl_len _ hcv, List.length_map]; exact hn
  have hl := lv_entry (as.map (zv ρ)) (n := M.2.2.1) hlen
  rw [lg_entry_eq]
  have hl2 : lv_has (lg_sl (as.map (zv ρ)) ++ List.replicate (M.2.2.1 - (lg_sl (as.map (zv ρ))).length) Slot.unset).toArray M.2.2.1 (zas ρ 0 (zarg as M.2.2.1)) := by
    refine ⟨hl.1, hl.2.1, fun q hq => hl.2.2 q ?_⟩
    obtain ⟨j, v, rfl, hj⟩ := zas_inv _ _ _ hq
    have hj2 := zarg_at hj
    exact lg_args_mem 0 _ hcv j _ (by rw [List.getElem?_map, hj2]; rfl)
  refine body p e _ s m _ below meth c s.heap [] 0 0 ρ ρ _ ⟨B.exec, B.bytes, hml, B.returns, B.notSynchronized, findClass_of_methodNamed B.named, hts, (name_of_methodNamed B.named B.method).1, hex, Nat.le_refl _, Nat.le_refl _, Nat.le_refl _, Nat.le_refl _, hbase, hK, hZ⟩ va_S.rf hR zext.rf ⟨fun i v hi => ?_, fun v hv => nomatch hv⟩ (by omega) (by omega) hl2
  have h1 := List.mem_of_getElem? (zarg_at hi)
  exact ⟨hga v h1, hc v h1⟩
end ZMethF
theorem pl_max : plainFor mJ9_max_7cf53.1 = true := by decide +kernel
theorem pl_min : plainFor mJ9_min_7cf53.1 = true := by decide +kernel
theorem pl_floorDiv : plainFor mJ9_floorDiv_7cf53.1 = true := by decide +kernel
