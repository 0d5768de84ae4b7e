/-! RULES: methods with handlers -/
def zCxH (hh : List (Nat × Nat × Nat × Nat)) (E : ZE) (M : ZM) (d b : Nat) (p : Program) (R : Room) (s : State) (m : MethodId) (args : Array Value) (meth : Method) (c : Code) : Prop :=
  p.tables.exec = Jvm.exec ∧ c.code = M.2.1 ∧ c.maxLocals = M.2.2.1 ∧ meth.sig.returnType = M.2.2.2 ∧ meth.locks = false ∧ s.vm.findClass M.1.cls = some m.cls ∧ (∀ w ∈ zgood, w.before args s = true) ∧ meth.name = M.1.name ∧ c.exceptionTable.toList = tableOf hh ∧
  d ≤ R.frames ∧ 40 * d ≤ R.locals ∧ b ≤ R.cells ∧ b ≤ R.slots ∧ E.2.2.1 ≤ s.heap.size ∧ ZK E s ∧ ZS E s s.heap
def zWH (hh : List (Nat × Nat × Nat × Nat)) (E : ZE) (l : Launch) (M : ZM) (d b : Nat) (G0 : ZG) (Q : ZQ) (k pc : Nat) (ls : List (Option Value)) (st : List Value) (G : ZG) : Prop :=
  ∀ (p : Program) (e : Env) (R : Room) (s : State) (m : MethodId) (args : Array Value) (below : List Frame) (meth : Method) (c : Code) (H : Heap) (locs : List Loc) (cells slots : Nat) (ρ0 ρ : Nat → Nat) (la : Array Slot),
    zCxH hh E M d b p R s m args meth c → va_S (zA E) s.heap H locs → ZR E s ρ G H → zext G0 ρ0 G ρ → zLg G ls st → cells + k ≤ b → slots + k ≤ b → lv_has la M.2.2.1 (zas ρ 0 ls) →
    W p l e R s m args below meth c H locs cells slots (vx_MQ below (zQc E ρ0 G0 Q) (zXC E ρ0 G0 Q) args s b b (zA E)) (F0 m pc la (st.map (zv ρ)))
def zwsH (hh : List (Nat × Nat × Nat × Nat)) (M : ZM) : List Cond := .codeWith M.1 M.2.1 M.2.2.1 M.2.2.2 hh :: zgood
/-- the contract of a method with handlers -/
def zMetH (hh : List (Nat × Nat × Nat × Nat)) (E : ZE) (l : Launch) (M : ZM) (d b : Nat) (as : List Value) (G : ZG) (Q : ZQ) : Prop := ∀ ρ : Nat → Nat, vx_Met l M.1 (zwsH hh M) (zroom d b) (zPc E ρ G as) (zQc E ρ G Q) (zXC E ρ G Q) b b (zA E)
/-- what a static call of it asks -/
def zcH (hh : List (Nat × Nat × Nat × Nat)) (Y : ZM) (n : Nat) : Prop := (∀ w ∈ ([.static Y.1, .initialized Y.1.cls, .codeWith Y.1 Y.2.1 Y.2.2.1 Y.2.2.2 hh] : List Cond), w ∈ zgood) ∧ (Y.1.cls ≠ "java/lang/invoke/MethodHandle" ∧ Y.1.cls ≠ "java/lang/invoke/VarHandle" ∧ (parseMethodDescriptor Y.1.desc).map (fun d => d.parameters.length) = some n) ∧ Y.2.2.1 ≤ 21
/-- which handler takes X, thrown at pc -/
def zHand (M : ZM) (hh : List (Nat × Nat × Nat × Nat)) (pc : Nat) (X : String) (hpc : Nat) : Prop := ∃ (pre : List ExceptionTableEntry) (x : ExceptionTableEntry) (suf : List ExceptionTableEntry), tableOf hh = pre ++ x :: suf ∧ (∀ z ∈ pre, covers z pc = false ∨ (z.catchType ≠ 0 ∧ ∃ nm : String, Cond.classLink M.1.cls z.catchType nm ∈ zgood ∧ (X, nm) ∈ zncs)) ∧ covers x pc = true ∧ x.catchType ≠ 0 ∧ (∃ name : String, Cond.classLink M.1.cls x.catchType name ∈ zgood ∧ Cond.castable X name ∈ zcast) ∧ x.handlerPc = hpc
section ZHand
variable {hh : List (Nat × Nat × Nat × Nat)} {E : ZE} {l : Launch} {M Y : ZM} {d b d' b' : Nat} {G0 : ZG} {Q Qz : ZQ} {k pc pc' : Nat} {ls : List (Option Value)} {st as : List Value} {G : ZG}
theorem h_iconst {n : Int} {x : Int32} (hd : decode M.2.1 pc = .ok (.iconst n, 1)) (hv : Int32.ofInt n = x) (hp : pc + 1 = pc') (kk : zWH hh E l M d b G0 Q k pc' ls (.int x :: st) G) : zWH hh E l M d b G0 Q k pc ls (st) G := by
  subst hp
  intro p e R s m args below meth c H locs cells slots ρ0 ρ la C hS hR hx hg h1 h2 hl
  have hX := C.1
  have hb := C.2.1
  refine lv_iconst hX hb hd hv ?_
  exact kk p e R s m args below meth c H locs cells slots ρ0 ρ la C hS hR hx (hg.push trivial) h1 h2 hl
theorem h_iload_n {j : Fin 4} {x : Int32} (hd : decode M.2.1 pc = .ok (.iload_n j, 1)) (hv : ls[(j : Nat)]? = some (some (.int x))) (hp : pc + 1 = pc') (kk : zWH hh E l M d b G0 Q k pc' ls (.int x :: st) G) : zWH hh E l M d b G0 Q k pc ls (st) G := by
  subst hp
  intro p e R s m args below meth c H locs cells slots ρ0 ρ la C hS hR hx hg h1 h2 hl
  have hX := C.1
  have hb := C.2.1
  refine lv_iload_n hX hb hd rfl (zl_at hl hv) ?_
  exact kk p e R s m args below meth c H locs cells slots ρ0 ρ la C hS hR hx (hg.push trivial) h1 h2 hl
theorem h_iload {j : Nat} {x : Int32} (hd : decode M.2.1 pc = .ok (.iload j, 2)) (hv : ls[j]? = some (some (.int x))) (hp : pc + 2 = pc') (kk : zWH hh E l M d b G0 Q k pc' ls (.int x :: st) G) : zWH hh E l M d b G0 Q k pc ls (st) G := by
  subst hp
  intro p e R s m args below meth c H locs cells slots ρ0 ρ la C hS hR hx hg h1 h2 hl
  have hX := C.1
  have hb := C.2.1
  refine lv_iload hX hb hd (zl_at hl hv) ?_
  exact kk p e R s m args below meth c H locs cells slots ρ0 ρ la C hS hR hx (hg.push trivial) h1 h2 hl
theorem h_aload_n {j : Fin 4} {q : Nat} (hd : decode M.2.1 pc = .ok (.aload_n j, 1)) (hv : ls[(j : Nat)]? = some (some (.ref q))) (hp : pc + 1 = pc') (kk : zWH hh E l M d b G0 Q k pc' ls (.ref q :: st) G) : zWH hh E l M d b G0 Q k pc ls (st) G := by
  subst hp
  intro p e R s m args below meth c H locs cells slots ρ0 ρ la C hS hR hx hg h1 h2 hl
  have hX := C.1
  have hb := C.2.1
  have hz := zl_at hl hv
  have kk2 := kk p e R s m args below meth c H locs cells slots ρ0 ρ la C hS hR hx (hg.push (hg.1 _ _ hv).1) h1 h2 hl
  by_cases hq : q = 0
  · subst hq
    exact lv_aload_nN hX hb hd rfl hz kk2
  · rw [zv_ref ρ hq] at hz
    simp only [List.map_cons, zv_ref ρ hq] at kk2
    exact lv_aload_n hX hb hd rfl hz kk2
theorem h_aload {j : Nat} {q : Nat} (hd : decode M.2.1 pc = .ok (.aload j, 2)) (hv : ls[j]? = some (some (.ref q))) (hp : pc + 2 = pc') (kk : zWH hh E l M d b G0 Q k pc' ls (.ref q :: st) G) : zWH hh E l M d b G0 Q k pc ls (st) G := by
  subst hp
  intro p e R s m args below meth c H locs cells slots ρ0 ρ la C hS hR hx hg h1 h2 hl
  have hX := C.1
  have hb := C.2.1
  have hz := zl_at hl hv
  have kk2 := kk p e R s m args below meth c H locs cells slots ρ0 ρ la C hS hR hx (hg.push (hg.1 _ _ hv).1) h1 h2 hl
  by_cases hq : q = 0
  · subst hq
    exact lv_aloadN hX hb hd hz kk2
  · rw [zv_ref ρ hq] at hz
    simp only [List.map_cons, zv_ref ρ hq] at kk2
    exact lv_aload hX hb hd hz kk2
theorem h_i2l {x : Int32} (hd : decode M.2.1 pc = .ok (.i2l, 1)) (hp : pc + 1 = pc') (kk : zWH hh E l M d b G0 Q k pc' ls (.long x.toInt64 :: st) G) : zWH hh E l M d b G0 Q k pc ls (.int x :: st) G := by
  subst hp
  intro p e R s m args below meth c H locs cells slots ρ0 ρ la C hS hR hx hg h1 h2 hl
  have hX := C.1
  have hb := C.2.1
  refine lv_i2l hX hb hd rfl ?_
  exact kk p e R s m args below meth c H locs cells slots ρ0 ρ la C hS hR hx (hg.pop.push trivial) h1 h2 hl
theorem h_goto {off : Int} (hd : decode M.2.1 pc = .ok (.goto off, 3)) (hp : (pc : Int) + off = (pc' : Int)) (kk : zWH hh E l M d b G0 Q k pc' ls st G) : zWH hh E l M d b G0 Q k pc ls st G := by
  intro p e R s m args below meth c H locs cells slots ρ0 ρ la C hS hR hx hg h1 h2 hl
  exact lv_goto C.1 C.2.1 hd hp (kk p e R s m args below meth c H locs cells slots ρ0 ρ la C hS hR hx hg h1 h2 hl)
theorem h_last {q : Nat} {i x : Int32} (hd : decode M.2.1 pc = .ok (.lastore, 1)) (hp : pc + 1 = pc') (hq : zar G q 3) (hin : vp_in i (zln G q)) (kk : zWH hh E l M d b G0 Q k pc' ls st (zsi G q i.toNatClampNeg x)) : zWH hh E l M d b G0 Q k pc ls (.long x.toInt64 :: .int i :: .ref q :: st) G := by
  subst hp
  intro p e R s m args below meth c H locs cells slots ρ0 ρ la C hS hR hx hg h1 h2 hl
  have hK : ZK E s := C.2.2.2.2.2.2.2.2.2.2.2.2.2.2.1
  simp only [List.map_cons, zv_ref ρ (hR.ne0 hq.1)]
  refine W.last C.1 C.2.1 (hR.ar hq) ((hK.arr (k := 3) (by decide)).1 _ _) (fun z => by cases z) (by show ¬ (i < 0 ∨ (arrV _ _ _).slots.size ≤ _); rw [arrV_size]; exact hin) rfl rfl hd fun H1 e1 z oq => ?_
  obtain ⟨hR', hS', hx'⟩ := z_astK (G' := zsi G q i.toNatClampNeg x) hR hS hq rfl e1 z oq rfl rfl (fun q' hq' => ⟨rfl, fun k => by rw [ziv_si, if_neg (fun h => hq' h.1)], fun k => rfl⟩) zAf_l (fun k => (hR.1 q hq.1).2.1 k)
  exact kk p e R s m args below meth c H1 _ cells slots ρ0 ρ la C hS' hR' (hx.trans hx') (hg.pop.pop.pop.go hx') h1 h2 hl
theorem h_iret {x : Int32} (hd : decode M.2.1 pc = .ok (.ireturn, 1)) (hr : M.2.2.2 = some .int) (hQ : Q (.inl (some (.int x))) G) : zWH hh E l M d b G0 Q k pc ls [.int x] G := by
  intro p e R s m args below meth c H locs cells slots ρ0 ρ la C hS hR hx hg h1 h2 hl
  exact z_end hQ hS hR hx (fun v hv => by cases hv; trivial) (by omega) (by omega) (fun hq hf => W.iret C.1 C.2.1 (C.2.2.2.1.trans hr) hq hf hd C.2.2.2.2.1)
theorem h_meth (hy : plainName M.1.cls = true) (hn : as.length ≤ M.2.2.1) (hc : ∀ v ∈ as, v.category = 1) (body : zWH hh E l M d b G Q b 0 (zarg as M.2.2.1) [] G) : zMetH hh E l M d b as G Q := by
  intro ρ
  refine vx_ofWH (cc := M.2.1) (maxL := M.2.2.1) (ret := M.2.2.2) (hh := hh) (ws' := zgood) hy rfl ?_
  intro p e s m args below meth c s₁ B hml hv
  obtain ⟨rfl, hga, hbase, hR, hK, hZ⟩ := hv
  have hts0 := atoms_spec (ws := zwsH hh M) B.pre
  have hts : ∀ w ∈ zgood, w.before _ s = true := fun w hw => hts0 w (List.mem_cons_of_mem _ hw)
  have htab : c.exceptionTable.toList = tableOf hh := vx_table (x := M.1) B (hts0 _ List.mem_cons_self)
  have hcv : ∀ v ∈ as.map (zv ρ), v.category = 1 := by
    intro v hv
    obtain ⟨u, hu, rfl⟩ := List.mem_map.mp hv
    rw [zv_cat]; exact hc u hu
  have hlen : (lg_sl (as.map (zv ρ))).length ≤ M.2.2.1 := by rw [lg_sl_len _ hcv, List.length_map]; exact hn
  have hl := lv_entry (as.map (zv ρ)) (n := M.2.2.1) hlen
  rw [lg_entry_eq]
  have hl2 : lv_has (lg_sl (as.map (zv ρ)) ++ List.replicate (M.2.2.1 - (lg_sl (as.map (zv ρ))).length) Slot.unset).toArray M.2.2.1 (zas ρ 0 (zarg as M.2.2.1)) := by
    refine ⟨hl.1, hl.2.1, fun q hq => hl.2.2 q ?_⟩
    obtain ⟨j, v, rfl, hj⟩ := zas_inv _ _ _ hq
    have hj2 := zarg_at hj
    exact lg_args_mem 0 _ hcv j _ (by rw [List.getElem?_map, hj2]; rfl)
  refine body p e _ s m _ below meth c s.heap [] 0 0 ρ ρ _ ⟨B.exec, B.bytes, hml, B.returns, B.notSynchronized, findClass_of_methodNamed B.named, hts, (name_of_methodNamed B.named B.method).1, htab, Nat.le_refl _, Nat.le_refl _, Nat.le_refl _, Nat.le_refl _, hbase, hK, hZ⟩ va_S.rf hR zext.rf ⟨fun i v hi => ?_, fun v hv => nomatch hv⟩ (by omega) (by omega) hl2
  have h1 := List.mem_of_getElem? (zarg_at hi)
  exact ⟨hga v h1, hc v h1⟩
theorem h_pre {p : Program} {R : Room} {s : State} {m : MethodId} {args : Array Value} {meth : Method} {c : Code} {H : Heap} {locs : List Loc} {ρ : Nat → Nat} (C : zCxH hh E M d b p R s m args meth c) (hS : va_S (zA E) s.heap H locs) (hR : ZR E s ρ G H) (hg : ∀ v ∈ as, zgd G v) : ∀ U : State, U.heap = H → s.WarmedH U.vm → zPc E ρ G as ((as.map (zv ρ)).toArray) U := by
  intro U hU hW
  have hbase : E.2.2.1 ≤ s.heap.size := C.2.2.2.2.2.2.2.2.2.2.2.2.2.1
  have hK : ZK E s := C.2.2.2.2.2.2.2.2.2.2.2.2.2.2.1
  have hZ : ZS E s s.heap := C.2.2.2.2.2.2.2.2.2.2.2.2.2.2.2
  exact ⟨rfl, hg, by rw [hU]; exact Nat.le_trans hbase hS.1, by rw [hU]; exact hR.moved hW.alike, ZK.moved hW.alike hK, by rw [hU]; exact ZS.go hW hS.2.1 hZ⟩
/-- a local that isn't known any more -/
theorem zl_unset {ρ : Nat → Nat} {la : Array Slot} {nL j : Nat} {v : Value} {ls : List (Option Value)} (hc : ∀ (i : Nat) (v : Value), ls[i]? = some (some v) → v.category = 1)
    (h : lv_has la nL ((j, v) :: (zas ρ 0 ls).filter (fun q => !(q.1 == j) && !(q.1 + 1 == j && q.2.category == 2)))) : lv_has la nL (zas ρ 0 (ls.set j none)) := by
  refine ⟨h.1, h.2.1, fun q hq => h.2.2 q ?_⟩
  obtain ⟨i, u, rfl, hi⟩ := zas_inv _ _ _ hq
  rw [List.getElem?_set] at hi
  by_cases hij : j = i
  · subst hij
    rw [if_pos rfl] at hi
    split at hi
    · cases hi
    · cases hi
  · rw [if_neg hij] at hi
    refine List.mem_cons_of_mem _ (List.mem_filter.mpr ⟨zas_mem ls 0 i u hi, ?_⟩)
    have h1 := hc i u hi
    simp only [Nat.zero_add, zv_cat, h1]
    have : (i == j) = false := by simp [Ne.symm hij]
    simp [this]
/-- behind a call; what it throws is taken by a handler that drops it -/
theorem h_after {p : Program} {e : Env} {R : Room} {s : State} {m : MethodId} {args : Array Value} {below : List Frame} {meth : Method} {c : Code} {H : Heap} {locs : List Loc} {cells slots : Nat} {ρ0 ρ : Nat → Nat} {la : Array Slot} {a : Array Value} {ast : List Value}
    (C : zCxH hh E M d b p R s m args meth c) (hS : va_S (zA E) s.heap H locs) (hR : ZR E s ρ G H) (hx : zext G0 ρ0 G ρ) (hg : zLg G ls st) (h1 : cells + k ≤ b) (h2 : slots + k ≤ b) (hl : lv_has la M.2.2.1 (zas ρ 0 ls)) (hb : b' ≤ k)
    (hr : vx_Run p l e R s m args below meth c H locs cells slots b' b' (F0 m pc la ast) (st.map (zv ρ)) (zQc E ρ G Qz a) (zXC E ρ G Qz) (zA E))
    (kk : ∀ r G', Qz (.inl r) G' → zWH hh E l M d b G0 Q (k - b') (pc + 3) ls (r.toList ++ st) G')
    (kx : ∀ X G', Qz (.inr X) G' → ∃ hpc j n, zHand M hh pc X hpc ∧ j < M.2.2.1 ∧ ((∃ jf : Fin 4, (jf : Nat) = j ∧ n = 1 ∧ decode M.2.1 hpc = .ok (.astore_n jf, 1)) ∨ (n = 2 ∧ decode M.2.1 hpc = .ok (.astore j, 2))) ∧ zWH hh E l M d b G0 Q (k - b') (hpc + n) (ls.set j none) [] G') :
    W p l e R s m args below meth c H locs cells slots (vx_MQ below (zQc E ρ0 G0 Q) (zXC E ρ0 G0 Q) args s b b (zA E)) (F0 m pc la ast) := by
  intro T hT X
  have hts := C.2.2.2.2.2.2.1
  have hZ : ZS E s s.heap := C.2.2.2.2.2.2.2.2.2.2.2.2.2.2.2
  rcases hr T hT X with ⟨v, st₀, t, T', L, h0, X', hL, e1, e2, ⟨⟨r, G', ρ', hv, hQz, hgr, hR', hx'⟩, hF⟩, hst⟩ | ⟨q, st₀, t, T', L, Xn, ce, h0, X', hL, e1, e2, ⟨⟨G', ρ', hQz, hR', hx'⟩, hF⟩, hce, hcv, hcl, hst⟩
  · cases hv
    obtain ⟨k1, k2, k3⟩ := vx_keep h0 e1 hS (fun _ _ h => h) (fun _ h => h) hL hF
    have hal : t.vm.Alike s.vm := by rw [← e2]; exact X'.warmed.alike.symm
    have hR2 : ZR E s ρ' G' T'.heap := by rw [e1]; exact hR'.moved hal
    have hl' : lv_has la M.2.2.1 (zas ρ' 0 ls) := by rw [zas_congr ls 0 (fun j v hj => zv_ext hR hR2 hx' (hg.1 j v hj).1)]; exact hl
    have hst2 : st.map (zv ρ') = st.map (zv ρ) := List.map_congr_left (fun v hv => zv_ext hR hR2 hx' (hg.2 v hv))
    have hg' : zLg G' ls (r.toList ++ st) := ⟨(hg.go hx').1, fun v hv => by
      rcases List.mem_append.mp hv with h | h
      · exact hgr v (Option.mem_toList.mp h)
      · exact hx'.gd (hg.2 v h)⟩
    have k9 := kk r G' hQz p e R s m args below meth c T'.heap (locs ++ L) (cells + b') (slots + b') ρ0 ρ' la C k3 hR2 (hx.trans hx') hg' (by omega) (by omega) hl'
    have e9 : (r.toList ++ st).map (zv ρ') = (r.map (zv ρ')).toList ++ st.map (zv ρ) := by
      rw [List.map_append, hst2]
      cases r <;> rfl
    rw [e9] at k9
    obtain ⟨t2, a1, b1⟩ := k9 T' rfl X'
    exact ⟨t2, hst t2 a1, b1⟩
  · obtain ⟨k1, k2, k3⟩ := vx_keep h0 e1 hS (fun _ _ h => h) (fun _ h => h) hL hF
    have hal : t.vm.Alike s.vm := by rw [← e2]; exact X'.warmed.alike.symm
    have hR2 : ZR E s ρ' G' T'.heap := by rw [e1]; exact hR'.moved hal
    have hl' : lv_has la M.2.2.1 (zas ρ' 0 ls) := by rw [zas_congr ls 0 (fun j v hj => zv_ext hR hR2 hx' (hg.1 j v hj).1)]; exact hl
    obtain ⟨hpc, j, n, ⟨pre, x, suf, hs1, hs2, hs3, hs4, ⟨name, hs5, hs6⟩, hs7⟩, hj, hdec, hk⟩ := kx Xn G' hQz
    have hg' : zLg G' (ls.set j none) [] := ⟨fun i v hi => by
      rw [List.getElem?_set] at hi
      split at hi
      · split at hi
        · cases hi
        · cases hi
      · exact (hg.go hx').1 i v hi, fun v hv => nomatch hv⟩
    have hk2 : ∀ la', lv_has la' M.2.2.1 (zas ρ' 0 (ls.set j none)) → W p l e R s m args below meth c T'.heap (locs ++ L) (cells + b') (slots + b') (vx_MQ below (zQc E ρ0 G0 Q) (zXC E ρ0 G0 Q) args s b b (zA E)) (F0 m (hpc + n) la' []) := fun la' h =>
      hk p e R s m args below meth c T'.heap (locs ++ L) (cells + b') (slots + b') ρ0 ρ' la' C k3 hR2 (hx.trans hx') hg' (by omega) (by omega) h
    have hW : W p l e R s m args below meth c T'.heap (locs ++ L) (cells + b') (slots + b') (vx_MQ below (zQc E ρ0 G0 Q) (zXC E ρ0 G0 Q) args s b b (zA E)) (F0 m x.handlerPc la [.ref q]) := by
      rw [hs7]
      rcases hdec with ⟨jf, hjf, hn, hd⟩ | ⟨hn, hd⟩
      · rw [hn] at hk2
        exact lv_astore_n C.1 C.2.1 hd hjf hl' hj rfl (fun la' h => hk2 la' (zl_unset (fun i v hi => (hg.1 i v hi).2) h))
      · rw [hn] at hk2
        exact lv_astore C.1 C.2.1 hd hl' hj rfl (fun la' h => hk2 la' (zl_unset (fun i v hi => (hg.1 i v hi).2) h))
    have hcst : (Cond.castable Xn name).before args s = true := va_Nw.use (zcast_on hs6) (hZ.2.2.2.2.2.2.2.2.2.1 _ hs6)
    have hnc : ∀ x ∈ zncs, va_Nc x.1 x.2 s := hZ.2.2.2.2.2.2.2.2.1
    have k9 := vx_catch (rest := st.map (zv ρ)) (pc := pc) (own := M.1.cls) (name := name) (E := Xn) (ce := ce) (q := q) C.2.2.2.2.2.1 pre x suf (C.2.2.2.2.2.2.2.2.1.trans hs1)
      (fun z hz => (hs2 z hz).imp id (fun ⟨h3, nm, h4, h5⟩ => ⟨h3, nm, hts _ h4, hnc _ h5⟩)) hs3 hs4 (hts _ hs5) hcst (by rw [e1]; exact hce) hcv hcl hW
    obtain ⟨t2, a1, b1⟩ := k9 T' rfl X'
    exact ⟨t2, hst.trans a1, b1⟩
theorem h_callV {idx q ci n : Nat} (hm : zMet E l Y d' b' (.ref q :: as) G Qz) (hd : decode M.2.1 pc = .ok (.invokevirtual idx, 3)) (hw : Cond.methodLink M.1.cls idx Y.1 ∈ zgood) (hY : zcV Y n) (hn : as.length = n) (hp : pc + 3 = pc') (hci : ci < 14) (hC : Y.1.cls = zC ci) (hq : zob G q ci) (hdd : d' + 1 ≤ d) (hb : b' ≤ k) (hst : (st.map fun v => v.category).sum ≤ 8)
    (kk : ∀ r G', Qz (.inl r) G' → zWH hh E l M d b G0 Q (k - b') pc' ls (r.toList ++ st) G')
    (kx : ∀ X G', Qz (.inr X) G' → ∃ hpc j n, zHand M hh pc X hpc ∧ j < M.2.2.1 ∧ ((∃ jf : Fin 4, (jf : Nat) = j ∧ n = 1 ∧ decode M.2.1 hpc = .ok (.astore_n jf, 1)) ∨ (n = 2 ∧ decode M.2.1 hpc = .ok (.astore j, 2))) ∧ zWH hh E l M d b G0 Q (k - b') (hpc + n) (ls.set j none) [] G') : zWH hh E l M d b G0 Q k pc ls (as.reverse ++ .ref q :: st) G := by
  subst hp
  intro p e R s m args below meth c H locs cells slots ρ0 ρ la C hS hR hx hg h1 h2 hl
  have hts := C.2.2.2.2.2.2.1
  have hdf : d ≤ R.frames := C.2.2.2.2.2.2.2.2.2.1
  have hdl : 40 * d ≤ R.locals := C.2.2.2.2.2.2.2.2.2.2.1
  have hbc : b ≤ R.cells := C.2.2.2.2.2.2.2.2.2.2.2.1
  have hbs : b ≤ R.slots := C.2.2.2.2.2.2.2.2.2.2.2.2.1
  have hK : ZK E s := C.2.2.2.2.2.2.2.2.2.2.2.2.2.2.1
  obtain ⟨hw5, hdY, hmY⟩ := hY
  have hgas : ∀ v ∈ (.ref q :: as : List Value), zgd G v := fun v hv => by
    rcases List.mem_cons.mp hv with rfl | h
    · exact Or.inr (Or.inl hq.1)
    · exact hg.2 v (List.mem_append_left _ (List.mem_reverse.mpr h))
  have hgst : zLg G ls st := ⟨hg.1, fun v hv => hg.2 v (List.mem_append_right _ (List.mem_cons_of_mem _ hv))⟩
  obtain ⟨cell, q1, q2, q3, q4⟩ := hR.ob hq
  have hpre := h_pre (as := .ref q :: as) C hS hR hgas
  rw [List.map_cons, zv_ref ρ (hR.ne0 hq.1)] at hpre
  have est : (as.reverse ++ .ref q :: st).map (zv ρ) = (as.map (zv ρ)).reverse ++ .ref (ρ q) :: st.map (zv ρ) := by
    rw [List.map_append, List.map_cons, List.map_reverse, zv_ref ρ (hR.ne0 hq.1)]
  rw [est]
  refine h_after C hS hR hx hgst h1 h2 hl hb (vx_runV (Ts := zgood) (own := M.1.cls) (C := Y.1.cls) (n := n) (As := as.map (zv ρ)) (b := ρ q) ⟨C.1, C.2.1, C.2.2.1, C.2.2.2.2.2.1, hts⟩ (hm ρ)
    (cwV n hts (z_goodIn (ws := [.methodLink M.1.cls idx Y.1, .instanceMethod Y.1, .selects Y.1.cls Y.1 Y.1, .initialized Y.1.cls, .code Y.1 Y.2.1 Y.2.2.1 Y.2.2.2]) (fun w h9 => by
        rcases List.mem_cons.mp h9 with rfl | h9
        · exact hw
        · exact hw5 w h9) rfl) (ws' := zgood) rfl rfl rfl ⟨rfl, hdY⟩ ⟨by show d' + 1 ≤ _; omega, by show 8 + (Y.2.2.1 + 11) + 40 * d' ≤ _; omega⟩)
    ⟨zPc_blind, ⟨cell, q1, by rw [q3]; rfl, by rw [q2, hC]; exact (hK.1 ci _ (z_cl hci)).2.1⟩, hpre⟩ rfl (by rw [List.length_map]; exact hn) hl.1 rfl (z_sum8 hst) hd ⟨by omega, by omega⟩) kk kx
/-- a static call of a method with handlers, from one without -/
theorem z_callH {idx n : Nat} (hm : zMetH hh E l Y d' b' as G Qz) (hd : decode M.2.1 pc = .ok (.invokestatic idx, 3)) (hw : Cond.methodLink M.1.cls idx Y.1 ∈ zgood) (hY : zcH hh Y n) (hn : as.length = n) (hp : pc + 3 = pc') (hdd : d' + 1 ≤ d) (hb : b' ≤ k) (hst : (st.map fun v => v.category).sum ≤ 8)
    (kk : ∀ r G', Qz (.inl r) G' → zW E l M d b G0 Q (k - b') pc' ls (r.toList ++ st) G') (kx : ∀ X G', Qz (.inr X) G' → Q (.inr X) G') : zW E l M d b G0 Q k pc ls (as.reverse ++ st) G := by
  subst hp
  intro p e R s m args below meth c H locs cells slots ρ0 ρ la C hS hR hx hg h1 h2 hl
  have hts := C.2.2.2.2.2.2.1
  have hdf : d ≤ R.frames := C.2.2.2.2.2.2.2.2.2.1
  have hdl : 40 * d ≤ R.locals := C.2.2.2.2.2.2.2.2.2.2.1
  have hbc : b ≤ R.cells := C.2.2.2.2.2.2.2.2.2.2.2.1
  have hbs : b ≤ R.slots := C.2.2.2.2.2.2.2.2.2.2.2.2.1
  obtain ⟨hw5, hdY, hmY⟩ := hY
  have hgas : ∀ v ∈ as, zgd G v := fun v h => hg.2 v (List.mem_append_left _ (List.mem_reverse.mpr h))
  have hgst : zLg G ls st := ⟨hg.1, fun v hv => hg.2 v (List.mem_append_right _ hv)⟩
  have hpre := z_pre (as := as) C hS hR hgas
  have est : (as.reverse ++ st).map (zv ρ) = (as.map (zv ρ)).reverse ++ st.map (zv ρ) := by rw [List.map_append, List.map_reverse]
  rw [est]
  refine z_after C hS hR hx hgst h1 h2 hl hb (vx_runSX (Ts := zgood) (own := M.1.cls) (n := n) (hh := hh) (As := as.map (zv ρ)) ⟨C.1, C.2.1, C.2.2.1, C.2.2.2.2.2.1, hts⟩ (hm ρ)
    (vx_cwSW n hts (z_goodIn (ws := [.methodLink M.1.cls idx Y.1, .static Y.1, .initialized Y.1.cls, .codeWith Y.1 Y.2.1 Y.2.2.1 Y.2.2.2 hh]) (fun w h9 => by
        rcases List.mem_cons.mp h9 with rfl | h9
        · exact hw
        · exact hw5 w h9) rfl) (ws' := zgood) rfl rfl rfl hdY ⟨by show d' + 1 ≤ _; omega, by show 8 + (Y.2.2.1 + 11) + 40 * d' ≤ _; omega⟩)
    ⟨zPc_blind, hpre⟩ rfl (by rw [List.length_map]; exact hn) hl.1 rfl (z_sum8 hst) hd ⟨by omega, by omega⟩) kk kx
end ZHand
