/-! THE JUDGEMENT: a method's body from a place on, in words of the store alone -/
def zA (E : ZE) : Nat → Prop := fun q => E.2.2.1 ≤ q
def zroom (d b : Nat) : Room := { frames := d, cells := b, slots := b, locals := 40 * d }
def zAt (E : ZE) : List (ClassId × FieldType) := [(E.2.1 0, .int), (E.2.1 1, .byte), (E.2.1 2, .boolean), (E.2.1 3, .long), (E.2.1 4, .object "java/lang/Object")]
def ZK (E : ZE) (U : State) : Prop := va_K E.1 vwCl (zAt E) U
theorem ZK.moved {E : ZE} {u U : State} (hvm : u.vm.Alike U.vm) (h : ZK E u) : ZK E U := va_K.moved hvm h
/-- statics that hold references, and the things that they refer to -/
def zstat : List (String × String × String × Nat) := [("PassportOffice$Name", "WEIGHTS", "[I", zp 3600 0), ("PassportOffice$Name", "MARKED", "[I", zp 3601 0), ("PassportOffice$Desks", "STATE_AT", "[I", zp 3602 0), ("java/util/ArrayList", "DEFAULTCAPACITY_EMPTY_ELEMENTDATA", "[Ljava/lang/Object;", zp 4095 0)]
/-- private constructors called across a nest: who, which entry, whose, the host -/
def znest : List Cond := [.methodLinkNest RX3 24 yX10_init RX11, .methodLinkNest RX11 38 yX7_init RX11, .methodLinkNest RX11 45 yX2_init RX11, .methodLinkNest RX11 52 yX9_init RX11, .methodLinkNest RX6 99 yX1_init RX11]
/-- what holds of the tables and of the cells that stood before the law began -/
def ZS (E : ZE) (U : State) (H : Heap) : Prop :=
  vx_Zq Bundle.tN "UNASSIGNED_STACK" Bundle.steD (zA E) U H ∧ vx_Zq Bundle.tN "SUPPRESSED_SENTINEL" Bundle.listD (zA E) U H ∧
  (∀ x ∈ zstat, va_Z x.1 x.2.1 x.2.2.1 (.ref (E.2.2.2 x.2.2.2)) (zA E) U H) ∧ (∀ w ∈ znest, va_Nw w U) ∧ ZS2 E U H
theorem va_Nw.warmL {w : Cond} (hw : w ∈ znest) {s U : State} (hW : s.WarmedH U.vm) (hZ : va_Nw w s) : va_Nw w U := by
  simp only [znest, List.mem_cons, List.not_mem_nil, or_false] at hw
  rcases hw with rfl | rfl | rfl | rfl | rfl <;> exact va_Nw.warmM hW hZ
theorem va_Nw.onT {w : Cond} (hw : w ∈ znest) : w.onTables = true := by
  simp only [znest, List.mem_cons, List.not_mem_nil, or_false] at hw
  rcases hw with rfl | rfl | rfl | rfl | rfl <;> rfl
theorem ZS.go {E : ZE} {s U : State} {H H1 : Heap} (hW : s.WarmedH U.vm) (hq : ∀ a : Nat, a < H.size → ¬ zA E a → H1[a]? = H[a]?) (h : ZS E s H) : ZS E U H1 := by
  obtain ⟨h1, h2, h3, h4, h5⟩ := h
  exact ⟨vx_Zq.moved hW.alike (h1.kept hq), vx_Zq.moved hW.alike (h2.kept hq), fun x hx => va_Z.moved hW.alike ((h3 x hx).kept hq), fun w hw => va_Nw.warmL hw hW (h4 w hw), ZS2.go hW hq h5⟩
theorem ZS.same {E : ZE} {s U : State} {H : Heap} (hv : s.vm = U.vm) (h : ZS E s H) : ZS E U H := ZS.go (by rw [← hv]; exact State.WarmedH.refl s) (fun _ _ _ => rfl) h
def zPc (E : ZE) (ρ : Nat → Nat) (G : ZG) (as : List Value) : Array Value → State → Prop := fun v U => v = (as.map (zv ρ)).toArray ∧ (∀ a ∈ as, zgd G a) ∧ E.2.2.1 ≤ U.heap.size ∧ ZR E U ρ G U.heap ∧ ZK E U ∧ ZS E U U.heap
abbrev ZQ : Type := Option Value ⊕ String → ZG → Prop
def zQc (E : ZE) (ρ0 : Nat → Nat) (G0 : ZG) (Q : ZQ) : Array Value → State → Outcome → State → Prop := fun _ st o t =>
  (∃ (r : Option Value) (G : ZG) (ρ : Nat → Nat), o = .returned (r.map (zv ρ)) ∧ Q (.inl r) G ∧ (∀ v, r = some v → zgd G v) ∧ ZR E t ρ G t.heap ∧ zext G0 ρ0 G ρ) ∧ va_F (zA E) st t
def zXC (E : ZE) (ρ0 : Nat → Nat) (G0 : ZG) (Q : ZQ) : String → State → State → Prop := fun X st t =>
  (∃ (G : ZG) (ρ : Nat → Nat), Q (.inr X) G ∧ ZR E t ρ G t.heap ∧ zext G0 ρ0 G ρ) ∧ va_F (zA E) st t
/-- THE CONTRACT of M: from the store G, with arguments as, room for d frames and b cells and slots, it ends as Q says -/
def zMet (E : ZE) (l : Launch) (M : ZM) (d b : Nat) (as : List Value) (G : ZG) (Q : ZQ) : Prop := ∀ ρ : Nat → Nat, vx_Met l M.1 (zws M) (zroom d b) (zPc E ρ G as) (zQc E ρ G Q) (zXC E ρ G Q) b b (zA E)
def zCx (E : ZE) (M : ZM) (d b : Nat) (p : Program) (R : Room) (s : State) (m : MethodId) (args : Array Value) (meth : Method) (c : Code) : Prop :=
  p.tables.exec = Jvm.exec ∧ c.code = M.2.1 ∧ c.maxLocals = M.2.2.1 ∧ meth.sig.returnType = M.2.2.2 ∧ meth.locks = false ∧ s.vm.findClass M.1.cls = some m.cls ∧ (∀ w ∈ zgood, w.before args s = true) ∧ meth.name = M.1.name ∧ (∀ x ∈ c.exceptionTable.toList, False) ∧
  d ≤ R.frames ∧ 40 * d ≤ R.locals ∧ b ≤ R.cells ∧ b ≤ R.slots ∧ E.2.2.1 ≤ s.heap.size ∧ ZK E s ∧ ZS E s s.heap
/-- the locals that are known, as the kit lists them -/
def zas (ρ : Nat → Nat) : Nat → List (Option Value) → List (Nat × Value)
  | _, [] => []
  | i, none :: r => zas ρ (i + 1) r
  | i, some v :: r => (i, zv ρ v) :: zas ρ (i + 1) r
theorem zas_mem {ρ : Nat → Nat} : ∀ (ls : List (Option Value)) (i j : Nat) (v : Value), ls[j]? = some (some v) → (i + j, zv ρ v) ∈ zas ρ i ls
  | [], i, j, v, h => by simp at h
  | none :: r, i, 0, v, h => by simp at h
  | none :: r, i, j + 1, v, h => by
    rw [List.getElem?_cons_succ] at h
    have := zas_mem (ρ := ρ) r (i + 1) j v h
    rw [show i + (j + 1) = i + 1 + j by omega]
    exact this
  | some u :: r, i, 0, v, h => by
    rw [List.getElem?_cons_zero] at h
    cases h
    exact List.mem_cons_self
  | some u :: r, i, j + 1, v, h => by
    rw [List.getElem?_cons_succ] at h
    have := zas_mem (ρ := ρ) r (i + 1) j v h
    rw [show i + (j + 1) = i + 1 + j by omega]
    exact List.mem_cons_of_mem _ this
theorem zas_inv {ρ : Nat → Nat} : ∀ (ls : List (Option Value)) (i : Nat) (q : Nat × Value), q ∈ zas ρ i ls → ∃ (j : Nat) (v : Value), q = (i + j, zv ρ v) ∧ ls[j]? = some (some v)
  | [], i, q, h => by simp [zas] at h
  | none :: r, i, q, h => by
    obtain ⟨j, v, h1, h2⟩ := zas_inv r (i + 1) q h
    exact ⟨j + 1, v, by rw [h1]; congr 1; omega, by rw [List.getElem?_cons_succ]; exact h2⟩
  | some u :: r, i, q, h => by
    rcases List.mem_cons.mp h with h | h
    · exact ⟨0, u, h, rfl⟩
    · obtain ⟨j, v, h1, h2⟩ := zas_inv r (i + 1) q h
      exact ⟨j + 1, v, by rw [h1]; congr 1; omega, by rw [List.getElem?_cons_succ]; exact h2⟩
theorem zas_congr {ρ ρ' : Nat → Nat} : ∀ (ls : List (Option Value)) (i : Nat), (∀ (j : Nat) (v : Value), ls[j]? = some (some v) → zv ρ' v = zv ρ v) → zas ρ' i ls = zas ρ i ls
  | [], i, _ => rfl
  | none :: r, i, h => zas_congr r (i + 1) (fun j v hj => h (j + 1) v (by rw [List.getElem?_cons_succ]; exact hj))
  | some u :: r, i, h => by
    show (i, zv ρ' u) :: zas ρ' (i + 1) r = (i, zv ρ u) :: zas ρ (i + 1) r
    rw [h 0 u rfl, zas_congr r (i + 1) (fun j v hj => h (j + 1) v (by rw [List.getElem?_cons_succ]; exact hj))]
/-- locals and stack hold what means something -/
def zLg (G : ZG) (ls : List (Option Value)) (st : List Value) : Prop := (∀ (i : Nat) (v : Value), ls[i]? = some (some v) → zgd G v ∧ v.category = 1) ∧ ∀ v ∈ st, zgd G v
def zW (E : ZE) (l : Launch) (M : ZM) (d b : Nat) (G0 : ZG) (Q : ZQ) (k pc : Nat) (ls : List (Option Value)) (st : List Value) (G : ZG) : Prop :=
  ∀ (p : Program) (e : Env) (R : Room) (s : State) (m : MethodId) (args : Array Value) (below : List Frame) (meth : Method) (c : Code) (H : Heap) (locs : List Loc) (cells slots : Nat) (ρ0 ρ : Nat → Nat) (la : Array Slot),
    zCx E M d b p R s m args meth c → va_S (zA E) s.heap H locs → ZR E s ρ G H → zext G0 ρ0 G ρ → zLg G ls st → cells + k ≤ b → slots + k ≤ b → lv_has la M.2.2.1 (zas ρ 0 ls) →
    W p l e R s m args below meth c H locs cells slots (vx_MQ below (zQc E ρ0 G0 Q) (zXC E ρ0 G0 Q) args s b b (zA E)) (F0 m pc la (st.map (zv ρ)))
theorem zl_at {ρ : Nat → Nat} {la : Array Slot} {nL : Nat} {ls : List (Option Value)} (h : lv_has la nL (zas ρ 0 ls)) {i : Nat} {v : Value} (hl : ls[i]? = some (some v)) : la[i]? = some (.val (zv ρ v)) := by
  have := h.2.2 _ (zas_mem (ρ := ρ) ls 0 i v hl)
  rw [Nat.zero_add] at this
  exact this
theorem zl_set {ρ : Nat → Nat} {la : Array Slot} {nL : Nat} {ls : List (Option Value)} {i : Nat} {v : Value} (hc : ∀ (i : Nat) (v : Value), ls[i]? = some (some v) → v.category = 1)
    (h : lv_has la nL ((i, zv ρ v) :: (zas ρ 0 ls).filter (fun q => !(q.1 == i) && !(q.1 + 1 == i && q.2.category == 2)))) : lv_has la nL (zas ρ 0 (ls.set i (some v))) := by
  refine ⟨h.1, h.2.1, fun q hq => h.2.2 q ?_⟩
  obtain ⟨j, u, rfl, hj⟩ := zas_inv _ _ _ hq
  rw [List.getElem?_set] at hj
  by_cases hij : i = j
  · subst hij
    rw [if_pos rfl] at hj
    split at hj
    · cases hj
      rw [Nat.zero_add]
      exact List.mem_cons_self
    · cases hj
  · rw [if_neg hij] at hj
    refine List.mem_cons_of_mem _ (List.mem_filter.mpr ⟨zas_mem ls 0 j u hj, ?_⟩)
    have h1 := hc j u hj
    simp only [Nat.zero_add, zv_cat, h1]
    have : (j == i) = false := by simp [Ne.symm hij]
    simp [this]
theorem zLg.set {G : ZG} {ls : List (Option Value)} {v : Value} {st : List Value} (h : zLg G ls (v :: st)) (hv : v.category = 1) (i : Nat) : zLg G (ls.set i (some v)) st := by
  refine ⟨fun j u hj => ?_, fun u hu => h.2 u (List.mem_cons_of_mem _ hu)⟩
  rw [List.getElem?_set] at hj
  split at hj
  · split at hj
    · cases hj
      exact ⟨h.2 v List.mem_cons_self, hv⟩
    · cases hj
  · exact h.1 j u hj
theorem zLg.push {G : ZG} {ls : List (Option Value)} {v : Value} {st : List Value} (h : zLg G ls st) (hv : zgd G v) : zLg G ls (v :: st) := ⟨h.1, fun u hu => by
  rcases List.mem_cons.mp hu with rfl | h1
  · exact hv
  · exact h.2 u h1⟩
theorem zLg.pop {G : ZG} {ls : List (Option Value)} {v : Value} {st : List Value} (h : zLg G ls (v :: st)) : zLg G ls st := ⟨h.1, fun u hu => h.2 u (List.mem_cons_of_mem _ hu)⟩
theorem zLg.top {G : ZG} {ls : List (Option Value)} {v : Value} {st : List Value} (h : zLg G ls (v :: st)) : zgd G v := h.2 v List.mem_cons_self
theorem zLg.go {G G' : ZG} {ρ ρ' : Nat → Nat} {ls : List (Option Value)} {st : List Value} (h : zLg G ls st) (hx : zext G ρ G' ρ') : zLg G' ls st := ⟨fun i v hv => ⟨hx.gd (h.1 i v hv).1, (h.1 i v hv).2⟩, fun v hv => hx.gd (h.2 v hv)⟩
section ZRules
variable {E : ZE} {l : Launch} {M : ZM} {d b : Nat} {G0 : ZG} {Q : ZQ} {k pc pc' : Nat} {ls : List (Option Value)} {st : List Value} {G : ZG}

theorem z_iconst {n : Int} {x : Int32} (hd : decode M.2.1 pc = .ok (.iconst n, 1)) (hv : Int32.ofInt n = x) (hp : pc + 1 = pc') (kk : zW E l M d b G0 Q k pc' ls (.int x :: st) G) : zW E l M d b G0 Q k pc ls (st) G := by
  subst hp
  intro p e R s m args below meth c H locs cells slots ρ0 ρ la C hS hR hx hg h1 h2 hl
  have hX := C.1
  have hb := C.2.1
  refine lv_iconst hX hb hd hv ?_
  exact kk p e R s m args below meth c H locs cells slots ρ0 ρ la C hS hR hx (hg.push trivial) h1 h2 hl
theorem z_bipush {n : Int} {x : Int32} (hd : decode M.2.1 pc = .ok (.bipush n, 2)) (hv : (Int8.ofInt n).toInt32 = x) (hp : pc + 2 = pc') (kk : zW E l M d b G0 Q k pc' ls (.int x :: st) G) : zW E l M d b G0 Q k pc ls (st) G := by
  subst hp
  intro p e R s m args below meth c H locs cells slots ρ0 ρ la C hS hR hx hg h1 h2 hl
  have hX := C.1
  have hb := C.2.1
  refine lv_bipush hX hb hd hv ?_
  exact kk p e R s m args below meth c H locs cells slots ρ0 ρ la C hS hR hx (hg.push trivial) h1 h2 hl
theorem z_sipush {n : Int} {x : Int32} (hd : decode M.2.1 pc = .ok (.sipush n, 3)) (hv : (Int16.ofInt n).toInt32 = x) (hp : pc + 3 = pc') (kk : zW E l M d b G0 Q k pc' ls (.int x :: st) G) : zW E l M d b G0 Q k pc ls (st) G := by
  subst hp
  intro p e R s m args below meth c H locs cells slots ρ0 ρ la C hS hR hx hg h1 h2 hl
  have hX := C.1
  have hb := C.2.1
  refine lv_sipush hX hb hd hv ?_
  exact kk p e R s m args below meth c H locs cells slots ρ0 ρ la C hS hR hx (hg.push trivial) h1 h2 hl
theorem z_ldc {i : Nat} {x : Int32} (hd : decode M.2.1 pc = .ok (.ldc i, 2)) (hw : Cond.constant M.1.cls i x ∈ zgood) (hp : pc + 2 = pc') (kk : zW E l M d b G0 Q k pc' ls (.int x :: st) G) : zW E l M d b G0 Q k pc ls (st) G := by
  subst hp
  intro p e R s m args below meth c H locs cells slots ρ0 ρ la C hS hR hx hg h1 h2 hl
  have hX := C.1
  have hb := C.2.1
  refine lv_ldc hX hb C.2.2.2.2.2.1 (C.2.2.2.2.2.2.1 _ hw) hd ?_
  exact kk p e R s m args below meth c H locs cells slots ρ0 ρ la C hS hR hx (hg.push trivial) h1 h2 hl
theorem z_null (hd : decode M.2.1 pc = .ok (.aconst_null, 1)) (hp : pc + 1 = pc') (kk : zW E l M d b G0 Q k pc' ls (.ref 0 :: st) G) : zW E l M d b G0 Q k pc ls (st) G := by
  subst hp
  intro p e R s m args below meth c H locs cells slots ρ0 ρ la C hS hR hx hg h1 h2 hl
  have hX := C.1
  have hb := C.2.1
  refine lv_null hX hb hd ?_
  exact kk p e R s m args below meth c H locs cells slots ρ0 ρ la C hS hR hx (hg.push (Or.inl rfl)) h1 h2 hl
theorem z_iload_n {j : Fin 4} {x : Int32} (hd : decode M.2.1 pc = .ok (.iload_n j, 1)) (hv : ls[(j : Nat)]? = some (some (.int x))) (hp : pc + 1 = pc') (kk : zW E l M d b G0 Q k pc' ls (.int x :: st) G) : zW E l M d b G0 Q k pc ls (st) G := by
  subst hp
  intro p e R s m args below meth c H locs cells slots ρ0 ρ la C hS hR hx hg h1 h2 hl
  have hX := C.1
  have hb := C.2.1
  refine lv_iload_n hX hb hd rfl (zl_at hl hv) ?_
  exact kk p e R s m args below meth c H locs cells slots ρ0 ρ la C hS hR hx (hg.push trivial) h1 h2 hl
theorem z_iload {j : Nat} {x : Int32} (hd : decode M.2.1 pc = .ok (.iload j, 2)) (hv : ls[j]? = some (some (.int x))) (hp : pc + 2 = pc') (kk : zW E l M d b G0 Q k pc' ls (.int x :: st) G) : zW E l M d b G0 Q k pc ls (st) G := by
  subst hp
  intro p e R s m args below meth c H locs cells slots ρ0 ρ la C hS hR hx hg h1 h2 hl
  have hX := C.1
  have hb := C.2.1
  refine lv_iload hX hb hd (zl_at hl hv) ?_
  exact kk p e R s m args below meth c H locs cells slots ρ0 ρ la C hS hR hx (hg.push trivial) h1 h2 hl
theorem z_aload_n {j : Fin 4} {q : Nat} (hd : decode M.2.1 pc = .ok (.aload_n j, 1)) (hv : ls[(j : Nat)]? = some (some (.ref q))) (hp : pc + 1 = pc') (kk : zW E l M d b G0 Q k pc' ls (.ref q :: st) G) : zW E l M d b G0 Q k pc ls (st) G := by
  subst hp
  intro p e R s m args below meth c H locs cells slots ρ0 ρ la C hS hR hx hg h1 h2 hl
  have hX := C.1
  have hb := C.2.1
  have hz := zl_at hl hv
  have kk2 := kk p e R s m args below meth c H locs cells slots ρ0 ρ la C hS hR hx (hg.push (hg.1 _ _ hv).1) h1 h2 hl
  by_cases hq : q = 0
  · subst hq
    exact lv_aload_nN hX hb hd rfl hz kk2
  · rw [zv_ref ρ hq] at hz
    simp only [List.map_cons, zv_ref ρ hq] at kk2
    exact lv_aload_n hX hb hd rfl hz kk2
theorem z_aload {j : Nat} {q : Nat} (hd : decode M.2.1 pc = .ok (.aload j, 2)) (hv : ls[j]? = some (some (.ref q))) (hp : pc + 2 = pc') (kk : zW E l M d b G0 Q k pc' ls (.ref q :: st) G) : zW E l M d b G0 Q k pc ls (st) G := by
  subst hp
  intro p e R s m args below meth c H locs cells slots ρ0 ρ la C hS hR hx hg h1 h2 hl
  have hX := C.1
  have hb := C.2.1
  have hz := zl_at hl hv
  have kk2 := kk p e R s m args below meth c H locs cells slots ρ0 ρ la C hS hR hx (hg.push (hg.1 _ _ hv).1) h1 h2 hl
  by_cases hq : q = 0
  · subst hq
    exact lv_aloadN hX hb hd hz kk2
  · rw [zv_ref ρ hq] at hz
    simp only [List.map_cons, zv_ref ρ hq] at kk2
    exact lv_aload hX hb hd hz kk2
theorem z_istore_n {j : Fin 4} {x : Int32} (hd : decode M.2.1 pc = .ok (.istore_n j, 1)) (hn : (j : Nat) < M.2.2.1) (hp : pc + 1 = pc') (kk : zW E l M d b G0 Q k pc' (ls.set (j : Nat) (some (.int x))) (st) G) : zW E l M d b G0 Q k pc ls (.int x :: st) G := by
  subst hp
  intro p e R s m args below meth c H locs cells slots ρ0 ρ la C hS hR hx hg h1 h2 hl
  have hX := C.1
  have hb := C.2.1
  refine lv_istore_n hX hb hd rfl hl hn rfl fun la' hl' => ?_
  exact kk p e R s m args below meth c H locs cells slots ρ0 ρ la' C hS hR hx (hg.set rfl _) h1 h2 (zl_set (v := .int x) (fun i v hv => (hg.1 i v hv).2) hl')
theorem z_istore {j : Nat} {x : Int32} (hd : decode M.2.1 pc = .ok (.istore j, 2)) (hn : j < M.2.2.1) (hp : pc + 2 = pc') (kk : zW E l M d b G0 Q k pc' (ls.set j (some (.int x))) (st) G) : zW E l M d b G0 Q k pc ls (.int x :: st) G := by
  subst hp
  intro p e R s m args below meth c H locs cells slots ρ0 ρ la C hS hR hx hg h1 h2 hl
  have hX := C.1
  have hb := C.2.1
  refine lv_istore hX hb hd hl hn rfl fun la' hl' => ?_
  exact kk p e R s m args below meth c H locs cells slots ρ0 ρ la' C hS hR hx (hg.set rfl _) h1 h2 (zl_set (v := .int x) (fun i v hv => (hg.1 i v hv).2) hl')
theorem z_astore_n {j : Fin 4} {q : Nat} (hd : decode M.2.1 pc = .ok (.astore_n j, 1)) (hn : (j : Nat) < M.2.2.1) (hp : pc + 1 = pc') (kk : zW E l M d b G0 Q k pc' (ls.set (j : Nat) (some (.ref q))) (st) G) : zW E l M d b G0 Q k pc ls (.ref q :: st) G := by
  subst hp
  intro p e R s m args below meth c H locs cells slots ρ0 ρ la C hS hR hx hg h1 h2 hl
  have hX := C.1
  have hb := C.2.1
  by_cases hq : q = 0
  · subst hq
    refine lv_astore_nN hX hb hd rfl hl hn rfl fun la' hl' => ?_
    exact kk p e R s m args below meth c H locs cells slots ρ0 ρ la' C hS hR hx (hg.set rfl _) h1 h2 (zl_set (v := .ref 0) (fun i v hv => (hg.1 i v hv).2) hl')
  · simp only [List.map_cons, zv_ref ρ hq]
    refine lv_astore_n hX hb hd rfl hl hn rfl fun la' hl' => ?_
    exact kk p e R s m args below meth c H locs cells slots ρ0 ρ la' C hS hR hx (hg.set rfl _) h1 h2 (zl_set (v := .ref q) (fun i v hv => (hg.1 i v hv).2) (by rw [zv_ref ρ hq]; exact hl'))
theorem z_astore {j : Nat} {q : Nat} (hd : decode M.2.1 pc = .ok (.astore j, 2)) (hn : j < M.2.2.1) (hp : pc + 2 = pc') (kk : zW E l M d b G0 Q k pc' (ls.set j (some (.ref q))) (st) G) : zW E l M d b G0 Q k pc ls (.ref q :: st) G := by
  subst hp
  intro p e R s m args below meth c H locs cells slots ρ0 ρ la C hS hR hx hg h1 h2 hl
  have hX := C.1
  have hb := C.2.1
  by_cases hq : q = 0
  · subst hq
    refine lv_astoreN hX hb hd hl hn rfl fun la' hl' => ?_
    exact kk p e R s m args below meth c H locs cells slots ρ0 ρ la' C hS hR hx (hg.set rfl _) h1 h2 (zl_set (v := .ref 0) (fun i v hv => (hg.1 i v hv).2) hl')
  · simp only [List.map_cons, zv_ref ρ hq]
    refine lv_astore hX hb hd hl hn rfl fun la' hl' => ?_
    exact kk p e R s m args below meth c H locs cells slots ρ0 ρ la' C hS hR hx (hg.set rfl _) h1 h2 (zl_set (v := .ref q) (fun i v hv => (hg.1 i v hv).2) (by rw [zv_ref ρ hq]; exact hl'))
theorem z_iinc {j : Nat} {n : Int} {x y : Int32} (hd : decode M.2.1 pc = .ok (.iinc j n, 3)) (hv : ls[j]? = some (some (.int x))) (hy : x + Int32.ofInt n = y) (hn : j < M.2.2.1) (hp : pc + 3 = pc') (kk : zW E l M d b G0 Q k pc' (ls.set j (some (.int y))) (st) G) : zW E l M d b G0 Q k pc ls (st) G := by
  subst hp
  intro p e R s m args below meth c H locs cells slots ρ0 ρ la C hS hR hx hg h1 h2 hl
  have hX := C.1
  have hb := C.2.1
  obtain ⟨k9, hk9⟩ := List.getElem?_of_mem (zas_mem (ρ := ρ) ls 0 j _ hv)
  rw [Nat.zero_add] at hk9
  refine lv_iinc hX hb hd hl hk9 hy hn rfl fun la' hl' => ?_
  exact kk p e R s m args below meth c H locs cells slots ρ0 ρ la' C hS hR hx ((hg.push (v := .int y) trivial).set rfl _) h1 h2 (zl_set (v := .int y) (fun i v hv => (hg.1 i v hv).2) hl')
theorem z_iadd {x y z : Int32} (hd : decode M.2.1 pc = .ok (.iadd, 1)) (hz : x + y = z) (hp : pc + 1 = pc') (kk : zW E l M d b G0 Q k pc' ls (.int z :: st) G) : zW E l M d b G0 Q k pc ls (.int y :: .int x :: st) G := by
  subst hp
  intro p e R s m args below meth c H locs cells slots ρ0 ρ la C hS hR hx hg h1 h2 hl
  have hX := C.1
  have hb := C.2.1
  subst hz
  refine lv_iadd hX hb hd ?_
  exact kk p e R s m args below meth c H locs cells slots ρ0 ρ la C hS hR hx (hg.pop.pop.push trivial) h1 h2 hl
theorem z_isub {x y z : Int32} (hd : decode M.2.1 pc = .ok (.isub, 1)) (hz : x - y = z) (hp : pc + 1 = pc') (kk : zW E l M d b G0 Q k pc' ls (.int z :: st) G) : zW E l M d b G0 Q k pc ls (.int y :: .int x :: st) G := by
  subst hp
  intro p e R s m args below meth c H locs cells slots ρ0 ρ la C hS hR hx hg h1 h2 hl
  have hX := C.1
  have hb := C.2.1
  subst hz
  refine lv_isub hX hb hd ?_
  exact kk p e R s m args below meth c H locs cells slots ρ0 ρ la C hS hR hx (hg.pop.pop.push trivial) h1 h2 hl
theorem z_imul {x y z : Int32} (hd : decode M.2.1 pc = .ok (.imul, 1)) (hz : x * y = z) (hp : pc + 1 = pc') (kk : zW E l M d b G0 Q k pc' ls (.int z :: st) G) : zW E l M d b G0 Q k pc ls (.int y :: .int x :: st) G := by
  subst hp
  intro p e R s m args below meth c H locs cells slots ρ0 ρ la C hS hR hx hg h1 h2 hl
  have hX := C.1
  have hb := C.2.1
  subst hz
  refine lv_imul hX hb hd ?_
  exact kk p e R s m args below meth c H locs cells slots ρ0 ρ la C hS hR hx (hg.pop.pop.push trivial) h1 h2 hl
theorem z_iand {x y z : Int32} (hd : decode M.2.1 pc = .ok (.iand, 1)) (hz : x &&& y = z) (hp : pc + 1 = pc') (kk : zW E l M d b G0 Q k pc' ls (.int z :: st) G) : zW E l M d b G0 Q k pc ls (.int y :: .int x :: st) G := by
  subst hp
  intro p e R s m args below meth c H locs cells slots ρ0 ρ la C hS hR hx hg h1 h2 hl
  have hX := C.1
  have hb := C.2.1
  subst hz
  refine lv_iand hX hb hd ?_
  exact kk p e R s m args below meth c H locs cells slots ρ0 ρ la C hS hR hx (hg.pop.pop.push trivial) h1 h2 hl
theorem z_ior {x y z : Int32} (hd : decode M.2.1 pc = .ok (.ior, 1)) (hz : x ||| y = z) (hp : pc + 1 = pc') (kk : zW E l M d b G0 Q k pc' ls (.int z :: st) G) : zW E l M d b G0 Q k pc ls (.int y :: .int x :: st) G := by
  subst hp
  intro p e R s m args below meth c H locs cells slots ρ0 ρ la C hS hR hx hg h1 h2 hl
  have hX := C.1
  have hb := C.2.1
  subst hz
  refine lv_ior hX hb hd ?_
  exact kk p e R s m args below meth c H locs cells slots ρ0 ρ la C hS hR hx (hg.pop.pop.push trivial) h1 h2 hl
theorem z_ixor {x y z : Int32} (hd : decode M.2.1 pc = .ok (.ixor, 1)) (hz : x ^^^ y = z) (hp : pc + 1 = pc') (kk : zW E l M d b G0 Q k pc' ls (.int z :: st) G) : zW E l M d b G0 Q k pc ls (.int y :: .int x :: st) G := by
  subst hp
  intro p e R s m args below meth c H locs cells slots ρ0 ρ la C hS hR hx hg h1 h2 hl
  have hX := C.1
  have hb := C.2.1
  subst hz
  refine lv_ixor hX hb hd ?_
  exact kk p e R s m args below meth c H locs cells slots ρ0 ρ la C hS hR hx (hg.pop.pop.push trivial) h1 h2 hl
theorem z_ishl {x y z : Int32} (hd : decode M.2.1 pc = .ok (.ishl, 1)) (hz : x <<< (y &&& 31) = z) (hp : pc + 1 = pc') (kk : zW E l M d b G0 Q k pc' ls (.int z :: st) G) : zW E l M d b G0 Q k pc ls (.int y :: .int x :: st) G := by
  subst hp
  intro p e R s m args below meth c H locs cells slots ρ0 ρ la C hS hR hx hg h1 h2 hl
  have hX := C.1
  have hb := C.2.1
  subst hz
  refine lv_ishl hX hb hd ?_
  exact kk p e R s m args below meth c H locs cells slots ρ0 ρ la C hS hR hx (hg.pop.pop.push trivial) h1 h2 hl
theorem z_ishr {x y z : Int32} (hd : decode M.2.1 pc = .ok (.ishr, 1)) (hz : x >>> (y &&& 31) = z) (hp : pc + 1 = pc') (kk : zW E l M d b G0 Q k pc' ls (.int z :: st) G) : zW E l M d b G0 Q k pc ls (.int y :: .int x :: st) G := by
  subst hp
  intro p e R s m args below meth c H locs cells slots ρ0 ρ la C hS hR hx hg h1 h2 hl
  have hX := C.1
  have hb := C.2.1
  subst hz
  refine lv_ishr hX hb hd ?_
  exact kk p e R s m args below meth c H locs cells slots ρ0 ρ la C hS hR hx (hg.pop.pop.push trivial) h1 h2 hl
theorem z_idiv {x y z : Int32} (hd : decode M.2.1 pc = .ok (.idiv, 1)) (hne : ¬ y = 0) (hz : x / y = z) (hp : pc + 1 = pc') (kk : zW E l M d b G0 Q k pc' ls (.int z :: st) G) : zW E l M d b G0 Q k pc ls (.int y :: .int x :: st) G := by
  subst hp
  intro p e R s m args below meth c H locs cells slots ρ0 ρ la C hS hR hx hg h1 h2 hl
  have hX := C.1
  have hb := C.2.1
  subst hz
  refine lv_idiv hX hb hd hne ?_
  exact kk p e R s m args below meth c H locs cells slots ρ0 ρ la C hS hR hx (hg.pop.pop.push trivial) h1 h2 hl
theorem z_irem {x y z : Int32} (hd : decode M.2.1 pc = .ok (.irem, 1)) (hne : ¬ y = 0) (hz : x - x / y * y = z) (hp : pc + 1 = pc') (kk : zW E l M d b G0 Q k pc' ls (.int z :: st) G) : zW E l M d b G0 Q k pc ls (.int y :: .int x :: st) G := by
  subst hp
  intro p e R s m args below meth c H locs cells slots ρ0 ρ la C hS hR hx hg h1 h2 hl
  have hX := C.1
  have hb := C.2.1
  subst hz
  refine lv_irem hX hb hd hne ?_
  exact kk p e R s m args below meth c H locs cells slots ρ0 ρ la C hS hR hx (hg.pop.pop.push trivial) h1 h2 hl
theorem z_iushr {x y z : Int32} (hd : decode M.2.1 pc = .ok (.iushr, 1)) (hz : (x.toUInt32 >>> (y.toUInt32 &&& Int32.toUInt32 31)).toInt32 = z) (hp : pc + 1 = pc') (kk : zW E l M d b G0 Q k pc' ls (.int z :: st) G) : zW E l M d b G0 Q k pc ls (.int y :: .int x :: st) G := by
  subst hp
  intro p e R s m args below meth c H locs cells slots ρ0 ρ la C hS hR hx hg h1 h2 hl
  have hX := C.1
  have hb := C.2.1
  refine lv_iushr hX hb hd hz ?_
  exact kk p e R s m args below meth c H locs cells slots ρ0 ρ la C hS hR hx (hg.pop.pop.push trivial) h1 h2 hl
theorem z_ineg {x z : Int32} (hd : decode M.2.1 pc = .ok (.ineg, 1)) (hz : -x = z) (hp : pc + 1 = pc') (kk : zW E l M d b G0 Q k pc' ls (.int z :: st) G) : zW E l M d b G0 Q k pc ls (.int x :: st) G := by
  subst hp
  intro p e R s m args below meth c H locs cells slots ρ0 ρ la C hS hR hx hg h1 h2 hl
  have hX := C.1
  have hb := C.2.1
  subst hz
  refine lv_ineg hX hb hd ?_
  exact kk p e R s m args below meth c H locs cells slots ρ0 ρ la C hS hR hx (hg.pop.push trivial) h1 h2 hl
theorem z_i2b {x z : Int32} (hd : decode M.2.1 pc = .ok (.i2b, 1)) (hz : x.toInt8.toInt32 = z) (hp : pc + 1 = pc') (kk : zW E l M d b G0 Q k pc' ls (.int z :: st) G) : zW E l M d b G0 Q k pc ls (.int x :: st) G := by
  subst hp
  intro p e R s m args below meth c H locs cells slots ρ0 ρ la C hS hR hx hg h1 h2 hl
  have hX := C.1
  have hb := C.2.1
  refine lv_i2b hX hb hd hz ?_
  exact kk p e R s m args below meth c H locs cells slots ρ0 ρ la C hS hR hx (hg.pop.push trivial) h1 h2 hl
theorem z_i2c {x z : Int32} (hd : decode M.2.1 pc = .ok (.i2c, 1)) (hz : (x.toUInt32 % 65536).toInt32 = z) (hp : pc + 1 = pc') (kk : zW E l M d b G0 Q k pc' ls (.int z :: st) G) : zW E l M d b G0 Q k pc ls (.int x :: st) G := by
  subst hp
  intro p e R s m args below meth c H locs cells slots ρ0 ρ la C hS hR hx hg h1 h2 hl
  have hX := C.1
  have hb := C.2.1
  refine lv_i2c hX hb hd hz ?_
  exact kk p e R s m args below meth c H locs cells slots ρ0 ρ la C hS hR hx (hg.pop.push trivial) h1 h2 hl
theorem z_i2l {x : Int32} (hd : decode M.2.1 pc = .ok (.i2l, 1)) (hp : pc + 1 = pc') (kk : zW E l M d b G0 Q k pc' ls (.long x.toInt64 :: st) G) : zW E l M d b G0 Q k pc ls (.int x :: st) G := by
  subst hp
  intro p e R s m args below meth c H locs cells slots ρ0 ρ la C hS hR hx hg h1 h2 hl
  have hX := C.1
  have hb := C.2.1
  refine lv_i2l hX hb hd rfl ?_
  exact kk p e R s m args below meth c H locs cells slots ρ0 ρ la C hS hR hx (hg.pop.push trivial) h1 h2 hl
theorem z_lcmp {x y : Int64} {z : Int32} (hd : decode M.2.1 pc = .ok (.lcmp, 1)) (hz : lg_cmp x y = z) (hp : pc + 1 = pc') (kk : zW E l M d b G0 Q k pc' ls (.int z :: st) G) : zW E l M d b G0 Q k pc ls (.long y :: .long x :: st) G := by
  subst hp
  intro p e R s m args below meth c H locs cells slots ρ0 ρ la C hS hR hx hg h1 h2 hl
  have hX := C.1
  have hb := C.2.1
  subst hz
  refine W.lcmp hX hb hd ?_
  exact kk p e R s m args below meth c H locs cells slots ρ0 ρ la C hS hR hx (hg.pop.pop.push trivial) h1 h2 hl
theorem z_dup {v : Value} (hd : decode M.2.1 pc = .ok (.dup, 1)) (hc : v.category = 1) (hp : pc + 1 = pc') (kk : zW E l M d b G0 Q k pc' ls (v :: v :: st) G) : zW E l M d b G0 Q k pc ls (v :: st) G := by
  subst hp
  intro p e R s m args below meth c H locs cells slots ρ0 ρ la C hS hR hx hg h1 h2 hl
  have hX := C.1
  have hb := C.2.1
  refine lv_dup hX hb hd (by rw [zv_cat]; exact hc) ?_
  exact kk p e R s m args below meth c H locs cells slots ρ0 ρ la C hS hR hx (hg.push hg.top) h1 h2 hl
theorem z_pop {v : Value} (hd : decode M.2.1 pc = .ok (.pop, 1)) (hc : v.category = 1) (hp : pc + 1 = pc') (kk : zW E l M d b G0 Q k pc' ls (st) G) : zW E l M d b G0 Q k pc ls (v :: st) G := by
  subst hp
  intro p e R s m args below meth c H locs cells slots ρ0 ρ la C hS hR hx hg h1 h2 hl
  have hX := C.1
  have hb := C.2.1
  refine lv_pop hX hb hd (by rw [zv_cat]; exact hc) ?_
  exact kk p e R s m args below meth c H locs cells slots ρ0 ρ la C hS hR hx hg.pop h1 h2 hl
theorem z_dup_x1 {v u : Value} (hd : decode M.2.1 pc = .ok (.dup_x1, 1)) (hc : v.category = 1) (hc2 : u.category = 1) (hp : pc + 1 = pc') (kk : zW E l M d b G0 Q k pc' ls (v :: u :: v :: st) G) : zW E l M d b G0 Q k pc ls (v :: u :: st) G := by
  subst hp
  intro p e R s m args below meth c H locs cells slots ρ0 ρ la C hS hR hx hg h1 h2 hl
  have hX := C.1
  have hb := C.2.1
  refine lv_dup_x1 hX hb hd (by rw [zv_cat]; exact hc) (by rw [zv_cat]; exact hc2) ?_
  exact kk p e R s m args below meth c H locs cells slots ρ0 ρ la C hS hR hx ((((hg.pop.pop).push hg.top).push hg.pop.top).push hg.top) h1 h2 hl
theorem z_dup2 {v u : Value} (hd : decode M.2.1 pc = .ok (.dup2, 1)) (hc : v.category = 1) (hc2 : u.category = 1) (hp : pc + 1 = pc') (kk : zW E l M d b G0 Q k pc' ls (v :: u :: v :: u :: st) G) : zW E l M d b G0 Q k pc ls (v :: u :: st) G := by
  subst hp
  intro p e R s m args below meth c H locs cells slots ρ0 ρ la C hS hR hx hg h1 h2 hl
  have hX := C.1
  have hb := C.2.1
  refine lv_dup2_11 hX hb hd (by rw [zv_cat]; exact hc) (by rw [zv_cat]; exact hc2) ?_
  exact kk p e R s m args below meth c H locs cells slots ρ0 ρ la C hS hR hx ((hg.push hg.pop.top).push hg.top) h1 h2 hl
theorem z_goto {off : Int} (hd : decode M.2.1 pc = .ok (.goto off, 3)) (hp : (pc : Int) + off = (pc' : Int)) (kk : zW E l M d b G0 Q k pc' ls st G) : zW E l M d b G0 Q k pc ls st G := by
  intro p e R s m args below meth c H locs cells slots ρ0 ρ la C hS hR hx hg h1 h2 hl
  exact lv_goto C.1 C.2.1 hd hp (kk p e R s m args below meth c H locs cells slots ρ0 ρ la C hS hR hx hg h1 h2 hl)
theorem z_if_eq {x : Int32} {off : Int} {pt : Nat} (hd : decode M.2.1 pc = .ok (.ifCond .eq off, 3)) (ht : (pc : Int) + off = (pt : Int)) (hp : pc + 3 = pc') (kt : x = 0 → zW E l M d b G0 Q k pt ls st G) (kf : ¬ (x = 0) → zW E l M d b G0 Q k pc' ls st G) : zW E l M d b G0 Q k pc ls (.int x :: st) G := by
  subst hp
  intro p e R s m args below meth c H locs cells slots ρ0 ρ la C hS hR hx hg h1 h2 hl
  exact lv_if_eq C.1 C.2.1 hd ht (fun h => kt (by first | exact h | (simp at h ⊢; exact h)) p e R s m args below meth c H locs cells slots ρ0 ρ la C hS hR hx hg.pop h1 h2 hl) (fun h => kf (by first | exact h | (simp at h ⊢; exact h)) p e R s m args below meth c H locs cells slots ρ0 ρ la C hS hR hx hg.pop h1 h2 hl)
theorem z_if_ne {x : Int32} {off : Int} {pt : Nat} (hd : decode M.2.1 pc = .ok (.ifCond .ne off, 3)) (ht : (pc : Int) + off = (pt : Int)) (hp : pc + 3 = pc') (kt : ¬ x = 0 → zW E l M d b G0 Q k pt ls st G) (kf : ¬ (¬ x = 0) → zW E l M d b G0 Q k pc' ls st G) : zW E l M d b G0 Q k pc ls (.int x :: st) G := by
  subst hp
  intro p e R s m args below meth c H locs cells slots ρ0 ρ la C hS hR hx hg h1 h2 hl
  exact lv_if_ne C.1 C.2.1 hd ht (fun h => kt (by first | exact h | (simp at h ⊢; exact h)) p e R s m args below meth c H locs cells slots ρ0 ρ la C hS hR hx hg.pop h1 h2 hl) (fun h => kf (by first | exact h | (simp at h ⊢; exact h)) p e R s m args below meth c H locs cells slots ρ0 ρ la C hS hR hx hg.pop h1 h2 hl)
theorem z_if_lt {x : Int32} {off : Int} {pt : Nat} (hd : decode M.2.1 pc = .ok (.ifCond .lt off, 3)) (ht : (pc : Int) + off = (pt : Int)) (hp : pc + 3 = pc') (kt : x < 0 → zW E l M d b G0 Q k pt ls st G) (kf : ¬ (x < 0) → zW E l M d b G0 Q k pc' ls st G) : zW E l M d b G0 Q k pc ls (.int x :: st) G := by
  subst hp
  intro p e R s m args below meth c H locs cells slots ρ0 ρ la C hS hR hx hg h1 h2 hl
  exact lv_if_lt C.1 C.2.1 hd ht (fun h => kt (by first | exact h | (simp at h ⊢; exact h)) p e R s m args below meth c H locs cells slots ρ0 ρ la C hS hR hx hg.pop h1 h2 hl) (fun h => kf (by first | exact h | (simp at h ⊢; exact h)) p e R s m args below meth c H locs cells slots ρ0 ρ la C hS hR hx hg.pop h1 h2 hl)
theorem z_if_ge {x : Int32} {off : Int} {pt : Nat} (hd : decode M.2.1 pc = .ok (.ifCond .ge off, 3)) (ht : (pc : Int) + off = (pt : Int)) (hp : pc + 3 = pc') (kt : 0 ≤ x → zW E l M d b G0 Q k pt ls st G) (kf : ¬ (0 ≤ x) → zW E l M d b G0 Q k pc' ls st G) : zW E l M d b G0 Q k pc ls (.int x :: st) G := by
  subst hp
  intro p e R s m args below meth c H locs cells slots ρ0 ρ la C hS hR hx hg h1 h2 hl
  exact lv_if_ge C.1 C.2.1 hd ht (fun h => kt (by first | exact h | (simp at h ⊢; exact h)) p e R s m args below meth c H locs cells slots ρ0 ρ la C hS hR hx hg.pop h1 h2 hl) (fun h => kf (by first | exact h | (simp at h ⊢; exact h)) p e R s m args below meth c H locs cells slots ρ0 ρ la C hS hR hx hg.pop h1 h2 hl)
theorem z_if_gt {x : Int32} {off : Int} {pt : Nat} (hd : decode M.2.1 pc = .ok (.ifCond .gt off, 3)) (ht : (pc : Int) + off = (pt : Int)) (hp : pc + 3 = pc') (kt : 0 < x → zW E l M d b G0 Q k pt ls st G) (kf : ¬ (0 < x) → zW E l M d b G0 Q k pc' ls st G) : zW E l M d b G0 Q k pc ls (.int x :: st) G := by
  subst hp
  intro p e R s m args below meth c H locs cells slots ρ0 ρ la C hS hR hx hg h1 h2 hl
  exact lv_if_gt C.1 C.2.1 hd ht (fun h => kt (by first | exact h | (simp at h ⊢; exact h)) p e R s m args below meth c H locs cells slots ρ0 ρ la C hS hR hx hg.pop h1 h2 hl) (fun h => kf (by first | exact h | (simp at h ⊢; exact h)) p e R s m args below meth c H locs cells slots ρ0 ρ la C hS hR hx hg.pop h1 h2 hl)
theorem z_if_le {x : Int32} {off : Int} {pt : Nat} (hd : decode M.2.1 pc = .ok (.ifCond .le off, 3)) (ht : (pc : Int) + off = (pt : Int)) (hp : pc + 3 = pc') (kt : x ≤ 0 → zW E l M d b G0 Q k pt ls st G) (kf : ¬ (x ≤ 0) → zW E l M d b G0 Q k pc' ls st G) : zW E l M d b G0 Q k pc ls (.int x :: st) G := by
  subst hp
  intro p e R s m args below meth c H locs cells slots ρ0 ρ la C hS hR hx hg h1 h2 hl
  exact lv_if_le C.1 C.2.1 hd ht (fun h => kt (by first | exact h | (simp at h ⊢; exact h)) p e R s m args below meth c H locs cells slots ρ0 ρ la C hS hR hx hg.pop h1 h2 hl) (fun h => kf (by first | exact h | (simp at h ⊢; exact h)) p e R s m args below meth c H locs cells slots ρ0 ρ la C hS hR hx hg.pop h1 h2 hl)
theorem z_icmp_eq {x y : Int32} {off : Int} {pt : Nat} (hd : decode M.2.1 pc = .ok (.if_icmp .eq off, 3)) (ht : (pc : Int) + off = (pt : Int)) (hp : pc + 3 = pc') (kt : x = y → zW E l M d b G0 Q k pt ls st G) (kf : ¬ (x = y) → zW E l M d b G0 Q k pc' ls st G) : zW E l M d b G0 Q k pc ls (.int y :: .int x :: st) G := by
  subst hp
  intro p e R s m args below meth c H locs cells slots ρ0 ρ la C hS hR hx hg h1 h2 hl
  exact lv_icmp_eq C.1 C.2.1 hd ht (fun h => kt (by first | exact h | (simp at h ⊢; exact h)) p e R s m args below meth c H locs cells slots ρ0 ρ la C hS hR hx hg.pop.pop h1 h2 hl) (fun h => kf (by first | exact h | (simp at h ⊢; exact h)) p e R s m args below meth c H locs cells slots ρ0 ρ la C hS hR hx hg.pop.pop h1 h2 hl)
theorem z_icmp_ne {x y : Int32} {off : Int} {pt : Nat} (hd : decode M.2.1 pc = .ok (.if_icmp .ne off, 3)) (ht : (pc : Int) + off = (pt : Int)) (hp : pc + 3 = pc') (kt : ¬ x = y → zW E l M d b G0 Q k pt ls st G) (kf : ¬ (¬ x = y) → zW E l M d b G0 Q k pc' ls st G) : zW E l M d b G0 Q k pc ls (.int y :: .int x :: st) G := by
  subst hp
  intro p e R s m args below meth c H locs cells slots ρ0 ρ la C hS hR hx hg h1 h2 hl
  exact lv_icmp_ne C.1 C.2.1 hd ht (fun h => kt (by first | exact h | (simp at h ⊢; exact h)) p e R s m args below meth c H locs cells slots ρ0 ρ la C hS hR hx hg.pop.pop h1 h2 hl) (fun h => kf (by first | exact h | (simp at h ⊢; exact h)) p e R s m args below meth c H locs cells slots ρ0 ρ la C hS hR hx hg.pop.pop h1 h2 hl)
theorem z_icmp_lt {x y : Int32} {off : Int} {pt : Nat} (hd : decode M.2.1 pc = .ok (.if_icmp .lt off, 3)) (ht : (pc : Int) + off = (pt : Int)) (hp : pc + 3 = pc') (kt : x < y → zW E l M d b G0 Q k pt ls st G) (kf : ¬ (x < y) → zW E l M d b G0 Q k pc' ls st G) : zW E l M d b G0 Q k pc ls (.int y :: .int x :: st) G := by
  subst hp
  intro p e R s m args below meth c H locs cells slots ρ0 ρ la C hS hR hx hg h1 h2 hl
  exact lv_icmp_lt C.1 C.2.1 hd ht (fun h => kt (by first | exact h | (simp at h ⊢; exact h)) p e R s m args below meth c H locs cells slots ρ0 ρ la C hS hR hx hg.pop.pop h1 h2 hl) (fun h => kf (by first | exact h | (simp at h ⊢; exact h)) p e R s m args below meth c H locs cells slots ρ0 ρ la C hS hR hx hg.pop.pop h1 h2 hl)
theorem z_icmp_ge {x y : Int32} {off : Int} {pt : Nat} (hd : decode M.2.1 pc = .ok (.if_icmp .ge off, 3)) (ht : (pc : Int) + off = (pt : Int)) (hp : pc + 3 = pc') (kt : y ≤ x → zW E l M d b G0 Q k pt ls st G) (kf : ¬ (y ≤ x) → zW E l M d b G0 Q k pc' ls st G) : zW E l M d b G0 Q k pc ls (.int y :: .int x :: st) G := by
  subst hp
  intro p e R s m args below meth c H locs cells slots ρ0 ρ la C hS hR hx hg h1 h2 hl
  exact lv_icmp_ge C.1 C.2.1 hd ht (fun h => kt (by first | exact h | (simp at h ⊢; exact h)) p e R s m args below meth c H locs cells slots ρ0 ρ la C hS hR hx hg.pop.pop h1 h2 hl) (fun h => kf (by first | exact h | (simp at h ⊢; exact h)) p e R s m args below meth c H locs cells slots ρ0 ρ la C hS hR hx hg.pop.pop h1 h2 hl)
theorem z_icmp_gt {x y : Int32} {off : Int} {pt : Nat} (hd : decode M.2.1 pc = .ok (.if_icmp .gt off, 3)) (ht : (pc : Int) + off = (pt : Int)) (hp : pc + 3 = pc') (kt : y < x → zW E l M d b G0 Q k pt ls st G) (kf : ¬ (y < x) → zW E l M d b G0 Q k pc' ls st G) : zW E l M d b G0 Q k pc ls (.int y :: .int x :: st) G := by
  subst hp
  intro p e R s m args below meth c H locs cells slots ρ0 ρ la C hS hR hx hg h1 h2 hl
  exact lv_icmp_gt C.1 C.2.1 hd ht (fun h => kt (by first | exact h | (simp at h ⊢; exact h)) p e R s m args below meth c H locs cells slots ρ0 ρ la C hS hR hx hg.pop.pop h1 h2 hl) (fun h => kf (by first | exact h | (simp at h ⊢; exact h)) p e R s m args below meth c H locs cells slots ρ0 ρ la C hS hR hx hg.pop.pop h1 h2 hl)
theorem z_icmp_le {x y : Int32} {off : Int} {pt : Nat} (hd : decode M.2.1 pc = .ok (.if_icmp .le off, 3)) (ht : (pc : Int) + off = (pt : Int)) (hp : pc + 3 = pc') (kt : x ≤ y → zW E l M d b G0 Q k pt ls st G) (kf : ¬ (x ≤ y) → zW E l M d b G0 Q k pc' ls st G) : zW E l M d b G0 Q k pc ls (.int y :: .int x :: st) G := by
  subst hp
  intro p e R s m args below meth c H locs cells slots ρ0 ρ la C hS hR hx hg h1 h2 hl
  exact lv_icmp_le C.1 C.2.1 hd ht (fun h => kt (by first | exact h | (simp at h ⊢; exact h)) p e R s m args below meth c H locs cells slots ρ0 ρ la C hS hR hx hg.pop.pop h1 h2 hl) (fun h => kf (by first | exact h | (simp at h ⊢; exact h)) p e R s m args below meth c H locs cells slots ρ0 ρ la C hS hR hx hg.pop.pop h1 h2 hl)
theorem z_ifnull {q : Nat} {off : Int} {pt : Nat} (hd : decode M.2.1 pc = .ok (.ifnull off, 3)) (ht : (pc : Int) + off = (pt : Int)) (hp : pc + 3 = pc') (kt : q = 0 → zW E l M d b G0 Q k pt ls st G) (kf : ¬ q = 0 → zW E l M d b G0 Q k pc' ls st G) : zW E l M d b G0 Q k pc ls (.ref q :: st) G := by
  subst hp
  intro p e R s m args below meth c H locs cells slots ρ0 ρ la C hS hR hx hg h1 h2 hl
  by_cases hq : q = 0
  · have k2 := kt hq p e R s m args below meth c H locs cells slots ρ0 ρ la C hS hR hx hg.pop h1 h2 hl
    subst hq
    exact lv_ifnullN C.1 C.2.1 hd ht k2
  · simp only [List.map_cons, zv_ref ρ hq]
    exact lv_ifnull C.1 C.2.1 hd (kf hq p e R s m args below meth c H locs cells slots ρ0 ρ la C hS hR hx hg.pop h1 h2 hl)
theorem z_ifnonnull {q : Nat} {off : Int} {pt : Nat} (hd : decode M.2.1 pc = .ok (.ifnonnull off, 3)) (ht : (pc : Int) + off = (pt : Int)) (hp : pc + 3 = pc') (kt : ¬ q = 0 → zW E l M d b G0 Q k pt ls st G) (kf : ¬ (¬ q = 0) → zW E l M d b G0 Q k pc' ls st G) : zW E l M d b G0 Q k pc ls (.ref q :: st) G := by
  subst hp
  intro p e R s m args below meth c H locs cells slots ρ0 ρ la C hS hR hx hg h1 h2 hl
  by_cases hq : q = 0
  · have k2 := kf (fun h => h hq) p e R s m args below meth c H locs cells slots ρ0 ρ la C hS hR hx hg.pop h1 h2 hl
    subst hq
    exact lv_ifnonnullN C.1 C.2.1 hd k2
  · simp only [List.map_cons, zv_ref ρ hq]
    exact lv_ifnonnull C.1 C.2.1 hd ht (kt hq p e R s m args below meth c H locs cells slots ρ0 ρ la C hS hR hx hg.pop h1 h2 hl)
theorem z_tableIn {dflt lo hi : Int} {offs : Array Int} {len : Nat} {x : Int32} {off : Int} {pt : Nat} (hd : decode M.2.1 pc = .ok (.tableswitch dflt lo hi offs, len)) (h1' : ¬ x.toInt < lo) (h2' : ¬ hi < x.toInt) (ho : offs[(x.toInt - lo).toNat]? = some off) (ht : (pc : Int) + off = (pt : Int)) (kk : zW E l M d b G0 Q k pt ls st G) : zW E l M d b G0 Q k pc ls (.int x :: st) G := by
  intro p e R s m args below meth c H locs cells slots ρ0 ρ la C hS hR hx hg h1 h2 hl
  exact lv_tableIn C.1 C.2.1 hd h1' h2' ho ht (kk p e R s m args below meth c H locs cells slots ρ0 ρ la C hS hR hx hg.pop h1 h2 hl)
theorem z_tableOut {dflt lo hi : Int} {offs : Array Int} {len : Nat} {x : Int32} {pt : Nat} (hd : decode M.2.1 pc = .ok (.tableswitch dflt lo hi offs, len)) (h : x.toInt < lo ∨ hi < x.toInt) (ht : (pc : Int) + dflt = (pt : Int)) (kk : zW E l M d b G0 Q k pt ls st G) : zW E l M d b G0 Q k pc ls (.int x :: st) G := by
  intro p e R s m args below meth c H locs cells slots ρ0 ρ la C hS hR hx hg h1 h2 hl
  exact lv_tableOut C.1 C.2.1 hd h ht (kk p e R s m args below meth c H locs cells slots ρ0 ρ la C hS hR hx hg.pop h1 h2 hl)
theorem z_lookup {dflt : Int} {ps : Array (Int × Int)} {len : Nat} {x : Int32} {off : Int} {pt : Nat} (hd : decode M.2.1 pc = .ok (.lookupswitch dflt ps, len)) (hp : (ps.toList.zip (ps.toList.drop 1)).all (fun (a, next) => a.1 < next.1) = true) (ho : Op.lookupswitch.offset ps.toList dflt x.toInt = off) (ht : (pc : Int) + off = (pt : Int)) (kk : zW E l M d b G0 Q k pt ls st G) : zW E l M d b G0 Q k pc ls (.int x :: st) G := by
  intro p e R s m args below meth c H locs cells slots ρ0 ρ la C hS hR hx hg h1 h2 hl
  exact lv_lookup C.1 C.2.1 hd hp ho ht (kk p e R s m args below meth c H locs cells slots ρ0 ρ la C hS hR hx hg.pop h1 h2 hl)
/-- the top's value under another name -/
theorem z_top {u v : Value} (h : u = v) (kk : zW E l M d b G0 Q k pc ls (v :: st) G) : zW E l M d b G0 Q k pc ls (u :: st) G := h ▸ kk
theorem z_less {k' : Nat} (h : k' ≤ k) (kk : zW E l M d b G0 Q k' pc ls st G) : zW E l M d b G0 Q k pc ls st G := by
  intro p e R s m args below meth c H locs cells slots ρ0 ρ la C hS hR hx hg h1 h2 hl
  exact kk p e R s m args below meth c H locs cells slots ρ0 ρ la C hS hR hx hg (by omega) (by omega) hl
end ZRules
