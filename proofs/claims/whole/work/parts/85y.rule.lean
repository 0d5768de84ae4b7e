/-! RULES: the law's own body -/
def zCxL (Q : ZQ) (E : ZE) (M : ZM) (d b : Nat) (p : Program) (R : Room) (s : State) (m : MethodId) (args : Array Value) (meth : Method) (c : Code) : Prop :=
  p.tables.exec = Jvm.exec ∧ c.code = M.2.1 ∧ c.maxLocals = M.2.2.1 ∧ meth.sig.returnType = M.2.2.2 ∧ meth.locks = false ∧ s.vm.findClass M.1.cls = some m.cls ∧ (∀ w ∈ zgood, w.before args s = true) ∧ True ∧ (∀ X G', Q (.inr X) G' → False) ∧
  d ≤ R.frames ∧ 40 * d ≤ R.locals ∧ b ≤ R.cells ∧ b ≤ R.slots ∧ E.2.2.1 ≤ s.heap.size ∧ ZK E s ∧ ZS E s s.heap
def zWL (E : ZE) (l : Launch) (M : ZM) (d b : Nat) (G0 : ZG) (Q : ZQ) (k pc : Nat) (ls : List (Option Value)) (st : List Value) (G : ZG) : Prop :=
  ∀ (p : Program) (e : Env) (R : Room) (s : State) (m : MethodId) (args : Array Value) (below : List Frame) (meth : Method) (c : Code) (H : Heap) (locs : List Loc) (cells slots : Nat) (ρ0 ρ : Nat → Nat) (la : Array Slot),
    zCxL Q E M d b p R s m args meth c → va_S (zA E) s.heap H locs → ZR E s ρ G H → zext G0 ρ0 G ρ → zLg G ls st → cells + k ≤ b → slots + k ≤ b → lv_has la M.2.2.1 (zas ρ 0 ls) →
    W p l e R s m args below meth c H locs cells slots (vx_MQ below (zQc E ρ0 G0 Q) (zXC E ρ0 G0 Q) args s b b (zA E)) (F0 m pc la (st.map (zv ρ)))
section ZRuleL
variable {hh : List (Nat × Nat × Nat × Nat)} {E : ZE} {l : Launch} {M Y : ZM} {d b d' b' d1 b1 : Nat} {G0 : ZG} {Q Qz : ZQ} {k pc pc' : Nat} {ls : List (Option Value)} {st as : List Value} {G G1 : ZG}
theorem y_drop {ls' : List (Option Value)} (h : ∀ (i : Nat) (v : Value), ls'[i]? = some (some v) → ls[i]? = some (some v)) (kk : zWL E l M d b G0 Q k pc ls' st G) : zWL E l M d b G0 Q k pc ls st G := by
  intro p e R s m args below meth c H locs cells slots ρ0 ρ la C hS hR hx hg h1 h2 hl
  refine kk p e R s m args below meth c H locs cells slots ρ0 ρ la C hS hR hx ⟨fun i v hv => hg.1 i v (h i v hv), hg.2⟩ h1 h2 ⟨hl.1, hl.2.1, fun q hq => ?_⟩
  obtain ⟨j, v, rfl, hj⟩ := zas_inv _ _ _ hq
  exact hl.2.2 _ (zas_mem ls 0 j v (h j v hj))
theorem y_dr {ls' : List (Option Value)} (h : zsubl ls' ls) (kk : zWL E l M d b G0 Q k pc ls' st G) : zWL E l M d b G0 Q k pc ls st G := y_drop (zsubl_at _ _ h) kk
theorem y_st (hG : G1 = G) (kk : zWL E l M d b G0 Q k pc ls st G1) : zWL E l M d b G0 Q k pc ls st G := hG ▸ kk
theorem y_mk {q q1 : Nat} (hq : q1 = q) (hG : G1 = G) (kk : zWL E l M d b G0 Q k pc ls (.ref q1 :: st) G1) : zWL E l M d b G0 Q k pc ls (.ref q :: st) G := by
  subst hq; subst hG; exact kk
theorem y_aload_n {j : Fin 4} {q : Nat} (hd : decode M.2.1 pc = .ok (.aload_n j, 1)) (hv : ls[(j : Nat)]? = some (some (.ref q))) (hp : pc + 1 = pc') (kk : zWL E l M d b G0 Q k pc' ls (.ref q :: st) G) : zWL E l M d b G0 Q k pc ls (st) G := by
  subst hp
  intro p e R s m args below meth c H locs cells slots ρ0 ρ la C hS hR hx hg h1 h2 hl
  have hX := C.1
  have hb := C.2.1
  have hz := zl_at hl hv
  have kk2 := kk p e R s m args below meth c H locs cells slots ρ0 ρ la C hS hR hx (hg.push (hg.1 _ _ hv).1) h1 h2 hl
  by_cases hq : q = 0
  · subst hq
    exact lv_aload_nN hX hb hd rfl hz kk2
  · rw [zv_ref ρ hq] at hz
    simp only [List.map_cons, zv_ref ρ hq] at kk2
    exact lv_aload_n hX hb hd rfl hz kk2
theorem y_iconst {n : Int} {x : Int32} (hd : decode M.2.1 pc = .ok (.iconst n, 1)) (hv : Int32.ofInt n = x) (hp : pc + 1 = pc') (kk : zWL E l M d b G0 Q k pc' ls (.int x :: st) G) : zWL E l M d b G0 Q k pc ls (st) G := by
  subst hp
  intro p e R s m args below meth c H locs cells slots ρ0 ρ la C hS hR hx hg h1 h2 hl
  have hX := C.1
  have hb := C.2.1
  refine lv_iconst hX hb hd hv ?_
  exact kk p e R s m args below meth c H locs cells slots ρ0 ρ la C hS hR hx (hg.push trivial) h1 h2 hl
theorem y_iload {j : Nat} {x : Int32} (hd : decode M.2.1 pc = .ok (.iload j, 2)) (hv : ls[j]? = some (some (.int x))) (hp : pc + 2 = pc') (kk : zWL E l M d b G0 Q k pc' ls (.int x :: st) G) : zWL E l M d b G0 Q k pc ls (st) G := by
  subst hp
  intro p e R s m args below meth c H locs cells slots ρ0 ρ la C hS hR hx hg h1 h2 hl
  have hX := C.1
  have hb := C.2.1
  refine lv_iload hX hb hd (zl_at hl hv) ?_
  exact kk p e R s m args below meth c H locs cells slots ρ0 ρ la C hS hR hx (hg.push trivial) h1 h2 hl
theorem y_iald {q : Nat} {i : Int32} (hd : decode M.2.1 pc = .ok (.iaload, 1)) (hp : pc + 1 = pc') (hq : zar G q 0 ∨ zrd G q .int) (hin : vp_in i (zln G q)) (kk : zWL E l M d b G0 Q k pc' ls (.int (ziv G q i.toNatClampNeg) :: st) G) : zWL E l M d b G0 Q k pc ls (.int i :: .ref q :: st) G := by
  subst hp
  intro p e R s m args below meth c H locs cells slots ρ0 ρ la C hS hR hx hg h1 h2 hl
  have hal : zal G q := hq.elim (·.1) (·.1)
  have k2 := kk p e R s m args below meth c H locs cells slots ρ0 ρ la C hS hR hx (hg.pop.pop.push trivial) h1 h2 hl
  have hlt : i.toNatClampNeg < zln G q := Nat.not_le.mp fun z => hin (Or.inr z)
  have hK : ZK E s := C.2.2.2.2.2.2.2.2.2.2.2.2.2.2.1
  simp only [List.map_cons, zv_ref ρ (hR.ne0 hal)]
  rcases hq with hq | hq
  · exact W.iald (v := .int (ziv G q i.toNatClampNeg)) C.1 C.2.1 (hR.ar hq) ((hK.arr (k := 0) (by decide)).1 _ _) (fun z => by cases z) (by show ¬ (i < 0 ∨ (arrV _ _ _).slots.size ≤ _); rw [arrV_size]; exact hin) (by show (arrV _ _ _).slots[_]? = _; rw [arrV_read _ _ hlt]; rfl) rfl rfl hd k2
  · obtain ⟨cell, r1, r2, r3, r4, r5, r6⟩ := hR.rd hq
    exact W.iald (v := .int (ziv G q i.toNatClampNeg)) C.1 C.2.1 r1 r2 r3 (fun z => hin (z.imp id (fun z => by omega))) (r6 _ hlt) rfl rfl hd k2
theorem y_iadd {x y z : Int32} (hd : decode M.2.1 pc = .ok (.iadd, 1)) (hz : x + y = z) (hp : pc + 1 = pc') (kk : zWL E l M d b G0 Q k pc' ls (.int z :: st) G) : zWL E l M d b G0 Q k pc ls (.int y :: .int x :: st) G := by
  subst hp
  intro p e R s m args below meth c H locs cells slots ρ0 ρ la C hS hR hx hg h1 h2 hl
  have hX := C.1
  have hb := C.2.1
  subst hz
  refine lv_iadd hX hb hd ?_
  exact kk p e R s m args below meth c H locs cells slots ρ0 ρ la C hS hR hx (hg.pop.pop.push trivial) h1 h2 hl
theorem y_goto {off : Int} (hd : decode M.2.1 pc = .ok (.goto off, 3)) (hp : (pc : Int) + off = (pc' : Int)) (kk : zWL E l M d b G0 Q k pc' ls st G) : zWL E l M d b G0 Q k pc ls st G := by
  intro p e R s m args below meth c H locs cells slots ρ0 ρ la C hS hR hx hg h1 h2 hl
  exact lv_goto C.1 C.2.1 hd hp (kk p e R s m args below meth c H locs cells slots ρ0 ρ la C hS hR hx hg h1 h2 hl)
theorem y_zret {x : Int32} {ty : FieldType} (hd : decode M.2.1 pc = .ok (.ireturn, 1)) (hr : M.2.2.2 = some ty) (hok : narrow ty (.int x) = .int x) (hQ : Q (.inl (some (.int x))) G) : zWL E l M d b G0 Q k pc ls [.int x] G := by
  intro p e R s m args below meth c H locs cells slots ρ0 ρ la C hS hR hx hg h1 h2 hl
  exact z_end hQ hS hR hx (fun v hv => by cases hv; trivial) (by omega) (by omega) (fun hq hf => W.zret C.1 C.2.1 (C.2.2.2.1.trans hr) hok hq hf hd C.2.2.2.2.1)
theorem y_istore {j : Nat} {x : Int32} (hd : decode M.2.1 pc = .ok (.istore j, 2)) (hn : j < M.2.2.1) (hp : pc + 2 = pc') (kk : zWL E l M d b G0 Q k pc' (ls.set j (some (.int x))) (st) G) : zWL E l M d b G0 Q k pc ls (.int x :: st) G := by
  subst hp
  intro p e R s m args below meth c H locs cells slots ρ0 ρ la C hS hR hx hg h1 h2 hl
  have hX := C.1
  have hb := C.2.1
  refine lv_istore hX hb hd hl hn rfl fun la' hl' => ?_
  exact kk p e R s m args below meth c H locs cells slots ρ0 ρ la' C hS hR hx (hg.set rfl _) h1 h2 (zl_set (v := .int x) (fun i v hv => (hg.1 i v hv).2) hl')
theorem y_tableIn {dflt lo hi : Int} {offs : Array Int} {len : Nat} {x : Int32} {off : Int} {pt : Nat} (hd : decode M.2.1 pc = .ok (.tableswitch dflt lo hi offs, len)) (h1' : ¬ x.toInt < lo) (h2' : ¬ hi < x.toInt) (ho : offs[(x.toInt - lo).toNat]? = some off) (ht : (pc : Int) + off = (pt : Int)) (kk : zWL E l M d b G0 Q k pt ls st G) : zWL E l M d b G0 Q k pc ls (.int x :: st) G := by
  intro p e R s m args below meth c H locs cells slots ρ0 ρ la C hS hR hx hg h1 h2 hl
  exact lv_tableIn C.1 C.2.1 hd h1' h2' ho ht (kk p e R s m args below meth c H locs cells slots ρ0 ρ la C hS hR hx hg.pop h1 h2 hl)
theorem y_icmp_eq {x y : Int32} {off : Int} {pt : Nat} (hd : decode M.2.1 pc = .ok (.if_icmp .eq off, 3)) (ht : (pc : Int) + off = (pt : Int)) (hp : pc + 3 = pc') (kt : x = y → zWL E l M d b G0 Q k pt ls st G) (kf : ¬ (x = y) → zWL E l M d b G0 Q k pc' ls st G) : zWL E l M d b G0 Q k pc ls (.int y :: .int x :: st) G := by
  subst hp
  intro p e R s m args below meth c H locs cells slots ρ0 ρ la C hS hR hx hg h1 h2 hl
  exact lv_icmp_eq C.1 C.2.1 hd ht (fun h => kt (by first | exact h | (simp at h ⊢; exact h)) p e R s m args below meth c H locs cells slots ρ0 ρ la C hS hR hx hg.pop.pop h1 h2 hl) (fun h => kf (by first | exact h | (simp at h ⊢; exact h)) p e R s m args below meth c H locs cells slots ρ0 ρ la C hS hR hx hg.pop.pop h1 h2 hl)
theorem y_if_eq {x : Int32} {off : Int} {pt : Nat} (hd : decode M.2.1 pc = .ok (.ifCond .eq off, 3)) (ht : (pc : Int) + off = (pt : Int)) (hp : pc + 3 = pc') (kt : x = 0 → zWL E l M d b G0 Q k pt ls st G) (kf : ¬ (x = 0) → zWL E l M d b G0 Q k pc' ls st G) : zWL E l M d b G0 Q k pc ls (.int x :: st) G := by
  subst hp
  intro p e R s m args below meth c H locs cells slots ρ0 ρ la C hS hR hx hg h1 h2 hl
  exact lv_if_eq C.1 C.2.1 hd ht (fun h => kt (by first | exact h | (simp at h ⊢; exact h)) p e R s m args below meth c H locs cells slots ρ0 ρ la C hS hR hx hg.pop h1 h2 hl) (fun h => kf (by first | exact h | (simp at h ⊢; exact h)) p e R s m args below meth c H locs cells slots ρ0 ρ la C hS hR hx hg.pop h1 h2 hl)
theorem y_lcmp {x y : Int64} {z : Int32} (hd : decode M.2.1 pc = .ok (.lcmp, 1)) (hz : lg_cmp x y = z) (hp : pc + 1 = pc') (kk : zWL E l M d b G0 Q k pc' ls (.int z :: st) G) : zWL E l M d b G0 Q k pc ls (.long y :: .long x :: st) G := by
  subst hp
  intro p e R s m args below meth c H locs cells slots ρ0 ρ la C hS hR hx hg h1 h2 hl
  have hX := C.1
  have hb := C.2.1
  subst hz
  refine W.lcmp hX hb hd ?_
  exact kk p e R s m args below meth c H locs cells slots ρ0 ρ la C hS hR hx (hg.pop.pop.push trivial) h1 h2 hl
theorem y_lald {q : Nat} {i : Int32} (hd : decode M.2.1 pc = .ok (.laload, 1)) (hp : pc + 1 = pc') (hq : zar G q 3) (hin : vp_in i (zln G q)) (kk : zWL E l M d b G0 Q k pc' ls (.long (ziv G q i.toNatClampNeg).toInt64 :: st) G) : zWL E l M d b G0 Q k pc ls (.int i :: .ref q :: st) G := by
  subst hp
  intro p e R s m args below meth c H locs cells slots ρ0 ρ la C hS hR hx hg h1 h2 hl
  have k2 := kk p e R s m args below meth c H locs cells slots ρ0 ρ la C hS hR hx (hg.pop.pop.push trivial) h1 h2 hl
  have hlt : i.toNatClampNeg < zln G q := Nat.not_le.mp fun z => hin (Or.inr z)
  have hK : ZK E s := C.2.2.2.2.2.2.2.2.2.2.2.2.2.2.1
  simp only [List.map_cons, zv_ref ρ (hR.ne0 hq.1)]
  exact W.lald (v := .long (ziv G q i.toNatClampNeg).toInt64) C.1 C.2.1 (hR.ar hq) ((hK.arr (k := 3) (by decide)).1 _ _) (fun z => by cases z) (by show ¬ (i < 0 ∨ (arrV _ _ _).slots.size ≤ _); rw [arrV_size]; exact hin) (by show (arrV _ _ _).slots[_]? = _; rw [arrV_read _ _ hlt]; rfl) rfl rfl hd k2
theorem y_if_ne {x : Int32} {off : Int} {pt : Nat} (hd : decode M.2.1 pc = .ok (.ifCond .ne off, 3)) (ht : (pc : Int) + off = (pt : Int)) (hp : pc + 3 = pc') (kt : ¬ x = 0 → zWL E l M d b G0 Q k pt ls st G) (kf : ¬ (¬ x = 0) → zWL E l M d b G0 Q k pc' ls st G) : zWL E l M d b G0 Q k pc ls (.int x :: st) G := by
  subst hp
  intro p e R s m args below meth c H locs cells slots ρ0 ρ la C hS hR hx hg h1 h2 hl
  exact lv_if_ne C.1 C.2.1 hd ht (fun h => kt (by first | exact h | (simp at h ⊢; exact h)) p e R s m args below meth c H locs cells slots ρ0 ρ la C hS hR hx hg.pop h1 h2 hl) (fun h => kf (by first | exact h | (simp at h ⊢; exact h)) p e R s m args below meth c H locs cells slots ρ0 ρ la C hS hR hx hg.pop h1 h2 hl)
theorem y_i2l {x : Int32} (hd : decode M.2.1 pc = .ok (.i2l, 1)) (hp : pc + 1 = pc') (kk : zWL E l M d b G0 Q k pc' ls (.long x.toInt64 :: st) G) : zWL E l M d b G0 Q k pc ls (.int x :: st) G := by
  subst hp
  intro p e R s m args below meth c H locs cells slots ρ0 ρ la C hS hR hx hg h1 h2 hl
  have hX := C.1
  have hb := C.2.1
  refine lv_i2l hX hb hd rfl ?_
  exact kk p e R s m args below meth c H locs cells slots ρ0 ρ la C hS hR hx (hg.pop.push trivial) h1 h2 hl
theorem y_bipush {n : Int} {x : Int32} (hd : decode M.2.1 pc = .ok (.bipush n, 2)) (hv : (Int8.ofInt n).toInt32 = x) (hp : pc + 2 = pc') (kk : zWL E l M d b G0 Q k pc' ls (.int x :: st) G) : zWL E l M d b G0 Q k pc ls (st) G := by
  subst hp
  intro p e R s m args below meth c H locs cells slots ρ0 ρ la C hS hR hx hg h1 h2 hl
  have hX := C.1
  have hb := C.2.1
  refine lv_bipush hX hb hd hv ?_
  exact kk p e R s m args below meth c H locs cells slots ρ0 ρ la C hS hR hx (hg.push trivial) h1 h2 hl
theorem y_astore_n {j : Fin 4} {q : Nat} (hd : decode M.2.1 pc = .ok (.astore_n j, 1)) (hn : (j : Nat) < M.2.2.1) (hp : pc + 1 = pc') (kk : zWL E l M d b G0 Q k pc' (ls.set (j : Nat) (some (.ref q))) (st) G) : zWL E l M d b G0 Q k pc ls (.ref q :: st) G := by
  subst hp
  intro p e R s m args below meth c H locs cells slots ρ0 ρ la C hS hR hx hg h1 h2 hl
  have hX := C.1
  have hb := C.2.1
  by_cases hq : q = 0
  · subst hq
    refine lv_astore_nN hX hb hd rfl hl hn rfl fun la' hl' => ?_
    exact kk p e R s m args below meth c H locs cells slots ρ0 ρ la' C hS hR hx (hg.set rfl _) h1 h2 (zl_set (v := .ref 0) (fun i v hv => (hg.1 i v hv).2) hl')
  · simp only [List.map_cons, zv_ref ρ hq]
    refine lv_astore_n hX hb hd rfl hl hn rfl fun la' hl' => ?_
    exact kk p e R s m args below meth c H locs cells slots ρ0 ρ la' C hS hR hx (hg.set rfl _) h1 h2 (zl_set (v := .ref q) (fun i v hv => (hg.1 i v hv).2) (by rw [zv_ref ρ hq]; exact hl'))
theorem y_new {idx ci t : Nat} (hd : decode M.2.1 pc = .ok (.new idx, 3)) (hw1 : Cond.classLink M.1.cls idx (zC ci) ∈ zgood) (hw2 : Cond.instantiable (zC ci) (zN ci) ∈ zgood) (hw3 : Cond.initialized (zC ci) ∈ zgood) (hci : ci < 14) (hp : pc + 3 = pc') (h0 : t ≠ 0) (ht : t < 448) (htc : t / 32 = ci)
    (hbig : zN ci + 1 ≤ k) (hdf : ∀ j, j < zN ci → defaultValue (zty ci j) = if zref (zty ci j) = true then .null else .int 0)
    (kk : zWL E l M d b G0 Q (k - (zN ci + 1)) pc' ls (.ref (zp t (zcn G t)) :: st) (znw G t 0)) : zWL E l M d b G0 Q k pc ls st G := by
  subst hp
  intro p e R s m args below meth c H locs cells slots ρ0 ρ la C hS hR hx hg h1 h2 hl
  have hts := C.2.2.2.2.2.2.1
  have hK : ZK E s := C.2.2.2.2.2.2.2.2.2.2.2.2.2.2.1
  have hc9 := z_cl hci
  have hKn := hK.1 ci _ hc9
  have hbc : b ≤ R.cells := C.2.2.2.2.2.2.2.2.2.2.2.1
  have hbs : b ≤ R.slots := C.2.2.2.2.2.2.2.2.2.2.2.2.1
  have hbase : E.2.2.1 ≤ s.heap.size := C.2.2.2.2.2.2.2.2.2.2.2.2.2.1
  refine W.newcK C.1 C.2.1 C.2.2.2.2.2.1 (hts _ hw1) (hts _ hw2) (hts _ hw3) rfl hd (by omega) (by omega) hKn.2.1 rfl fun H1 kC hkC e1 z1 o1 => ?_
  have hm : zp t (zcn G t) % 4096 = t := zp_mod (by omega)
  have hcell : zcell E s (upd9 ρ (zp t (zcn G t)) H.size) (znw G t 0) (zp t (zcn G t)) H1 := by
    refine zcell.ob (ci := ci) (by rw [hm]; exact ht) (by rw [hm]; exact htc) ?_
    have hρ : upd9 ρ (zp t (zcn G t)) H.size (zp t (zcn G t)) = H.size := by simp [upd9]
    rw [hρ]
    refine (u_born (zty ci) hts (z_cw hci) hKn hkC e1 (z_ty hci)).to (fun j hj => ?_)
    show defaultValue (zty ci j) = _
    rw [hdf j hj]
    unfold zF
    rw [hm, htc, ziv_nw, zrv_nw, if_pos rfl, if_pos rfl]
    split <;> rfl
  obtain ⟨hR', hS', hx', hg', hl', hst, hv⟩ := z_made hR hS hbase h0 (by omega) (by omega) z1 o1 hcell hg hl
  have k2 := kk p e R s m args below meth c H1 locs (cells + 1) (slots + zN ci) ρ0 _ la C hS' hR' (hx.trans hx') hg' (by omega) (by omega) hl'
  rw [List.map_cons, hst, hv] at k2
  exact k2
theorem y_dup {v : Value} (hd : decode M.2.1 pc = .ok (.dup, 1)) (hc : v.category = 1) (hp : pc + 1 = pc') (kk : zWL E l M d b G0 Q k pc' ls (v :: v :: st) G) : zWL E l M d b G0 Q k pc ls (v :: st) G := by
  subst hp
  intro p e R s m args below meth c H locs cells slots ρ0 ρ la C hS hR hx hg h1 h2 hl
  have hX := C.1
  have hb := C.2.1
  refine lv_dup hX hb hd (by rw [zv_cat]; exact hc) ?_
  exact kk p e R s m args below meth c H locs cells slots ρ0 ρ la C hS hR hx (hg.push hg.top) h1 h2 hl
theorem y_tableOut {dflt lo hi : Int} {offs : Array Int} {len : Nat} {x : Int32} {pt : Nat} (hd : decode M.2.1 pc = .ok (.tableswitch dflt lo hi offs, len)) (h : x.toInt < lo ∨ hi < x.toInt) (ht : (pc : Int) + dflt = (pt : Int)) (kk : zWL E l M d b G0 Q k pt ls st G) : zWL E l M d b G0 Q k pc ls (.int x :: st) G := by
  intro p e R s m args below meth c H locs cells slots ρ0 ρ la C hS hR hx hg h1 h2 hl
  exact lv_tableOut C.1 C.2.1 hd h ht (kk p e R s m args below meth c H locs cells slots ρ0 ρ la C hS hR hx hg.pop h1 h2 hl)
theorem y_newa {atype : ArrayType} {n : Int32} {N kd t : Nat} (hd : decode M.2.1 pc = .ok (.newarray atype, 2)) (hty : newarray.typeOf atype = zAk kd) (hkd : kd < 4) (hw : Cond.arrayClass (newarray.typeOf atype) ∈ zgood) (hp : pc + 2 = pc') (ht1 : 1024 ≤ t) (ht2 : t < 3584) (ht3 : (t - 1024) / 512 = kd) (hn : ¬ n < 0) (hN : n.toNatClampNeg = N) (hbytes : N ≤ 67108864) (hbig : N + 1 ≤ k)
    (kk : zWL E l M d b G0 Q (k - (N + 1)) pc' ls (.ref (zp t (zcn G t)) :: st) (znw G t N)) : zWL E l M d b G0 Q k pc ls (.int n :: st) G := by
  subst hp
  intro p e R s m args below meth c H locs cells slots ρ0 ρ la C hS hR hx hg h1 h2 hl
  have hts := C.2.2.2.2.2.2.1
  have hK : ZK E s := C.2.2.2.2.2.2.2.2.2.2.2.2.2.2.1
  have hbc : b ≤ R.cells := C.2.2.2.2.2.2.2.2.2.2.2.1
  have hbs : b ≤ R.slots := C.2.2.2.2.2.2.2.2.2.2.2.2.1
  have hbase : E.2.2.1 ≤ s.heap.size := C.2.2.2.2.2.2.2.2.2.2.2.2.2.1
  have hby : N * componentBytes (newarray.typeOf atype) ≤ 536870912 := by
    have : componentBytes (newarray.typeOf atype) ≤ 8 := by cases atype <;> decide
    calc N * componentBytes (newarray.typeOf atype) ≤ 67108864 * 8 := Nat.mul_le_mul hbytes this
      _ = 536870912 := rfl
  refine va_newaK C.1 C.2.1 (hts _ hw) rfl hd rfl hn hN hby (by omega) (by omega) rfl fun H1 cA e1 z1 o1 hAr hNm => ?_
  have hcA : cA = E.2.1 kd := Option.some.inj (hNm.symm.trans (zAk_at hty _ _ (hK.arr (by omega)).2))
  have hm : zp t (zcn G t) % 4096 = t := zp_mod (by omega)
  have hcell : zcell E s (upd9 ρ (zp t (zcn G t)) H.size) (znw G t N) (zp t (zcn G t)) H1 := by
    refine zcell.ar (k := kd) (by rw [hm]; exact ht1) (by rw [hm]; exact ht2) (by rw [hm]; exact ht3) ?_
    have hρ : upd9 ρ (zp t (zcn G t)) H.size (zp t (zcn G t)) = H.size := by simp [upd9]
    rw [hρ, e1, hcA, zln_nw, if_pos rfl]
    congr 2
    funext j
    rw [hty]
    match kd, hkd with
    | 0, _ => show defaultValue .int = Value.int (ziv _ _ _); rw [ziv_nw, if_pos rfl]; rfl
    | 1, _ => show defaultValue .byte = Value.int (ziv _ _ _); rw [ziv_nw, if_pos rfl]; rfl
    | 2, _ => show defaultValue .boolean = Value.int (ziv _ _ _); rw [ziv_nw, if_pos rfl]; rfl
    | 3, _ => show defaultValue .long = Value.long (ziv _ _ _).toInt64; rw [ziv_nw, if_pos rfl]; rfl
  obtain ⟨hR', hS', hx', hg', hl', hst, hv⟩ := z_made (t := t) (n := N) hR hS hbase (by omega) (by omega) (by omega) z1 o1 hcell hg.pop hl
  have k2 := kk p e R s m args below meth c H1 locs (cells + 1) (slots + N) ρ0 _ la C hS' hR' (hx.trans hx') hg' (by omega) (by omega) hl'
  rw [List.map_cons, hst, hv] at k2
  exact k2
theorem y_isub {x y z : Int32} (hd : decode M.2.1 pc = .ok (.isub, 1)) (hz : x - y = z) (hp : pc + 1 = pc') (kk : zWL E l M d b G0 Q k pc' ls (.int z :: st) G) : zWL E l M d b G0 Q k pc ls (.int y :: .int x :: st) G := by
  subst hp
  intro p e R s m args below meth c H locs cells slots ρ0 ρ la C hS hR hx hg h1 h2 hl
  have hX := C.1
  have hb := C.2.1
  subst hz
  refine lv_isub hX hb hd ?_
  exact kk p e R s m args below meth c H locs cells slots ρ0 ρ la C hS hR hx (hg.pop.pop.push trivial) h1 h2 hl
theorem y_iinc {j : Nat} {n : Int} {x y : Int32} (hd : decode M.2.1 pc = .ok (.iinc j n, 3)) (hv : ls[j]? = some (some (.int x))) (hy : x + Int32.ofInt n = y) (hn : j < M.2.2.1) (hp : pc + 3 = pc') (kk : zWL E l M d b G0 Q k pc' (ls.set j (some (.int y))) (st) G) : zWL E l M d b G0 Q k pc ls (st) G := by
  subst hp
  intro p e R s m args below meth c H locs cells slots ρ0 ρ la C hS hR hx hg h1 h2 hl
  have hX := C.1
  have hb := C.2.1
  obtain ⟨k9, hk9⟩ := List.getElem?_of_mem (zas_mem (ρ := ρ) ls 0 j _ hv)
  rw [Nat.zero_add] at hk9
  refine lv_iinc hX hb hd hl hk9 hy hn rfl fun la' hl' => ?_
  exact kk p e R s m args below meth c H locs cells slots ρ0 ρ la' C hS hR hx ((hg.push (v := .int y) trivial).set rfl _) h1 h2 (zl_set (v := .int y) (fun i v hv => (hg.1 i v hv).2) hl')
theorem y_icmp_gt {x y : Int32} {off : Int} {pt : Nat} (hd : decode M.2.1 pc = .ok (.if_icmp .gt off, 3)) (ht : (pc : Int) + off = (pt : Int)) (hp : pc + 3 = pc') (kt : y < x → zWL E l M d b G0 Q k pt ls st G) (kf : ¬ (y < x) → zWL E l M d b G0 Q k pc' ls st G) : zWL E l M d b G0 Q k pc ls (.int y :: .int x :: st) G := by
  subst hp
  intro p e R s m args below meth c H locs cells slots ρ0 ρ la C hS hR hx hg h1 h2 hl
  exact lv_icmp_gt C.1 C.2.1 hd ht (fun h => kt (by first | exact h | (simp at h ⊢; exact h)) p e R s m args below meth c H locs cells slots ρ0 ρ la C hS hR hx hg.pop.pop h1 h2 hl) (fun h => kf (by first | exact h | (simp at h ⊢; exact h)) p e R s m args below meth c H locs cells slots ρ0 ρ la C hS hR hx hg.pop.pop h1 h2 hl)
theorem y_iand {x y z : Int32} (hd : decode M.2.1 pc = .ok (.iand, 1)) (hz : x &&& y = z) (hp : pc + 1 = pc') (kk : zWL E l M d b G0 Q k pc' ls (.int z :: st) G) : zWL E l M d b G0 Q k pc ls (.int y :: .int x :: st) G := by
  subst hp
  intro p e R s m args below meth c H locs cells slots ρ0 ρ la C hS hR hx hg h1 h2 hl
  have hX := C.1
  have hb := C.2.1
  subst hz
  refine lv_iand hX hb hd ?_
  exact kk p e R s m args below meth c H locs cells slots ρ0 ρ la C hS hR hx (hg.pop.pop.push trivial) h1 h2 hl
theorem y_alen {q : Nat} {n : Int32} (hd : decode M.2.1 pc = .ok (.arraylength, 1)) (hp : pc + 1 = pc') (hq : (∃ j, j < 5 ∧ zar G q j) ∨ ∃ ty, zrd G q ty) (hn : Int32.ofNat (zln G q) = n) (kk : zWL E l M d b G0 Q k pc' ls (.int n :: st) G) : zWL E l M d b G0 Q k pc ls (.ref q :: st) G := by
  subst hp
  subst hn
  intro p e R s m args below meth c H locs cells slots ρ0 ρ la C hS hR hx hg h1 h2 hl
  have hal : zal G q := hq.elim (fun ⟨_, _, h⟩ => h.1) (fun ⟨_, h⟩ => h.1)
  have k2 := kk p e R s m args below meth c H locs cells slots ρ0 ρ la C hS hR hx (hg.pop.push trivial) h1 h2 hl
  have hK : ZK E s := C.2.2.2.2.2.2.2.2.2.2.2.2.2.2.1
  simp only [List.map_cons, zv_ref ρ (hR.ne0 hal)]
  rcases hq with ⟨j, hj, hq⟩ | ⟨ty, hq⟩
  · exact W.alen (n := Int32.ofNat (zln G q)) C.1 C.2.1 (hR.ar hq) ((hK.arr hj).1 _ _) (by rw [arrV_size]) rfl rfl hd k2
  · obtain ⟨cell, r1, r2, r3, r4, r5, r6⟩ := hR.rd hq
    exact W.alen (n := Int32.ofNat (zln G q)) C.1 C.2.1 r1 r2 r5 rfl rfl hd k2
theorem y_pre {p : Program} {R : Room} {s : State} {m : MethodId} {args : Array Value} {meth : Method} {c : Code} {H : Heap} {locs : List Loc} {ρ : Nat → Nat} (C : zCxL Q E M d b p R s m args meth c) (hS : va_S (zA E) s.heap H locs) (hR : ZR E s ρ G H) (hg : ∀ v ∈ as, zgd G v) : ∀ U : State, U.heap = H → s.WarmedH U.vm → zPc E ρ G as ((as.map (zv ρ)).toArray) U := by
  intro U hU hW
  have hbase : E.2.2.1 ≤ s.heap.size := C.2.2.2.2.2.2.2.2.2.2.2.2.2.1
  have hK : ZK E s := C.2.2.2.2.2.2.2.2.2.2.2.2.2.2.1
  have hZ : ZS E s s.heap := C.2.2.2.2.2.2.2.2.2.2.2.2.2.2.2
  exact ⟨rfl, hg, by rw [hU]; exact Nat.le_trans hbase hS.1, by rw [hU]; exact hR.moved hW.alike, ZK.moved hW.alike hK, by rw [hU]; exact ZS.go hW hS.2.1 hZ⟩
theorem y_after {p : Program} {e : Env} {R : Room} {s : State} {m : MethodId} {args : Array Value} {below : List Frame} {meth : Method} {c : Code} {H : Heap} {locs : List Loc} {cells slots : Nat} {ρ0 ρ : Nat → Nat} {la : Array Slot} {a : Array Value} {ast : List Value}
    (C : zCxL Q E M d b p R s m args meth c) (hS : va_S (zA E) s.heap H locs) (hR : ZR E s ρ G H) (hx : zext G0 ρ0 G ρ) (hg : zLg G ls st) (h1 : cells + k ≤ b) (h2 : slots + k ≤ b) (hl : lv_has la M.2.2.1 (zas ρ 0 ls)) (hb : b' ≤ k)
    (hr : vx_Run p l e R s m args below meth c H locs cells slots b' b' (F0 m pc la ast) (st.map (zv ρ)) (zQc E ρ G Qz a) (zXC E ρ G Qz) (zA E))
    (kk : ∀ r G', Qz (.inl r) G' → zWL E l M d b G0 Q (k - b') (pc + 3) ls (r.toList ++ st) G') (kx : ∀ X G', Qz (.inr X) G' → Q (.inr X) G') :
    W p l e R s m args below meth c H locs cells slots (vx_MQ below (zQc E ρ0 G0 Q) (zXC E ρ0 G0 Q) args s b b (zA E)) (F0 m pc la ast) := by
  intro T hT X
  rcases hr T hT X with ⟨v, st₀, t, T', L, h0, X', hL, e1, e2, ⟨⟨r, G', ρ', hv, hQz, hgr, hR', hx'⟩, hF⟩, hst⟩ | ⟨q, st₀, t, T', L, Xn, ce, h0, X', hL, e1, e2, ⟨⟨G', ρ', hQz, hR', hx'⟩, hF⟩, hce, hcv, hcl, hst⟩
  · cases hv
    obtain ⟨k1, k2, k3⟩ := vx_keep h0 e1 hS (fun _ _ h => h) (fun _ h => h) hL hF
    have hal : t.vm.Alike s.vm := by rw [← e2]; exact X'.warmed.alike.symm
    have hR2 : ZR E s ρ' G' T'.heap := by rw [e1]; exact hR'.moved hal
    have hl' : lv_has la M.2.2.1 (zas ρ' 0 ls) := by rw [zas_congr ls 0 (fun j v hj => zv_ext hR hR2 hx' (hg.1 j v hj).1)]; exact hl
    have hst2 : st.map (zv ρ') = st.map (zv ρ) := List.map_congr_left (fun v hv => zv_ext hR hR2 hx' (hg.2 v hv))
    have hg' : zLg G' ls (r.toList ++ st) := ⟨(hg.go hx').1, fun v hv => by
      rcases List.mem_append.mp hv with h | h
      · exact hgr v (Option.mem_toList.mp h)
      · exact hx'.gd (hg.2 v h)⟩
    have k9 := kk r G' hQz p e R s m args below meth c T'.heap (locs ++ L) (cells + b') (slots + b') ρ0 ρ' la C k3 hR2 (hx.trans hx') hg' (by omega) (by omega) hl'
    have e9 : (r.toList ++ st).map (zv ρ') = (r.map (zv ρ')).toList ++ st.map (zv ρ) := by
      rw [List.map_append, hst2]
      cases r <;> rfl
    rw [e9] at k9
    obtain ⟨t2, a1, b1⟩ := k9 T' rfl X'
    exact ⟨t2, hst t2 a1, b1⟩
  · obtain ⟨k1, k2, k3⟩ := vx_keep h0 e1 hS (fun _ _ h => h) (fun _ h => h) hL hF
    exact (C.2.2.2.2.2.2.2.2.1 _ _ (kx Xn G' hQz)).elim
theorem y_callV {idx q ci n : Nat} (hm : zMet E l Y d' b' (.ref q :: as) G Qz) (hd : decode M.2.1 pc = .ok (.invokevirtual idx, 3)) (hw : Cond.methodLink M.1.cls idx Y.1 ∈ zgood) (hY : zcV Y n) (hn : as.length = n) (hp : pc + 3 = pc') (hci : ci < 14) (hC : Y.1.cls = zC ci) (hq : zob G q ci) (hdd : d' + 1 ≤ d) (hb : b' ≤ k) (hst : (st.map fun v => v.category).sum ≤ 8)
    (kk : ∀ r G', Qz (.inl r) G' → zWL E l M d b G0 Q (k - b') pc' ls (r.toList ++ st) G') (kx : ∀ X G', Qz (.inr X) G' → Q (.inr X) G') : zWL E l M d b G0 Q k pc ls (as.reverse ++ .ref q :: st) G := by
  subst hp
  intro p e R s m args below meth c H locs cells slots ρ0 ρ la C hS hR hx hg h1 h2 hl
  have hts := C.2.2.2.2.2.2.1
  have hdf : d ≤ R.frames := C.2.2.2.2.2.2.2.2.2.1
  have hdl : 40 * d ≤ R.locals := C.2.2.2.2.2.2.2.2.2.2.1
  have hbc : b ≤ R.cells := C.2.2.2.2.2.2.2.2.2.2.2.1
  have hbs : b ≤ R.slots := C.2.2.2.2.2.2.2.2.2.2.2.2.1
  have hK : ZK E s := C.2.2.2.2.2.2.2.2.2.2.2.2.2.2.1
  obtain ⟨hw5, hdY, hmY⟩ := hY
  have hgas : ∀ v ∈ (.ref q :: as : List Value), zgd G v := fun v hv => by
    rcases List.mem_cons.mp hv with rfl | h
    · exact Or.inr (Or.inl hq.1)
    · exact hg.2 v (List.mem_append_left _ (List.mem_reverse.mpr h))
  have hgst : zLg G ls st := ⟨hg.1, fun v hv => hg.2 v (List.mem_append_right _ (List.mem_cons_of_mem _ hv))⟩
  obtain ⟨cell, q1, q2, q3, q4⟩ := hR.ob hq
  have hpre := y_pre (as := .ref q :: as) C hS hR hgas
  rw [List.map_cons, zv_ref ρ (hR.ne0 hq.1)] at hpre
  have est : (as.reverse ++ .ref q :: st).map (zv ρ) = (as.map (zv ρ)).reverse ++ .ref (ρ q) :: st.map (zv ρ) := by
    rw [List.map_append, List.map_cons, List.map_reverse, zv_ref ρ (hR.ne0 hq.1)]
  rw [est]
  refine y_after C hS hR hx hgst h1 h2 hl hb (vx_runV (Ts := zgood) (own := M.1.cls) (C := Y.1.cls) (n := n) (As := as.map (zv ρ)) (b := ρ q) ⟨C.1, C.2.1, C.2.2.1, C.2.2.2.2.2.1, hts⟩ (hm ρ)
    (cwV n hts (z_goodIn (ws := [.methodLink M.1.cls idx Y.1, .instanceMethod Y.1, .selects Y.1.cls Y.1 Y.1, .initialized Y.1.cls, .code Y.1 Y.2.1 Y.2.2.1 Y.2.2.2]) (fun w h9 => by
        rcases List.mem_cons.mp h9 with rfl | h9
        · exact hw
        · exact hw5 w h9) rfl) (ws' := zgood) rfl rfl rfl ⟨rfl, hdY⟩ ⟨by show d' + 1 ≤ _; omega, by show 8 + (Y.2.2.1 + 11) + 40 * d' ≤ _; omega⟩)
    ⟨zPc_blind, ⟨cell, q1, by rw [q3]; rfl, by rw [q2, hC]; exact (hK.1 ci _ (z_cl hci)).2.1⟩, hpre⟩ rfl (by rw [List.length_map]; exact hn) hl.1 rfl (z_sum8 hst) hd ⟨by omega, by omega⟩) kk kx
theorem y_callI {idx q n : Nat} (hm : zMet E l Y d' b' (.ref q :: as) G Qz) (hd : decode M.2.1 pc = .ok (.invokespecial idx, 3)) (hw : Cond.methodLink M.1.cls idx Y.1 ∈ zgood) (hY : zcI Y n) (hn : as.length = n) (hp : pc + 3 = pc') (hq : zal G q) (hdd : d' + 1 ≤ d) (hb : b' ≤ k) (hst : (st.map fun v => v.category).sum ≤ 8)
    (kk : ∀ r G', Qz (.inl r) G' → zWL E l M d b G0 Q (k - b') pc' ls (r.toList ++ st) G') (kx : ∀ X G', Qz (.inr X) G' → Q (.inr X) G') : zWL E l M d b G0 Q k pc ls (as.reverse ++ .ref q :: st) G := by
  subst hp
  intro p e R s m args below meth c H locs cells slots ρ0 ρ la C hS hR hx hg h1 h2 hl
  have hts := C.2.2.2.2.2.2.1
  have hdf : d ≤ R.frames := C.2.2.2.2.2.2.2.2.2.1
  have hdl : 40 * d ≤ R.locals := C.2.2.2.2.2.2.2.2.2.2.1
  have hbc : b ≤ R.cells := C.2.2.2.2.2.2.2.2.2.2.2.1
  have hbs : b ≤ R.slots := C.2.2.2.2.2.2.2.2.2.2.2.2.1
  obtain ⟨hw5, hdY, hmY, hnm, hret⟩ := hY
  have hgas : ∀ v ∈ (.ref q :: as : List Value), zgd G v := fun v hv => by
    rcases List.mem_cons.mp hv with rfl | h
    · exact Or.inr (Or.inl hq)
    · exact hg.2 v (List.mem_append_left _ (List.mem_reverse.mpr h))
  have hgst : zLg G ls st := ⟨hg.1, fun v hv => hg.2 v (List.mem_append_right _ (List.mem_cons_of_mem _ hv))⟩
  have hpre := y_pre (as := .ref q :: as) C hS hR hgas
  rw [List.map_cons, zv_ref ρ (hR.ne0 hq)] at hpre
  have est : (as.reverse ++ .ref q :: st).map (zv ρ) = (as.map (zv ρ)).reverse ++ .ref (ρ q) :: st.map (zv ρ) := by
    rw [List.map_append, List.map_cons, List.map_reverse, zv_ref ρ (hR.ne0 hq)]
  rw [est]
  have hin : ∀ w ∈ ([.instanceMethod Y.1, .initialized Y.1.cls, .code Y.1 Y.2.1 Y.2.2.1 Y.2.2.2] : List Cond), w.before args s = true := fun w h9 => hts w (hw5 w h9)
  have hg2 : GoodIn zgood (zws Y) := z_goodIn (ws := [.code Y.1 Y.2.1 Y.2.2.1 Y.2.2.2]) (fun w h9 => hw5 w (by simp at h9 ⊢; exact Or.inr (Or.inr h9))) rfl
  have hcb := callB_of (R := R) (s := s) (args := args) (own := M.1.cls) (index := idx) (y := Y.1) (bytes := Y.2.1) (maxL := Y.2.2.1) (ret := Y.2.2.2) (ws := zws Y) (rm := zroom d' b') (mc := b') (ms := b') n hts hg2 (ws' := zgood) rfl rfl rfl (hin _ (by simp)) (hts _ hw) hdY ⟨by show d' + 1 ≤ _; omega, by show 8 + (Y.2.2.1 + 11) + 40 * d' ≤ _; omega⟩
  rw [hret] at hcb
  exact y_after C hS hR hx hgst h1 h2 hl hb (vx_runI (Ts := zgood) (own := M.1.cls) (n := n) (As := as.map (zv ρ)) (b := ρ q) ⟨C.1, C.2.1, C.2.2.1, C.2.2.2.2.2.1, hts⟩ (hm ρ)
    ⟨hcb, hnm, hin _ (by simp)⟩ ⟨zPc_blind, hpre⟩ rfl (by rw [List.length_map]; exact hn) hl.1 rfl (z_sum8 hst) hd ⟨by omega, by omega⟩) kk kx
theorem y_callH {idx n : Nat} (hm : zMetH hh E l Y d' b' as G Qz) (hd : decode M.2.1 pc = .ok (.invokestatic idx, 3)) (hw : Cond.methodLink M.1.cls idx Y.1 ∈ zgood) (hY : zcH hh Y n) (hn : as.length = n) (hp : pc + 3 = pc') (hdd : d' + 1 ≤ d) (hb : b' ≤ k) (hst : (st.map fun v => v.category).sum ≤ 8)
    (kk : ∀ r G', Qz (.inl r) G' → zWL E l M d b G0 Q (k - b') pc' ls (r.toList ++ st) G') (kx : ∀ X G', Qz (.inr X) G' → Q (.inr X) G') : zWL E l M d b G0 Q k pc ls (as.reverse ++ st) G := by
  subst hp
  intro p e R s m args below meth c H locs cells slots ρ0 ρ la C hS hR hx hg h1 h2 hl
  have hts := C.2.2.2.2.2.2.1
  have hdf : d ≤ R.frames := C.2.2.2.2.2.2.2.2.2.1
  have hdl : 40 * d ≤ R.locals := C.2.2.2.2.2.2.2.2.2.2.1
  have hbc : b ≤ R.cells := C.2.2.2.2.2.2.2.2.2.2.2.1
  have hbs : b ≤ R.slots := C.2.2.2.2.2.2.2.2.2.2.2.2.1
  obtain ⟨hw5, hdY, hmY⟩ := hY
  have hgas : ∀ v ∈ as, zgd G v := fun v h => hg.2 v (List.mem_append_left _ (List.mem_reverse.mpr h))
  have hgst : zLg G ls st := ⟨hg.1, fun v hv => hg.2 v (List.mem_append_right _ hv)⟩
  have hpre := y_pre (as := as) C hS hR hgas
  have est : (as.reverse ++ st).map (zv ρ) = (as.map (zv ρ)).reverse ++ st.map (zv ρ) := by rw [List.map_append, List.map_reverse]
  rw [est]
  refine y_after C hS hR hx hgst h1 h2 hl hb (vx_runSX (Ts := zgood) (own := M.1.cls) (n := n) (hh := hh) (As := as.map (zv ρ)) ⟨C.1, C.2.1, C.2.2.1, C.2.2.2.2.2.1, hts⟩ (hm ρ)
    (vx_cwSW n hts (z_goodIn (ws := [.methodLink M.1.cls idx Y.1, .static Y.1, .initialized Y.1.cls, .codeWith Y.1 Y.2.1 Y.2.2.1 Y.2.2.2 hh]) (fun w h9 => by
        rcases List.mem_cons.mp h9 with rfl | h9
        · exact hw
        · exact hw5 w h9) rfl) (ws' := zgood) rfl rfl rfl hdY ⟨by show d' + 1 ≤ _; omega, by show 8 + (Y.2.2.1 + 11) + 40 * d' ≤ _; omega⟩)
    ⟨zPc_blind, hpre⟩ rfl (by rw [List.length_map]; exact hn) hl.1 rfl (z_sum8 hst) hd ⟨by omega, by omega⟩) kk kx
end ZRuleL
