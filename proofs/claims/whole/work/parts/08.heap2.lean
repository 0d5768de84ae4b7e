/-! RULES: stores into arrays, makings, statics, ends -/
theorem zAf_i {ρ : Nat → Nat} {G : ZG} {q k : Nat} {i : Nat} {x : Int32} (h3 : k ≠ 3) (h4 : k ≠ 4) : updV (zAf ρ G q k) i (.int x) = zAf ρ (zsi G q i x) q k := by
  funext j
  unfold updV
  match k, h3, h4 with
  | 0, _, _ => show (if j = i then _ else Value.int (ziv G q j)) = Value.int (ziv _ q j); rw [ziv_si]; by_cases h : j = i <;> simp [h]
  | 1, _, _ => show (if j = i then _ else Value.int (ziv G q j)) = Value.int (ziv _ q j); rw [ziv_si]; by_cases h : j = i <;> simp [h]
  | 2, _, _ => show (if j = i then _ else Value.int (ziv G q j)) = Value.int (ziv _ q j); rw [ziv_si]; by_cases h : j = i <;> simp [h]
  | k + 5, _, _ => show (if j = i then _ else Value.int (ziv G q j)) = Value.int (ziv _ q j); rw [ziv_si]; by_cases h : j = i <;> simp [h]
theorem zAf_l {ρ : Nat → Nat} {G : ZG} {q : Nat} {i : Nat} {x : Int32} : updV (zAf ρ G q 3) i (.long x.toInt64) = zAf ρ (zsi G q i x) q 3 := by
  funext j
  unfold updV
  show (if j = i then _ else Value.long (ziv G q j).toInt64) = Value.long (ziv _ q j).toInt64
  rw [ziv_si]
  by_cases h : j = i <;> simp [h]
theorem zAf_r {ρ : Nat → Nat} {G : ZG} {q : Nat} {i r : Nat} : updV (zAf ρ G q 4) i (zv ρ (.ref r)) = zAf ρ (zsr G q i r) q 4 := by
  funext j
  unfold updV
  show (if j = i then _ else zv ρ (Value.ref (zrv G q j))) = zv ρ (Value.ref (zrv _ q j))
  rw [zrv_sr]
  by_cases h : j = i <;> simp [h]
theorem zAk_at {atype : ArrayType} {k : Nat} (h : newarray.typeOf atype = zAk k) : ∀ cA : ClassId, ∀ U : State, va_RA U cA (zAk k) → U.vm.findClass ("[" ++ (newarray.typeOf atype).toString) = some cA := by
  intro cA U hr
  rw [h]
  match k, h with
  | 0, _ => exact hr
  | 1, _ => exact hr
  | 2, _ => exact hr
  | 3, _ => exact hr
  | k + 4, h => cases atype <;> cases h
section ZHeap2
variable {E : ZE} {l : Launch} {M : ZM} {d b : Nat} {G0 : ZG} {Q : ZQ} {k pc pc' : Nat} {ls : List (Option Value)} {st : List Value} {G : ZG}
/-- an array is written -/
theorem z_astK {q kd i : Nat} {G' : ZG} {s : State} {H H1 : Heap} {ρ : Nat → Nat} {locs : List Loc} {cell : Cell} {v : Value} {H0 : Heap} (hR : ZR E s ρ G H) (hS : va_S (zA E) H0 H locs) (hq : zar G q kd) (hcell : cell = arrV (E.2.1 kd) (zln G q) (zAf ρ G q kd)) (e : H1[ρ q]? = some (cell.setSlot i v)) (z : H1.size = H.size) (oq : ∀ a, a ≠ ρ q → H1[a]? = H[a]?)
    (hc : zcn G' = zcn G) (hn : zln G' q = zln G q) (ho : ∀ q', q' ≠ q → zln G' q' = zln G q' ∧ (∀ k, ziv G' q' k = ziv G q' k) ∧ ∀ k, zrv G' q' k = zrv G q' k) (hF : updV (zAf ρ G q kd) i v = zAf ρ G' q kd) (hgn : ∀ k, zgq G (zrv G' q k)) : ZR E s ρ G' H1 ∧ va_S (zA E) H0 H1 (locs ++ [⟨ρ q, i⟩]) ∧ zext G ρ G' ρ := by
  have hA : zA E (ρ q) := (hR.1 q hq.1).2.2.2 (fun hf => by have h1 := hq.2.1; have h2 := hq.2.2.1; unfold zfx at hf; omega)
  refine ⟨hR.upd hq.1 z oq hc ho (zcell.ar hq.2.1 hq.2.2.1 hq.2.2.2 ?_) hgn, hS.put z oq hA, ⟨fun t => by rw [hc]; exact Nat.le_refl _, fun _ _ => rfl⟩⟩
  rw [e, hcell, arrV_store, hF, hn]
theorem z_iast {q : Nat} {i x : Int32} (hd : decode M.2.1 pc = .ok (.iastore, 1)) (hp : pc + 1 = pc') (hq : zar G q 0) (hin : vp_in i (zln G q)) (kk : zW E l M d b G0 Q k pc' ls st (zsi G q i.toNatClampNeg x)) : zW E l M d b G0 Q k pc ls (.int x :: .int i :: .ref q :: st) G := by
  subst hp
  intro p e R s m args below meth c H locs cells slots ρ0 ρ la C hS hR hx hg h1 h2 hl
  have hK : ZK E s := C.2.2.2.2.2.2.2.2.2.2.2.2.2.2.1
  simp only [List.map_cons, zv_ref ρ (hR.ne0 hq.1)]
  refine W.iast C.1 C.2.1 (hR.ar hq) ((hK.arr (k := 0) (by decide)).1 _ _) (fun z => by cases z) (by show ¬ (i < 0 ∨ (arrV _ _ _).slots.size ≤ _); rw [arrV_size]; exact hin) rfl rfl hd fun H1 e1 z oq => ?_
  obtain ⟨hR', hS', hx'⟩ := z_astK (G' := zsi G q i.toNatClampNeg x) hR hS hq rfl e1 z oq rfl rfl (fun q' hq' => ⟨rfl, fun k => by rw [ziv_si, if_neg (fun h => hq' h.1)], fun k => rfl⟩) (zAf_i (by decide) (by decide)) (fun k => (hR.1 q hq.1).2.1 k)
  exact kk p e R s m args below meth c H1 _ cells slots ρ0 ρ la C hS' hR' (hx.trans hx') (hg.pop.pop.pop.go hx') h1 h2 hl
theorem z_bast {q : Nat} {i x : Int32} (hd : decode M.2.1 pc = .ok (.bastore, 1)) (hp : pc + 1 = pc') (hq : zar G q 1) (hin : vp_in i (zln G q)) (kk : zW E l M d b G0 Q k pc' ls st (zsi G q i.toNatClampNeg x.toInt8.toInt32)) : zW E l M d b G0 Q k pc ls (.int x :: .int i :: .ref q :: st) G := by
  subst hp
  intro p e R s m args below meth c H locs cells slots ρ0 ρ la C hS hR hx hg h1 h2 hl
  have hK : ZK E s := C.2.2.2.2.2.2.2.2.2.2.2.2.2.2.1
  simp only [List.map_cons, zv_ref ρ (hR.ne0 hq.1)]
  refine W.bast C.1 C.2.1 (hR.ar hq) ((hK.arr (k := 1) (by decide)).1 _ _) (fun z => by cases z) (by show ¬ (i < 0 ∨ (arrV _ _ _).slots.size ≤ _); rw [arrV_size]; exact hin) rfl rfl hd fun H1 e1 z oq => ?_
  obtain ⟨hR', hS', hx'⟩ := z_astK (G' := zsi G q i.toNatClampNeg x.toInt8.toInt32) hR hS hq rfl e1 z oq rfl rfl (fun q' hq' => ⟨rfl, fun k => by rw [ziv_si, if_neg (fun h => hq' h.1)], fun k => rfl⟩) (zAf_i (by decide) (by decide)) (fun k => (hR.1 q hq.1).2.1 k)
  exact kk p e R s m args below meth c H1 _ cells slots ρ0 ρ la C hS' hR' (hx.trans hx') (hg.pop.pop.pop.go hx') h1 h2 hl
theorem z_zast {q : Nat} {i x : Int32} (hd : decode M.2.1 pc = .ok (.bastore, 1)) (hp : pc + 1 = pc') (hq : zar G q 2) (hin : vp_in i (zln G q)) (hok : zok .boolean x) (kk : zW E l M d b G0 Q k pc' ls st (zsi G q i.toNatClampNeg x)) : zW E l M d b G0 Q k pc ls (.int x :: .int i :: .ref q :: st) G := by
  subst hp
  intro p e R s m args below meth c H locs cells slots ρ0 ρ la C hS hR hx hg h1 h2 hl
  have hK : ZK E s := C.2.2.2.2.2.2.2.2.2.2.2.2.2.2.1
  simp only [List.map_cons, zv_ref ρ (hR.ne0 hq.1)]
  refine W.zast C.1 C.2.1 (hR.ar hq) ((hK.arr (k := 2) (by decide)).1 _ _) (fun z => by cases z) (by show ¬ (i < 0 ∨ (arrV _ _ _).slots.size ≤ _); rw [arrV_size]; exact hin) rfl rfl hd fun H1 e1 z oq => ?_
  have e2 : H1[ρ q]? = some ((arrV (E.2.1 2) (zln G q) (zAf ρ G q 2)).setSlot i.toNatClampNeg (.int x)) := by rw [← hok.1]; exact e1
  obtain ⟨hR', hS', hx'⟩ := z_astK (G' := zsi G q i.toNatClampNeg x) hR hS hq rfl e2 z oq rfl rfl (fun q' hq' => ⟨rfl, fun k => by rw [ziv_si, if_neg (fun h => hq' h.1)], fun k => rfl⟩) (zAf_i (by decide) (by decide)) (fun k => (hR.1 q hq.1).2.1 k)
  exact kk p e R s m args below meth c H1 _ cells slots ρ0 ρ la C hS' hR' (hx.trans hx') (hg.pop.pop.pop.go hx') h1 h2 hl
theorem z_last {q : Nat} {i x : Int32} (hd : decode M.2.1 pc = .ok (.lastore, 1)) (hp : pc + 1 = pc') (hq : zar G q 3) (hin : vp_in i (zln G q)) (kk : zW E l M d b G0 Q k pc' ls st (zsi G q i.toNatClampNeg x)) : zW E l M d b G0 Q k pc ls (.long x.toInt64 :: .int i :: .ref q :: st) G := by
  subst hp
  intro p e R s m args below meth c H locs cells slots ρ0 ρ la C hS hR hx hg h1 h2 hl
  have hK : ZK E s := C.2.2.2.2.2.2.2.2.2.2.2.2.2.2.1
  simp only [List.map_cons, zv_ref ρ (hR.ne0 hq.1)]
  refine W.last C.1 C.2.1 (hR.ar hq) ((hK.arr (k := 3) (by decide)).1 _ _) (fun z => by cases z) (by show ¬ (i < 0 ∨ (arrV _ _ _).slots.size ≤ _); rw [arrV_size]; exact hin) rfl rfl hd fun H1 e1 z oq => ?_
  obtain ⟨hR', hS', hx'⟩ := z_astK (G' := zsi G q i.toNatClampNeg x) hR hS hq rfl e1 z oq rfl rfl (fun q' hq' => ⟨rfl, fun k => by rw [ziv_si, if_neg (fun h => hq' h.1)], fun k => rfl⟩) zAf_l (fun k => (hR.1 q hq.1).2.1 k)
  exact kk p e R s m args below meth c H1 _ cells slots ρ0 ρ la C hS' hR' (hx.trans hx') (hg.pop.pop.pop.go hx') h1 h2 hl
/-- an object of one of our classes goes into an Object[] -/
theorem z_aast {q r ci : Nat} {i : Int32} (hd : decode M.2.1 pc = .ok (.aastore, 1)) (hp : pc + 1 = pc') (hq : zar G q 4) (hin : vp_in i (zln G q)) (hr : zob G r ci) (hci : ci < 14) (hw : Cond.castable (zC ci) "java/lang/Object" ∈ zcast) (kk : zW E l M d b G0 Q k pc' ls st (zsr G q i.toNatClampNeg r)) : zW E l M d b G0 Q k pc ls (.ref r :: .int i :: .ref q :: st) G := by
  subst hp
  intro p e R s m args below meth c H locs cells slots ρ0 ρ la C hS hR hx hg h1 h2 hl
  have hK : ZK E s := C.2.2.2.2.2.2.2.2.2.2.2.2.2.2.1
  have hlt : i.toNatClampNeg < zln G q := Nat.not_le.mp fun z => hin (Or.inr z)
  have hZ : ZS E s s.heap := C.2.2.2.2.2.2.2.2.2.2.2.2.2.2.2
  have hcast := hZ.2.2.2.2.2.2.2.2.2.1 _ hw
  obtain ⟨cell, q1, q2, q3, q4⟩ := hR.ob hr
  obtain ⟨hSl, hfc, kC, hkC, hkind⟩ := hK.1 ci _ (z_cl hci)
  obtain ⟨kA, comp, k1, k2, k3, -⟩ := (hK.arr (k := 4) (by decide)).2
  obtain ⟨kO, hkO, -⟩ := Vm.findClass_spec k3
  have hasg : s.vm.assignable cell.cls comp = true := by
    rw [q2]
    exact vb_asgC hcast comp _ k3 hfc
  simp only [List.map_cons, zv_ref ρ (hR.ne0 hq.1), zv_ref ρ (hR.ne0 hr.1)]
  refine W.aast C.1 C.2.1 (hR.ar hq) (fun q h => by cases h) (fun h => by cases h) k1 k2 rfl hkO ⟨fun z => hin (Or.inl z), by show _ < (arrV _ _ _).slots.size; rw [arrV_size]; exact hlt⟩ q1 (fun q h => by rw [q3] at h; cases h) (by rw [q2]; exact hkC) hasg rfl rfl hd fun H1 e1 z oq => ?_
  have e2 : H1[ρ q]? = some ((arrV (E.2.1 4) (zln G q) (zAf ρ G q 4)).setSlot i.toNatClampNeg (zv ρ (.ref r))) := by rw [zv_ref ρ (hR.ne0 hr.1)]; exact e1
  obtain ⟨hR', hS', hx'⟩ := z_astK (G' := zsr G q i.toNatClampNeg r) hR hS hq rfl e2 z oq rfl rfl (fun q' hq' => ⟨rfl, fun k => rfl, fun k => by rw [zrv_sr, if_neg (fun h => hq' h.1)]⟩) zAf_r (fun k => by rw [zrv_sr]; split; exact Or.inr (Or.inl hr.1); exact (hR.1 q hq.1).2.1 k)
  exact kk p e R s m args below meth c H1 _ cells slots ρ0 ρ la C hS' hR' (hx.trans hx') (hg.pop.pop.pop.go hx') h1 h2 hl
/-- behind a making: the frame as the new store sees it -/
theorem z_made {t n : Nat} {s : State} {H H1 : Heap} {ρ : Nat → Nat} {locs : List Loc} {la : Array Slot} {nL : Nat} (hR : ZR E s ρ G H) (hS : va_S (zA E) s.heap H locs) (hb : E.2.2.1 ≤ s.heap.size) (h0 : t ≠ 0) (ht : t < 4096) (hf : ¬ ((448 ≤ t ∧ t < 1024) ∨ 3584 ≤ t)) (z : H1.size = H.size + 1) (oq : ∀ a, a < H.size → H1[a]? = H[a]?)
    (hn : zcell E s (upd9 ρ (zp t (zcn G t)) H.size) (znw G t n) (zp t (zcn G t)) H1) (hg : zLg G ls st) (hl : lv_has la nL (zas ρ 0 ls)) : ZR E s (upd9 ρ (zp t (zcn G t)) H.size) (znw G t n) H1 ∧ va_S (zA E) s.heap H1 locs ∧ zext G ρ (znw G t n) (upd9 ρ (zp t (zcn G t)) H.size) ∧ zLg (znw G t n) ls (.ref (zp t (zcn G t)) :: st) ∧ lv_has la nL (zas (upd9 ρ (zp t (zcn G t)) H.size) 0 ls) ∧ st.map (zv (upd9 ρ (zp t (zcn G t)) H.size)) = st.map (zv ρ) ∧ zv (upd9 ρ (zp t (zcn G t)) H.size) (.ref (zp t (zcn G t))) = .ref H.size := by
  obtain ⟨hR', hx'⟩ := hR.new h0 ht hf (Nat.le_trans hb hS.1) z oq hn
  have hal : zal (znw G t n) (zp t (zcn G t)) := (zal_nw ht _).mpr (Or.inr rfl)
  refine ⟨hR', ⟨Nat.le_trans hS.1 (by omega), fun a h1 h2 => (oq a (Nat.lt_of_lt_of_le h1 hS.1)).trans (hS.2.1 a h1 h2), hS.2.2⟩, hx', (hg.go hx').push (Or.inr (Or.inl hal)), ?_, ?_, ?_⟩
  · rw [zas_congr ls 0 (fun j v hj => zv_ext hR hR' hx' (hg.1 j v hj).1)]
    exact hl
  · exact List.map_congr_left (fun v hv => zv_ext hR hR' hx' (hg.2 v hv))
  · rw [zv_ref _ (hR'.ne0 hal)]
    simp [upd9]
theorem z_new {idx ci t : Nat} (hd : decode M.2.1 pc = .ok (.new idx, 3)) (hw1 : Cond.classLink M.1.cls idx (zC ci) ∈ zgood) (hw2 : Cond.instantiable (zC ci) (zN ci) ∈ zgood) (hw3 : Cond.initialized (zC ci) ∈ zgood) (hci : ci < 14) (hp : pc + 3 = pc') (h0 : t ≠ 0) (ht : t < 448) (htc : t / 32 = ci)
    (hbig : zN ci + 1 ≤ k) (hdf : ∀ j, j < zN ci → defaultValue (zty ci j) = if zref (zty ci j) = true then .null else .int 0)
    (kk : zW E l M d b G0 Q (k - (zN ci + 1)) pc' ls (.ref (zp t (zcn G t)) :: st) (znw G t 0)) : zW E l M d b G0 Q k pc ls st G := by
  subst hp
  intro p e R s m args below meth c H locs cells slots ρ0 ρ la C hS hR hx hg h1 h2 hl
  have hts := C.2.2.2.2.2.2.1
  have hK : ZK E s := C.2.2.2.2.2.2.2.2.2.2.2.2.2.2.1
  have hc9 := z_cl hci
  have hKn := hK.1 ci _ hc9
  have hbc : b ≤ R.cells := C.2.2.2.2.2.2.2.2.2.2.2.1
  have hbs : b ≤ R.slots := C.2.2.2.2.2.2.2.2.2.2.2.2.1
  have hbase : E.2.2.1 ≤ s.heap.size := C.2.2.2.2.2.2.2.2.2.2.2.2.2.1
  refine W.newcK C.1 C.2.1 C.2.2.2.2.2.1 (hts _ hw1) (hts _ hw2) (hts _ hw3) rfl hd (by omega) (by omega) hKn.2.1 rfl fun H1 kC hkC e1 z1 o1 => ?_
  have hm : zp t (zcn G t) % 4096 = t := zp_mod (by omega)
  have hcell : zcell E s (upd9 ρ (zp t (zcn G t)) H.size) (znw G t 0) (zp t (zcn G t)) H1 := by
    refine zcell.ob (ci := ci) (by rw [hm]; exact ht) (by rw [hm]; exact htc) ?_
    have hρ : upd9 ρ (zp t (zcn G t)) H.size (zp t (zcn G t)) = H.size := by simp [upd9]
    rw [hρ]
    refine (u_born (zty ci) hts (z_cw hci) hKn hkC e1 (z_ty hci)).to (fun j hj => ?_)
    show defaultValue (zty ci j) = _
    rw [hdf j hj]
    unfold zF
    rw [hm, htc, ziv_nw, zrv_nw, if_pos rfl, if_pos rfl]
    split <;> rfl
  obtain ⟨hR', hS', hx', hg', hl', hst, hv⟩ := z_made hR hS hbase h0 (by omega) (by omega) z1 o1 hcell hg hl
  have k2 := kk p e R s m args below meth c H1 locs (cells + 1) (slots + zN ci) ρ0 _ la C hS' hR' (hx.trans hx') hg' (by omega) (by omega) hl'
  rw [List.map_cons, hst, hv] at k2
  exact k2
theorem z_newa {atype : ArrayType} {n : Int32} {N kd t : Nat} (hd : decode M.2.1 pc = .ok (.newarray atype, 2)) (hty : newarray.typeOf atype = zAk kd) (hkd : kd < 4) (hw : Cond.arrayClass (newarray.typeOf atype) ∈ zgood) (hp : pc + 2 = pc') (ht1 : 1024 ≤ t) (ht2 : t < 3584) (ht3 : (t - 1024) / 512 = kd) (hn : ¬ n < 0) (hN : n.toNatClampNeg = N) (hbytes : N ≤ 67108864) (hbig : N + 1 ≤ k)
    (kk : zW E l M d b G0 Q (k - (N + 1)) pc' ls (.ref (zp t (zcn G t)) :: st) (znw G t N)) : zW E l M d b G0 Q k pc ls (.int n :: st) G := by
  subst hp
  intro p e R s m args below meth c H locs cells slots ρ0 ρ la C hS hR hx hg h1 h2 hl
  have hts := C.2.2.2.2.2.2.1
  have hK : ZK E s := C.2.2.2.2.2.2.2.2.2.2.2.2.2.2.1
  have hbc : b ≤ R.cells := C.2.2.2.2.2.2.2.2.2.2.2.1
  have hbs : b ≤ R.slots := C.2.2.2.2.2.2.2.2.2.2.2.2.1
  have hbase : E.2.2.1 ≤ s.heap.size := C.2.2.2.2.2.2.2.2.2.2.2.2.2.1
  have hby : N * componentBytes (newarray.typeOf atype) ≤ 536870912 := by
    have : componentBytes (newarray.typeOf atype) ≤ 8 := by cases atype <;> decide
    calc N * componentBytes (newarray.typeOf atype) ≤ 67108864 * 8 := Nat.mul_le_mul hbytes this
      _ = 536870912 := rfl
  refine va_newaK C.1 C.2.1 (hts _ hw) rfl hd rfl hn hN hby (by omega) (by omega) rfl fun H1 cA e1 z1 o1 hAr hNm => ?_
  have hcA : cA = E.2.1 kd := Option.some.inj (hNm.symm.trans (zAk_at hty _ _ (hK.arr (by omega)).2))
  have hm : zp t (zcn G t) % 4096 = t := zp_mod (by omega)
  have hcell : zcell E s (upd9 ρ (zp t (zcn G t)) H.size) (znw G t N) (zp t (zcn G t)) H1 := by
    refine zcell.ar (k := kd) (by rw [hm]; exact ht1) (by rw [hm]; exact ht2) (by rw [hm]; exact ht3) ?_
    have hρ : upd9 ρ (zp t (zcn G t)) H.size (zp t (zcn G t)) = H.size := by simp [upd9]
    rw [hρ, e1, hcA, zln_nw, if_pos rfl]
    congr 2
    funext j
    rw [hty]
    match kd, hkd with
    | 0, _ => show defaultValue .int = Value.int (ziv _ _ _); rw [ziv_nw, if_pos rfl]; rfl
    | 1, _ => show defaultValue .byte = Value.int (ziv _ _ _); rw [ziv_nw, if_pos rfl]; rfl
    | 2, _ => show defaultValue .boolean = Value.int (ziv _ _ _); rw [ziv_nw, if_pos rfl]; rfl
    | 3, _ => show defaultValue .long = Value.long (ziv _ _ _).toInt64; rw [ziv_nw, if_pos rfl]; rfl
  obtain ⟨hR', hS', hx', hg', hl', hst, hv⟩ := z_made (t := t) (n := N) hR hS hbase (by omega) (by omega) (by omega) z1 o1 hcell hg.pop hl
  have k2 := kk p e R s m args below meth c H1 locs (cells + 1) (slots + N) ρ0 _ la C hS' hR' (hx.trans hx') hg' (by omega) (by omega) hl'
  rw [List.map_cons, hst, hv] at k2
  exact k2
theorem z_newq {idx : Nat} {n : Int32} {N t : Nat} (hd : decode M.2.1 pc = .ok (.anewarray idx, 3)) (hw : Cond.classLink M.1.cls idx "java/lang/Object" ∈ zgood) (hp : pc + 3 = pc') (ht1 : 1024 ≤ t) (ht2 : t < 3584) (ht3 : (t - 1024) / 512 = 4) (hn : ¬ n < 0) (hN : n.toNatClampNeg = N) (hbytes : N ≤ 67108864) (hbig : N + 1 ≤ k)
    (kk : zW E l M d b G0 Q (k - (N + 1)) pc' ls (.ref (zp t (zcn G t)) :: st) (znw G t N)) : zW E l M d b G0 Q k pc ls (.int n :: st) G := by
  subst hp
  subst hN
  intro p e R s m args below meth c H locs cells slots ρ0 ρ la C hS hR hx hg h1 h2 hl
  have hts := C.2.2.2.2.2.2.1
  have hK : ZK E s := C.2.2.2.2.2.2.2.2.2.2.2.2.2.2.1
  have hbc : b ≤ R.cells := C.2.2.2.2.2.2.2.2.2.2.2.1
  have hbs : b ≤ R.slots := C.2.2.2.2.2.2.2.2.2.2.2.2.1
  have hbase : E.2.2.1 ≤ s.heap.size := C.2.2.2.2.2.2.2.2.2.2.2.2.2.1
  have hZ : ZS E s s.heap := C.2.2.2.2.2.2.2.2.2.2.2.2.2.2.2
  refine W.anew C.1 C.2.1 C.2.2.2.2.2.1 (hts _ hw) (va_AO.use hZ.2.2.2.2.2.2.2.2.2.2.1) rfl hd rfl hn (by omega) (by omega) (by omega) fun cA kA comp g1 g2 g3 g4 => ?_
  obtain ⟨kA', comp', k1, k2', k3, k4⟩ := (hK.arr (k := 4) (by decide)).2
  have hcA : cA = E.2.1 4 := Option.some.inj (g1.symm.trans k4)
  have hm : zp t (zcn G t) % 4096 = t := zp_mod (by omega)
  have e1 : (H.push { cls := cA, slots := Array.replicate n.toNatClampNeg .null, vm := .none })[H.size]? = some (arrV cA n.toNatClampNeg (fun _ => .null)) := by rw [← arrV_new]; simp
  have hcell : zcell E s (upd9 ρ (zp t (zcn G t)) H.size) (znw G t n.toNatClampNeg) (zp t (zcn G t)) (H.push { cls := cA, slots := Array.replicate n.toNatClampNeg .null, vm := .none }) := by
    refine zcell.ar (k := 4) (by rw [hm]; exact ht1) (by rw [hm]; exact ht2) (by rw [hm]; exact ht3) ?_
    have hρ : upd9 ρ (zp t (zcn G t)) H.size (zp t (zcn G t)) = H.size := by simp [upd9]
    rw [hρ, e1, hcA, zln_nw, if_pos rfl]
    congr 2
    funext j
    show Value.null = zv _ (Value.ref (zrv _ _ _))
    rw [zrv_nw, if_pos rfl]
    rfl
  obtain ⟨hR', hS', hx', hg', hl', hst, hv⟩ := z_made (t := t) (n := n.toNatClampNeg) hR hS hbase (by omega) (by omega) (by omega) (by simp) (fun a ha => by rw [Array.getElem?_push, if_neg (Nat.ne_of_lt ha)]) hcell hg.pop hl
  have k2 := kk p e R s m args below meth c _ locs (cells + 1) (slots + n.toNatClampNeg) ρ0 _ la C hS' hR' (hx.trans hx') hg' (by omega) (by omega) hl'
  rw [List.map_cons, hst, hv] at k2
  exact k2
/-- a static that holds a reference -/
theorem z_gets {idx : Nat} {x : String × String × String × Nat} (hx9 : x ∈ zstat) (hd : decode M.2.1 pc = .ok (.getstatic idx, 3)) (hw : Cond.fieldLink M.1.cls idx x.1 x.2.1 x.2.2.1 ∈ zgood) (hp : pc + 3 = pc') (hf : zfx x.2.2.2) (h0 : x.2.2.2 ≠ 0) (kk : zW E l M d b G0 Q k pc' ls (.ref x.2.2.2 :: st) G) : zW E l M d b G0 Q k pc ls st G := by
  subst hp
  intro p e R s m args below meth c H locs cells slots ρ0 ρ la C hS hR hx hg h1 h2 hl
  have hZ : ZS E s s.heap := C.2.2.2.2.2.2.2.2.2.2.2.2.2.2.2
  have k2 := kk p e R s m args below meth c H locs cells slots ρ0 ρ la C hS hR hx (hg.push (Or.inr (Or.inr hf))) h1 h2 hl
  rw [List.map_cons, zv_ref ρ h0, hR.2.2.1 _ hf] at k2
  exact va_gets C.1 C.2.1 (hZ.2.2.1 x hx9) hS C.2.2.2.2.2.1 (C.2.2.2.2.2.2.1 _ hw) (fun _ h => h) hd k2
/-- a String constant -/
theorem z_ldcS {idx n : Nat} {own tx : String} (ho : own = M.1.cls) (hx9 : (own, idx, tx, n) ∈ zsrf) (hd : decode M.2.1 pc = .ok (.ldc idx, 2)) (hp : pc + 2 = pc') (kk : zW E l M d b G0 Q k pc' ls (.ref (zp 1000 n) :: st) G) : zW E l M d b G0 Q k pc ls st G := by
  subst hp
  intro p e R s m args below meth c H locs cells slots ρ0 ρ la C hS hR hx hg h1 h2 hl
  have hZ : ZS E s s.heap := C.2.2.2.2.2.2.2.2.2.2.2.2.2.2.2
  have hf : zfx (zp 1000 n) := by unfold zfx; rw [zp_mod (by omega)]; omega
  have h0 : zp 1000 n ≠ 0 := by unfold zp; omega
  have k2 := kk p e R s m args below meth c H locs cells slots ρ0 ρ la C hS hR hx (hg.push (Or.inr (Or.inr hf))) h1 h2 hl
  rw [List.map_cons, zv_ref ρ h0, hR.2.2.1 _ hf] at k2
  exact va_ldcS C.1 C.2.1 C.2.2.2.2.2.1 (by rw [← ho]; exact hZ.2.2.2.2.2.1 _ hx9) hd k2
theorem va_ldcSW {p : Program} {e : Env} {R : Room} {s : State} {m : MethodId} {args : Array Value} {below : List Frame} {meth : Method} {c : Code} {H : Heap} {locs : List Loc} {cells slots : Nat} {Q : State → Prop} {cc : ByteArray} {la : Array Slot} {rest : List Value} (hexec : p.tables.exec = Jvm.exec) (hb : c.code = cc) {own tx : String} {index q : Nat} (hown : s.vm.findClass own = some m.cls) (hZ : vk_R own index tx q s) (hdg : decode cc pc = .ok (.ldc_w index, 3))
    (k : W p l e R s m args below meth c H locs cells slots Q (F0 m (pc + 3) la (.ref q :: rest))) : W p l e R s m args below meth c H locs cells slots Q (F0 m pc la rest) := by
  intro T hT X
  obtain ⟨t, a1, b1⟩ := k T hT X
  exact ⟨t, X.ldcStringW hexec hown (text := tx) (a := q) hZ.1 hZ.2 (g := F0 m pc la rest) rfl (by rw [hb]; exact hdg) t a1, b1⟩
theorem z_ldcSW {idx n : Nat} {own tx : String} (ho : own = M.1.cls) (hx9 : (own, idx, tx, n) ∈ zsrf) (hd : decode M.2.1 pc = .ok (.ldc_w idx, 3)) (hp : pc + 3 = pc') (kk : zW E l M d b G0 Q k pc' ls (.ref (zp 1000 n) :: st) G) : zW E l M d b G0 Q k pc ls st G := by
  subst hp
  intro p e R s m args below meth c H locs cells slots ρ0 ρ la C hS hR hx hg h1 h2 hl
  have hZ : ZS E s s.heap := C.2.2.2.2.2.2.2.2.2.2.2.2.2.2.2
  have hf : zfx (zp 1000 n) := by unfold zfx; rw [zp_mod (by omega)]; omega
  have h0 : zp 1000 n ≠ 0 := by unfold zp; omega
  have k2 := kk p e R s m args below meth c H locs cells slots ρ0 ρ la C hS hR hx (hg.push (Or.inr (Or.inr hf))) h1 h2 hl
  rw [List.map_cons, zv_ref ρ h0, hR.2.2.1 _ hf] at k2
  exact va_ldcSW C.1 C.2.1 C.2.2.2.2.2.1 (by rw [← ho]; exact hZ.2.2.2.2.2.1 _ hx9) hd k2
theorem z_ldcw {i : Nat} {x : Int32} (hd : decode M.2.1 pc = .ok (.ldc_w i, 3)) (hw : Cond.constant M.1.cls i x ∈ zgood) (hp : pc + 3 = pc') (kk : zW E l M d b G0 Q k pc' ls (.int x :: st) G) : zW E l M d b G0 Q k pc ls st G := by
  subst hp
  intro p e R s m args below meth c H locs cells slots ρ0 ρ la C hS hR hx hg h1 h2 hl
  exact lv_ldcw C.1 C.2.1 C.2.2.2.2.2.1 (C.2.2.2.2.2.2.1 _ hw) hd (kk p e R s m args below meth c H locs cells slots ρ0 ρ la C hS hR hx (hg.push trivial) h1 h2 hl)
/-- fewer known locals -/
theorem z_drop {ls' : List (Option Value)} (h : ∀ (i : Nat) (v : Value), ls'[i]? = some (some v) → ls[i]? = some (some v)) (kk : zW E l M d b G0 Q k pc ls' st G) : zW E l M d b G0 Q k pc ls st G := by
  intro p e R s m args below meth c H locs cells slots ρ0 ρ la C hS hR hx hg h1 h2 hl
  refine kk p e R s m args below meth c H locs cells slots ρ0 ρ la C hS hR hx ⟨fun i v hv => hg.1 i v (h i v hv), hg.2⟩ h1 h2 ⟨hl.1, hl.2.1, fun q hq => ?_⟩
  obtain ⟨j, v, rfl, hj⟩ := zas_inv _ _ _ hq
  exact hl.2.2 _ (zas_mem ls 0 j v (h j v hj))
theorem z_castO {idx q ci : Nat} (hd : decode M.2.1 pc = .ok (.checkcast idx, 3)) (hw : Cond.classLink M.1.cls idx (zC ci) ∈ zgood) (hci : ci < 14) (hp : pc + 3 = pc') (hq : zob G q ci) (kk : zW E l M d b G0 Q k pc' ls (.ref q :: st) G) : zW E l M d b G0 Q k pc ls (.ref q :: st) G := by
  subst hp
  intro p e R s m args below meth c H locs cells slots ρ0 ρ la C hS hR hx hg h1 h2 hl
  have hK : ZK E s := C.2.2.2.2.2.2.2.2.2.2.2.2.2.2.1
  have k2 := kk p e R s m args below meth c H locs cells slots ρ0 ρ la C hS hR hx hg h1 h2 hl
  obtain ⟨cell, q1, q2, q3, q4⟩ := hR.ob hq
  simp only [List.map_cons, zv_ref ρ (hR.ne0 hq.1)] at k2 ⊢
  exact va_castE C.1 C.2.1 C.2.2.2.2.2.1 (C.2.2.2.2.2.2.1 _ hw) ⟨cell, q1, by rw [q3]; rfl, by rw [q2]; exact (hK.1 ci _ (z_cl hci)).2.1⟩ hd k2
theorem z_castN {idx : Nat} (hd : decode M.2.1 pc = .ok (.checkcast idx, 3)) (hp : pc + 3 = pc') (kk : zW E l M d b G0 Q k pc' ls (.ref 0 :: st) G) : zW E l M d b G0 Q k pc ls (.ref 0 :: st) G := by
  subst hp
  intro p e R s m args below meth c H locs cells slots ρ0 ρ la C hS hR hx hg h1 h2 hl
  exact lv_castN C.1 C.2.1 hd (kk p e R s m args below meth c H locs cells slots ρ0 ρ la C hS hR hx hg h1 h2 hl)
/-- Object.<init> -/
theorem z_objInit {idx q : Nat} (hd : decode M.2.1 pc = .ok (.invokespecial idx, 3)) (hw1 : Cond.methodLink M.1.cls idx objectInit ∈ zgood) (hw2 : Cond.instanceMethod objectInit ∈ zgood) (hw3 : Cond.code objectInit ⟨#[0xb1]⟩ 1 none ∈ zgood) (hp : pc + 3 = pc') (hd1 : 1 ≤ d) (hq : zal G q) (hst : (st.map fun v => v.category).sum ≤ 8)
    (kk : zW E l M d b G0 Q k pc' ls st G) : zW E l M d b G0 Q k pc ls (.ref q :: st) G := by
  subst hp
  intro p e R s m args below meth c H locs cells slots ρ0 ρ la C hS hR hx hg h1 h2 hl
  have hts := C.2.2.2.2.2.2.1
  have hdf : d ≤ R.frames := C.2.2.2.2.2.2.2.2.2.1
  have hdl : 40 * d ≤ R.locals := C.2.2.2.2.2.2.2.2.2.2.1
  simp only [List.map_cons, zv_ref ρ (hR.ne0 hq)]
  have hsum : (((st.map (zv ρ)).map fun v => v.category).sum) = (st.map fun v => v.category).sum := by
    rw [List.map_map]
    congr 1
    exact List.map_congr_left (fun v _ => zv_cat ρ v)
  refine W.objInit C.1 C.2.1 C.2.2.2.2.2.1 (hts _ hw1) (hts _ hw2) (hts _ hw3) rfl (by rw [C.2.2.1]; exact hl.1) rfl hd (by omega) ?_ ?_
  · have : 2 * (F0 m pc la (.ref (ρ q) :: st.map (zv ρ))).monitorRoom + ((st.map (zv ρ)).map fun v => v.category).sum ≤ 8 := lv_room (rest := .ref (ρ q) :: st.map (zv ρ)) (by rw [hsum]; exact hst)
    omega
  · exact kk p e R s m args below meth c H locs cells slots ρ0 ρ la C hS hR hx hg.pop h1 h2 hl
/-! ends -/
theorem z_end {r : Option Value} {p : Program} {e : Env} {R : Room} {s : State} {m : MethodId} {args : Array Value} {below : List Frame} {meth : Method} {c : Code} {H : Heap} {locs : List Loc} {cells slots : Nat} {ρ0 ρ : Nat → Nat} {g : JFrame} (hQ : Q (.inl r) G) (hS : va_S (zA E) s.heap H locs) (hR : ZR E s ρ G H) (hx : zext G0 ρ0 G ρ) (hg : ∀ v, r = some v → zgd G v) (h1 : cells ≤ b) (h2 : slots ≤ b)
    (kk : (∀ t : State, t.heap = H → s.WarmedH t.vm → zQc E ρ0 G0 Q args s (.returned (r.map (zv ρ))) t) → (∀ q ∈ locs, zA E q.base) → W p l e R s m args below meth c H locs b b (MQ below (zQc E ρ0 G0 Q) args s b b (zA E)) g) : W p l e R s m args below meth c H locs cells slots (vx_MQ below (zQc E ρ0 G0 Q) (zXC E ρ0 G0 Q) args s b b (zA E)) g := by
  refine W.widen h1 h2 (vx_ret (kk (fun t ht hW => ⟨⟨r, G, ρ, rfl, hQ, hg, by rw [ht]; exact hR.moved hW.alike, hx⟩, hS.F ht⟩) hS.2.2))
theorem z_iret {x : Int32} (hd : decode M.2.1 pc = .ok (.ireturn, 1)) (hr : M.2.2.2 = some .int) (hQ : Q (.inl (some (.int x))) G) : zW E l M d b G0 Q k pc ls [.int x] G := by
  intro p e R s m args below meth c H locs cells slots ρ0 ρ la C hS hR hx hg h1 h2 hl
  exact z_end hQ hS hR hx (fun v hv => by cases hv; trivial) (by omega) (by omega) (fun hq hf => W.iret C.1 C.2.1 (C.2.2.2.1.trans hr) hq hf hd C.2.2.2.2.1)
theorem z_zret {x : Int32} {ty : FieldType} (hd : decode M.2.1 pc = .ok (.ireturn, 1)) (hr : M.2.2.2 = some ty) (hok : narrow ty (.int x) = .int x) (hQ : Q (.inl (some (.int x))) G) : zW E l M d b G0 Q k pc ls [.int x] G := by
  intro p e R s m args below meth c H locs cells slots ρ0 ρ la C hS hR hx hg h1 h2 hl
  exact z_end hQ hS hR hx (fun v hv => by cases hv; trivial) (by omega) (by omega) (fun hq hf => W.zret C.1 C.2.1 (C.2.2.2.1.trans hr) hok hq hf hd C.2.2.2.2.1)
theorem z_vret (hd : decode M.2.1 pc = .ok (.return_, 1)) (hr : M.2.2.2 = none) (hQ : Q (.inl none) G) : zW E l M d b G0 Q k pc ls [] G := by
  intro p e R s m args below meth c H locs cells slots ρ0 ρ la C hS hR hx hg h1 h2 hl
  exact z_end hQ hS hR hx (fun v hv => by cases hv) (by omega) (by omega) (fun hq hf => W.vret C.1 C.2.1 (C.2.2.2.1.trans hr) hq hf hd C.2.2.2.2.1)
theorem z_aret {q : Nat} {ty : FieldType} (hd : decode M.2.1 pc = .ok (.areturn, 1)) (hr : M.2.2.2 = some ty) (hty : (∃ n, ty = .object n) ∨ ∃ t, ty = .array t) (hQ : Q (.inl (some (.ref q))) G) : zW E l M d b G0 Q k pc ls [.ref q] G := by
  intro p e R s m args below meth c H locs cells slots ρ0 ρ la C hS hR hx hg h1 h2 hl
  exact z_end hQ hS hR hx (fun v hv => by cases hv; exact hg.top) (by omega) (by omega) (fun hq hf => W.aret C.1 C.2.1 (C.2.2.2.1.trans hr) hty (by simp only [zv]; split; exact Or.inl rfl; exact Or.inr ⟨_, rfl⟩) hq hf hd C.2.2.2.2.1)
end ZHeap2
