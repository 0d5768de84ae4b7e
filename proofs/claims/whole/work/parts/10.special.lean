/-! RULES: comparing references, class objects, System.arraycopy, clone, the fields of String constants -/
def zcmp (G : ZG) (q r : Nat) : Prop := q = r ∨ ((q = 0 ∨ zal G q) ∧ (r = 0 ∨ zal G r))
/-- n ints from place sp of q on, laid into r from place dp on -/
def zcpI (G : ZG) (q r sp dp n : Nat) : ZG := (G.1, G.2.1, fun a j => if a = r ∧ dp ≤ j ∧ j < dp + n then ziv G q (sp + (j - dp)) else G.2.2.1 a j, G.2.2.2)
def zcpR (G : ZG) (q r sp dp n : Nat) : ZG := (G.1, G.2.1, G.2.2.1, fun a j => if a = r ∧ dp ≤ j ∧ j < dp + n then zrv G q (sp + (j - dp)) else G.2.2.2 a j)
theorem zcn_cpI (G : ZG) (q r sp dp n : Nat) : zcn (zcpI G q r sp dp n) = zcn G := rfl
theorem zln_cpI (G : ZG) (q r sp dp n : Nat) : zln (zcpI G q r sp dp n) = zln G := rfl
theorem zrv_cpI (G : ZG) (q r sp dp n : Nat) : zrv (zcpI G q r sp dp n) = zrv G := rfl
theorem ziv_cpI (G : ZG) (q r sp dp n a j : Nat) : ziv (zcpI G q r sp dp n) a j = if a = r ∧ dp ≤ j ∧ j < dp + n then ziv G q (sp + (j - dp)) else ziv G a j := rfl
theorem zcn_cpR (G : ZG) (q r sp dp n : Nat) : zcn (zcpR G q r sp dp n) = zcn G := rfl
theorem zln_cpR (G : ZG) (q r sp dp n : Nat) : zln (zcpR G q r sp dp n) = zln G := rfl
theorem ziv_cpR (G : ZG) (q r sp dp n : Nat) : ziv (zcpR G q r sp dp n) = ziv G := rfl
theorem zrv_cpR (G : ZG) (q r sp dp n a j : Nat) : zrv (zcpR G q r sp dp n) a j = if a = r ∧ dp ≤ j ∧ j < dp + n then zrv G q (sp + (j - dp)) else zrv G a j := rfl
/-- a copy of an int array, made anew -/
def zdup (G : ZG) (q t : Nat) : ZG := (fun u => if u = t then zcn G t + 1 else zcn G u, fun a => if a = zp t (zcn G t) then zln G q else zln G a, fun a k => if a = zp t (zcn G t) then ziv G q k else ziv G a k, fun a k => if a = zp t (zcn G t) then 0 else zrv G a k)
theorem z_nn (z : Int32) (hz : ¬ z < 0) : z.toInt = (z.toNatClampNeg : Int) := by
  have hz0 : (0 : Int) ≤ z.toInt := by
    have := Int32.not_lt.mp hz
    simpa using Int32.le_iff_toInt_le.mp this
  show z.toInt = ((z.toInt.toNat : Nat) : Int)
  omega
section ZSpec
variable {E : ZE} {l : Launch} {M Y : ZM} {d b d' b' : Nat} {G0 : ZG} {Q Qz : ZQ} {k pc pc' : Nat} {ls : List (Option Value)} {st as : List Value} {G : ZG}
theorem z_rfv (ρ : Nat → Nat) (q : Nat) : zv ρ (.ref q) = va_rf (if q = 0 then none else some (ρ q)) := by
  simp only [zv]
  split <;> rfl
theorem z_cmpI {U : State} {ρ : Nat → Nat} {H : Heap} (hR : ZR E U ρ G H) {q r : Nat} (h : zcmp G q r) : ((if q = 0 then none else some (ρ q)) = (if r = 0 then none else some (ρ r))) ↔ q = r := by
  constructor
  · intro e
    rcases h with h | ⟨h1, h2⟩
    · exact h
    · by_cases hq : q = 0
      · by_cases hr : r = 0
        · rw [hq, hr]
        · simp [hq, hr] at e
      · by_cases hr : r = 0
        · simp [hq, hr] at e
        · simp [hq, hr] at e
          exact hR.2.1 q r (h1.resolve_left hq) (h2.resolve_left hr) e
  · intro e
    rw [e]
theorem z_acmp_eq {q r : Nat} {off : Int} {pt : Nat} (hd : decode M.2.1 pc = .ok (.if_acmp .eq off, 3)) (ht : (pc : Int) + off = (pt : Int)) (hp : pc + 3 = pc') (hc : zcmp G q r) (kt : q = r → zW E l M d b G0 Q k pt ls st G) (kf : ¬ q = r → zW E l M d b G0 Q k pc' ls st G) : zW E l M d b G0 Q k pc ls (.ref r :: .ref q :: st) G := by
  subst hp
  intro p e R s m args below meth c H locs cells slots ρ0 ρ la C hS hR hx hg h1 h2 hl
  simp only [List.map_cons, z_rfv]
  exact lv_acmp_eq C.1 C.2.1 hd ht (fun h => kt ((z_cmpI hR hc).mp h) p e R s m args below meth c H locs cells slots ρ0 ρ la C hS hR hx hg.pop.pop h1 h2 hl) (fun h => kf (fun e9 => h ((z_cmpI hR hc).mpr e9)) p e R s m args below meth c H locs cells slots ρ0 ρ la C hS hR hx hg.pop.pop h1 h2 hl)
theorem z_acmp_ne {q r : Nat} {off : Int} {pt : Nat} (hd : decode M.2.1 pc = .ok (.if_acmp .ne off, 3)) (ht : (pc : Int) + off = (pt : Int)) (hp : pc + 3 = pc') (hc : zcmp G q r) (kt : ¬ q = r → zW E l M d b G0 Q k pt ls st G) (kf : ¬ (¬ q = r) → zW E l M d b G0 Q k pc' ls st G) : zW E l M d b G0 Q k pc ls (.ref r :: .ref q :: st) G := by
  subst hp
  intro p e R s m args below meth c H locs cells slots ρ0 ρ la C hS hR hx hg h1 h2 hl
  simp only [List.map_cons, z_rfv]
  exact lv_acmp_ne C.1 C.2.1 hd ht (fun h => kt (fun e9 => h ((z_cmpI hR hc).mpr e9)) p e R s m args below meth c H locs cells slots ρ0 ρ la C hS hR hx hg.pop.pop h1 h2 hl) (fun h => kf (fun e9 => e9 ((z_cmpI hR hc).mp h)) p e R s m args below meth c H locs cells slots ρ0 ρ la C hS hR hx hg.pop.pop h1 h2 hl)
theorem z_sum (ρ : Nat → Nat) : ((st.map (zv ρ)).map fun v => v.category).sum = (st.map fun v => v.category).sum := by
  rw [List.map_map]
  congr 1
  exact List.map_congr_left (fun v _ => zv_cat ρ v)
theorem z_ldcM {idx : Nat} (hd : decode M.2.1 pc = .ok (.ldc idx, 2)) (hw : Cond.classLink M.1.cls idx "[Ljava/lang/Object;" ∈ zgood) (hp : pc + 2 = pc') (kk : zW E l M d b G0 Q k pc' ls (.ref (zp 1003 0) :: st) G) : zW E l M d b G0 Q k pc ls st G := by
  subst hp
  intro p e R s m args below meth c H locs cells slots ρ0 ρ la C hS hR hx hg h1 h2 hl
  have hZ : ZS E s s.heap := C.2.2.2.2.2.2.2.2.2.2.2.2.2.2.2
  have hf : zfx (zp 1003 0) := by unfold zfx; rw [zp_mod (by omega)]; omega
  have h0 : zp 1003 0 ≠ 0 := by unfold zp; omega
  have k2 := kk p e R s m args below meth c H locs cells slots ρ0 ρ la C hS hR hx (hg.push (Or.inr (Or.inr hf))) h1 h2 hl
  rw [List.map_cons, zv_ref ρ h0, hR.2.2.1 _ hf] at k2
  exact va_ldcM C.1 C.2.1 C.2.2.2.2.2.1 (C.2.2.2.2.2.2.1 _ hw) hZ.2.2.2.2.2.2.2.2.2.2.2 hd k2
theorem z_nmO {s : State} (hK : ZK E s) : s.vm.findClass "[Ljava/lang/Object;" = some (E.2.1 4) := va_nmO (hK.arr (k := 4) (by decide)).2 (by decide +kernel)
theorem z_getC {idx q : Nat} (hd : decode M.2.1 pc = .ok (.invokevirtual idx, 3)) (hw : Cond.methodLink M.1.cls idx ⟨"java/lang/Object", "getClass", "()Ljava/lang/Class;"⟩ ∈ zgood) (hw1 : Cond.selects "[Ljava/lang/Object;" ⟨"java/lang/Object", "getClass", "()Ljava/lang/Class;"⟩ ⟨"java/lang/Object", "getClass", "()Ljava/lang/Class;"⟩ ∈ zgood) (hw2 : Cond.instanceMethod ⟨"java/lang/Object", "getClass", "()Ljava/lang/Class;"⟩ ∈ zgood) (hw3 : Cond.native ⟨"java/lang/Object", "getClass", "()Ljava/lang/Class;"⟩ ∈ zgood) (hw4 : Cond.declares ⟨"java/lang/Object", "getClass", "()Ljava/lang/Class;"⟩ ∈ zcast) (hp : pc + 3 = pc') (hq : zar G q 4) (hdd : 1 ≤ d) (hst : (st.map fun v => v.category).sum ≤ 8)
    (kk : zW E l M d b G0 Q k pc' ls (.ref (zp 1003 0) :: st) G) : zW E l M d b G0 Q k pc ls (.ref q :: st) G := by
  subst hp
  intro p e R s m args below meth c H locs cells slots ρ0 ρ la C hS hR hx hg h1 h2 hl
  have hZ : ZS E s s.heap := C.2.2.2.2.2.2.2.2.2.2.2.2.2.2.2
  have hK : ZK E s := C.2.2.2.2.2.2.2.2.2.2.2.2.2.2.1
  have hts := C.2.2.2.2.2.2.1
  have hdf : d ≤ R.frames := C.2.2.2.2.2.2.2.2.2.1
  have hdl : 40 * d ≤ R.locals := C.2.2.2.2.2.2.2.2.2.2.1
  have hf : zfx (zp 1003 0) := by unfold zfx; rw [zp_mod (by omega)]; omega
  have h0 : zp 1003 0 ≠ 0 := by unfold zp; omega
  have k2 := kk p e R s m args below meth c H locs cells slots ρ0 ρ la C hS hR hx (hg.pop.push (Or.inr (Or.inr hf))) h1 h2 hl
  rw [List.map_cons, zv_ref ρ h0, hR.2.2.1 _ hf] at k2
  simp only [List.map_cons, zv_ref ρ (hR.ne0 hq.1)]
  exact va_getC C.1 C.2.1 (by rw [C.2.2.1]; exact hl.1.symm) C.2.2.2.2.2.1 (hts _ hw) (va_Nw.use rfl (hZ.2.2.2.2.2.2.2.2.2.1 _ hw4)) (hts _ hw1) (hts _ hw2) (hts _ hw3) hZ.2.2.2.2.2.2.2.2.2.2.2 ⟨_, hR.ar hq, rfl, z_nmO hK⟩ (by omega) (by rw [z_sum]; omega) hd k2
theorem z_castA {idx q : Nat} (hd : decode M.2.1 pc = .ok (.checkcast idx, 3)) (hw : Cond.classLink M.1.cls idx "[I" ∈ zgood) (hp : pc + 3 = pc') (hq : zar G q 0) (kk : zW E l M d b G0 Q k pc' ls (.ref q :: st) G) : zW E l M d b G0 Q k pc ls (.ref q :: st) G := by
  subst hp
  intro p e R s m args below meth c H locs cells slots ρ0 ρ la C hS hR hx hg h1 h2 hl
  have hK : ZK E s := C.2.2.2.2.2.2.2.2.2.2.2.2.2.2.1
  have k2 := kk p e R s m args below meth c H locs cells slots ρ0 ρ la C hS hR hx hg h1 h2 hl
  simp only [List.map_cons, zv_ref ρ (hR.ne0 hq.1)] at k2 ⊢
  exact va_castE C.1 C.2.1 C.2.2.2.2.2.1 (C.2.2.2.2.2.2.1 _ hw) ⟨_, hR.ar hq, rfl, va_nm_int (hK.arr (k := 0) (by decide)).2⟩ hd k2
theorem z_frame2 {q n : Nat} {G' : ZG} {s : State} {H0 H H1 : Heap} {ρ : Nat → Nat} {locs : List Loc} {kd : Nat} {L : List Loc} (hR : ZR E s ρ G H) (hS : va_S (zA E) H0 H locs) (hq : zar G q kd) (hH1 : H1 = H.setIfInBounds (ρ q) (arrV (E.2.1 kd) (zln G q) (zAf ρ G' q kd))) (hL : ∀ z ∈ L, z.base = ρ q)
    (hc : zcn G' = zcn G) (hn : zln G' = zln G) (ho : ∀ q', q' ≠ q → (∀ k, ziv G' q' k = ziv G q' k) ∧ ∀ k, zrv G' q' k = zrv G q' k) (hgn : ∀ k, zgq G (zrv G' q k)) : ZR E s ρ G' H1 ∧ va_S (zA E) H0 H1 (locs ++ L) ∧ zext G ρ G' ρ := by
  have hA : zA E (ρ q) := (hR.1 q hq.1).2.2.2 (fun hf => by have h1 := hq.2.1; have h2 := hq.2.2.1; unfold zfx at hf; omega)
  have hlt : ρ q < H.size := (hR.1 q hq.1).2.2.1
  have oq : ∀ a : Nat, a ≠ ρ q → H1[a]? = H[a]? := fun a ha => by rw [hH1]; simp [Array.getElem?_setIfInBounds, Ne.symm ha]
  have hz : H1.size = H.size := by rw [hH1]; simp
  refine ⟨hR.upd hq.1 hz oq hc (fun q' h => ⟨by rw [hn], (ho q' h).1, (ho q' h).2⟩) (zcell.ar hq.2.1 hq.2.2.1 hq.2.2.2 ?_) hgn, ⟨by rw [hz]; exact hS.1, fun a g1 g2 => ?_, fun z hz9 => ?_⟩, ⟨fun t => by rw [hc]; exact Nat.le_refl _, fun _ _ => rfl⟩⟩
  · rw [hH1, hn]
    simp [Array.getElem?_setIfInBounds, hlt]
  · rw [oq a (fun e => g2 (by rw [e]; exact hA))]
    exact hS.2.1 a g1 g2
  · rcases List.mem_append.mp hz9 with h | h
    · exact hS.2.2 z h
    · rw [hL z h]; exact hA
theorem z_copyI {idx q r : Nat} {sp dp n : Int32} (hd : decode M.2.1 pc = .ok (.invokestatic idx, 3)) (hw : Cond.methodLink M.1.cls idx arraycopyName ∈ zgood) (hw1 : Cond.native arraycopyName ∈ zgood) (hw2 : Cond.static arraycopyName ∈ zgood) (hw3 : Cond.initialized "java/lang/System" ∈ zgood) (hp : pc + 3 = pc') (hq : zar G q 0) (hr : zar G r 0)
    (g1 : ¬ sp < 0) (g2 : ¬ dp < 0) (g3 : ¬ n < 0) (g4 : sp.toNatClampNeg + n.toNatClampNeg ≤ zln G q) (g5 : dp.toNatClampNeg + n.toNatClampNeg ≤ zln G r) (hdd : 2 ≤ d) (hst : (st.map fun v => v.category).sum ≤ 8)
    (kk : zW E l M d b G0 Q k pc' ls st (zcpI G q r sp.toNatClampNeg dp.toNatClampNeg n.toNatClampNeg)) : zW E l M d b G0 Q k pc ls (.int n :: .int dp :: .ref r :: .int sp :: .ref q :: st) G := by
  subst hp
  intro p e R s m args below meth c H locs cells slots ρ0 ρ la C hS hR hx hg h1 h2 hl
  have hK : ZK E s := C.2.2.2.2.2.2.2.2.2.2.2.2.2.2.1
  have hts := C.2.2.2.2.2.2.1
  have hdf : d ≤ R.frames := C.2.2.2.2.2.2.2.2.2.1
  have hdl : 40 * d ≤ R.locals := C.2.2.2.2.2.2.2.2.2.2.1
  simp only [List.map_cons, zv_ref ρ (hR.ne0 hq.1), zv_ref ρ (hR.ne0 hr.1), zv_int]
  intro T hT X
  have hc0 := hR.ar hq
  have hc1 := hR.ar hr
  obtain ⟨-, k0, hk0, cm0, hkk0⟩ := (hK.arr (k := 0) (by decide)).1 0 (fun _ => .null)
  obtain ⟨vm', X', step⟩ := X.arraycopy C.1 C.2.2.2.2.2.1 (hts _ hw) (hts _ hw1) (hts _ hw2) (hts _ hw3) (src := ρ q) (dst := ρ r) (srcPos := sp) (destPos := dp) (n := n) (show T.heap[ρ q]? = some (arrV (E.2.1 0) (zln G q) (zAf ρ G q 0)) by rw [hT]; exact hc0) (show T.heap[ρ r]? = some (arrV (E.2.1 0) (zln G r) (zAf ρ G r 0)) by rw [hT]; exact hc1)
    (fun _ h => by cases h) (fun _ h => by cases h) (fun h => by cases h) (fun h => by cases h) hk0 hk0 hkk0 hkk0 (by simp [zAk, refKind]) g1 g2 g3
    (by rw [z_nn sp g1, z_nn n g3]; show ¬ _ > ((arrV _ _ _).slots.size : Int); rw [arrV_size]; omega)
    (by rw [z_nn dp g2, z_nn n g3]; show ¬ _ > ((arrV _ _ _).slots.size : Int); rw [arrV_size]; omega)
    (fun vm₁ _ i hi => by
      have e : (arrV (E.2.1 0) (zln G q) (zAf ρ G q 0)).slots.getD (sp.toNatClampNeg + i) .null = .int (ziv G q (sp.toNatClampNeg + i)) := by
        rw [Array.getD_eq_getD_getElem?, arrV_read _ _ (by omega)]
        rfl
      exact ⟨by rw [e]; rfl, by rw [e]; exact trivial⟩)
    (g := F0 m pc la (.int n :: .int dp :: .ref (ρ r) :: .int sp :: .ref (ρ q) :: st.map (zv ρ))) rfl (by show la.size = _; rw [C.2.2.1]; exact hl.1) (rest := st.map (zv ρ)) rfl (by rw [C.2.1]; exact hd) (by omega) (by
      have hw9 : nativeFrameWords "java/lang/System" "arraycopy" 5 ≤ 20 := by decide
      show 2 * 0 + _ + _ ≤ _
      rw [z_sum]; omega)
  have e1 : copied (arrV (E.2.1 0) (zln G q) (zAf ρ G q 0)) (arrV (E.2.1 0) (zln G r) (zAf ρ G r 0)) sp dp n = arrV (E.2.1 0) (zln G r) (zAf ρ (zcpI G q r sp.toNatClampNeg dp.toNatClampNeg n.toNatClampNeg) r 0) := by
    have := va_copied (fun z => Value.int z) (E.2.1 0) (E.2.1 0) (n1 := zln G r) (sp := sp.toNatClampNeg) (dp := dp.toNatClampNeg) (n := n.toNatClampNeg) (ziv G q) (ziv G r) g4
    refine this.trans ?_
    congr 1
    funext j
    show Value.int _ = Value.int _
    rw [ziv_cpI]
    simp [va_cpy]
  rw [e1] at X' step
  have fr := fun (L : List Loc) (hL : ∀ z ∈ L, z.base = ρ r) => z_frame2 (L := L) (G' := zcpI G q r sp.toNatClampNeg dp.toNatClampNeg n.toNatClampNeg) (n := 0) hR hS hr rfl hL rfl rfl (fun q' h => ⟨fun k => by rw [ziv_cpI, if_neg (fun z => h z.1)], fun k => rfl⟩) (fun k => (hR.1 r hr.1).2.1 k)
  have hx' := (fr [] (by simp)).2.2
  have hg' : zLg (zcpI G q r sp.toNatClampNeg dp.toNatClampNeg n.toNatClampNeg) ls st := (hg.pop.pop.pop.pop.pop).go hx'
  obtain ⟨t, a1, b1⟩ := kk p e R s m args below meth c _ _ cells slots ρ0 ρ la C (fr _ (by intro z hz; obtain ⟨y, -, hy⟩ := List.mem_map.mp hz; rw [← hy])).2.1 (fr [] (by simp)).1 (hx.trans hx') hg' h1 h2 hl _ (by rw [← hT]; rfl) X'
  exact ⟨t, step t a1, b1⟩
end ZSpec
section ZSpec2
variable {E : ZE} {l : Launch} {M Y : ZM} {d b d' b' : Nat} {G0 : ZG} {Q Qz : ZQ} {k pc pc' : Nat} {ls : List (Option Value)} {st as : List Value} {G : ZG}
theorem z_copyR {idx q r : Nat} {sp dp n : Int32} (hd : decode M.2.1 pc = .ok (.invokestatic idx, 3)) (hw : Cond.methodLink M.1.cls idx arraycopyName ∈ zgood) (hw1 : Cond.native arraycopyName ∈ zgood) (hw2 : Cond.static arraycopyName ∈ zgood) (hw3 : Cond.initialized "java/lang/System" ∈ zgood) (hp : pc + 3 = pc') (hq : zar G q 4) (hr : zar G r 4)
    (g1 : ¬ sp < 0) (g2 : ¬ dp < 0) (g3 : ¬ n < 0) (g4 : sp.toNatClampNeg + n.toNatClampNeg ≤ zln G q) (g5 : dp.toNatClampNeg + n.toNatClampNeg ≤ zln G r) (hel : ∀ i : Nat, i < n.toNatClampNeg → zrv G q (sp.toNatClampNeg + i) = 0 ∨ ∃ ci, ci < 14 ∧ zob G (zrv G q (sp.toNatClampNeg + i)) ci ∧ Cond.castable (zC ci) "java/lang/Object" ∈ zcast) (hdd : 2 ≤ d) (hst : (st.map fun v => v.category).sum ≤ 8)
    (kk : zW E l M d b G0 Q k pc' ls st (zcpR G q r sp.toNatClampNeg dp.toNatClampNeg n.toNatClampNeg)) : zW E l M d b G0 Q k pc ls (.int n :: .int dp :: .ref r :: .int sp :: .ref q :: st) G := by
  subst hp
  intro p e R s m args below meth c H locs cells slots ρ0 ρ la C hS hR hx hg h1 h2 hl
  have hK : ZK E s := C.2.2.2.2.2.2.2.2.2.2.2.2.2.2.1
  have hZ : ZS E s s.heap := C.2.2.2.2.2.2.2.2.2.2.2.2.2.2.2
  have hts := C.2.2.2.2.2.2.1
  have hdf : d ≤ R.frames := C.2.2.2.2.2.2.2.2.2.1
  have hdl : 40 * d ≤ R.locals := C.2.2.2.2.2.2.2.2.2.2.1
  simp only [List.map_cons, zv_ref ρ (hR.ne0 hq.1), zv_ref ρ (hR.ne0 hr.1), zv_int]
  intro T hT X
  have hc0 := hR.ar hq
  have hc1 := hR.ar hr
  obtain ⟨kA, comp, k1, k2, k3, -⟩ := (hK.arr (k := 4) (by decide)).2
  obtain ⟨vm', X', step⟩ := X.arraycopy C.1 C.2.2.2.2.2.1 (hts _ hw) (hts _ hw1) (hts _ hw2) (hts _ hw3) (src := ρ q) (dst := ρ r) (srcPos := sp) (destPos := dp) (n := n) (show T.heap[ρ q]? = some (arrV (E.2.1 4) (zln G q) (zAf ρ G q 4)) by rw [hT]; exact hc0) (show T.heap[ρ r]? = some (arrV (E.2.1 4) (zln G r) (zAf ρ G r 4)) by rw [hT]; exact hc1)
    (fun _ h => by cases h) (fun _ h => by cases h) (fun h => by cases h) (fun h => by cases h) k1 k1 k2 k2 rfl g1 g2 g3
    (by rw [z_nn sp g1, z_nn n g3]; show ¬ _ > ((arrV _ _ _).slots.size : Int); rw [arrV_size]; omega)
    (by rw [z_nn dp g2, z_nn n g3]; show ¬ _ > ((arrV _ _ _).slots.size : Int); rw [arrV_size]; omega)
    (fun vm₁ hal i hi => by
      have e : (arrV (E.2.1 4) (zln G q) (zAf ρ G q 4)).slots.getD (sp.toNatClampNeg + i) .null = zv ρ (.ref (zrv G q (sp.toNatClampNeg + i))) := by
        rw [Array.getD_eq_getD_getElem?, arrV_read _ _ (by omega)]
        rfl
      rw [e]
      rcases hel i hi with h | ⟨ci, hci, hob, hcast⟩
      · rw [h]; exact ⟨rfl, trivial⟩
      · obtain ⟨cell, q1, q2, q3, q4⟩ := hR.ob hob
        obtain ⟨hSl, hfc, kC, hkC, hkind⟩ := hK.1 ci _ (z_cl hci)
        obtain ⟨kO, hkO, -⟩ := Vm.findClass_spec k3
        obtain ⟨kC', hkC', -⟩ := hal.2.2 _ _ hkC
        obtain ⟨kO', hkO', -⟩ := hal.2.2 _ _ hkO
        rw [zv_ref ρ (hR.ne0 hob.1)]
        refine ⟨rfl, cell, (show T.heap[_]? = some cell by rw [hT]; exact q1), (fun z h => by rw [q3] at h; cases h), ⟨kC', by rw [q2]; exact hkC'⟩, ⟨kO', hkO'⟩, ?_⟩
        show vm₁.assignable _ _ = true
        rw [hal.assignable, q2]
        exact vb_asgC (hZ.2.2.2.2.2.2.2.2.2.1 _ hcast) comp _ k3 hfc)
    (g := F0 m pc la (.int n :: .int dp :: .ref (ρ r) :: .int sp :: .ref (ρ q) :: st.map (zv ρ))) rfl (by show la.size = _; rw [C.2.2.1]; exact hl.1) (rest := st.map (zv ρ)) rfl (by rw [C.2.1]; exact hd) (by omega) (by
      have hw9 : nativeFrameWords "java/lang/System" "arraycopy" 5 ≤ 20 := by decide
      show 2 * 0 + _ + _ ≤ _
      rw [z_sum]; omega)
  have e1 : copied (arrV (E.2.1 4) (zln G q) (zAf ρ G q 4)) (arrV (E.2.1 4) (zln G r) (zAf ρ G r 4)) sp dp n = arrV (E.2.1 4) (zln G r) (zAf ρ (zcpR G q r sp.toNatClampNeg dp.toNatClampNeg n.toNatClampNeg) r 4) := by
    have := va_copied (fun z => zv ρ (Value.ref z)) (E.2.1 4) (E.2.1 4) (n1 := zln G r) (sp := sp.toNatClampNeg) (dp := dp.toNatClampNeg) (n := n.toNatClampNeg) (zrv G q) (zrv G r) g4
    refine this.trans ?_
    congr 1
    funext j
    show zv ρ (Value.ref _) = zv ρ (Value.ref _)
    rw [zrv_cpR]
    simp [va_cpy]
  rw [e1] at X' step
  have fr := fun (L : List Loc) (hL : ∀ z ∈ L, z.base = ρ r) => z_frame2 (L := L) (G' := zcpR G q r sp.toNatClampNeg dp.toNatClampNeg n.toNatClampNeg) (n := 0) hR hS hr rfl hL rfl rfl (fun q' h => ⟨fun k => rfl, fun k => by rw [zrv_cpR, if_neg (fun z => h z.1)]⟩) (fun k => by rw [zrv_cpR]; split; exact (hR.1 q hq.1).2.1 _; exact (hR.1 r hr.1).2.1 k)
  have hx' := (fr [] (by simp)).2.2
  have hg' : zLg (zcpR G q r sp.toNatClampNeg dp.toNatClampNeg n.toNatClampNeg) ls st := (hg.pop.pop.pop.pop.pop).go hx'
  obtain ⟨t, a1, b1⟩ := kk p e R s m args below meth c _ _ cells slots ρ0 ρ la C (fr _ (by intro z hz; obtain ⟨y, -, hy⟩ := List.mem_map.mp hz; rw [← hy])).2.1 (fr [] (by simp)).1 (hx.trans hx') hg' h1 h2 hl _ (by rw [← hT]; rfl) X'
  exact ⟨t, step t a1, b1⟩
end ZSpec2
section ZSpec3
variable {E : ZE} {l : Launch} {M Y : ZM} {d b d' b' : Nat} {G0 : ZG} {Q Qz : ZQ} {k pc pc' : Nat} {ls : List (Option Value)} {st as : List Value} {G : ZG}
theorem z_strO {s : State} (hZ : ZS E s s.heap) {n : Nat} (hn : n < 32) : va_O "java/lang/String" (E.2.2.2 (zp 1000 n)) (zA E) s s.heap ∧ va_OF "java/lang/String" "coder" "B" (.int 0) (E.2.2.2 (zp 1000 n)) (zA E) s s.heap ∧ va_OF "java/lang/String" "value" "[B" (.ref (E.2.2.2 (zp (3840 + n) 0))) (E.2.2.2 (zp 1000 n)) (zA E) s s.heap := hZ.2.2.2.2.1 n hn
theorem z_getSv {idx n q : Nat} (hd : decode M.2.1 pc = .ok (.getfield idx, 3)) (hw : Cond.fieldLink M.1.cls idx "java/lang/String" "value" "[B" ∈ zgood) (hp : pc + 3 = pc') (hn : n < 32) (hq : q = zp 1000 n)
    (kk : zW E l M d b G0 Q k pc' ls (.ref (zp (3840 + n) 0) :: st) G) : zW E l M d b G0 Q k pc ls (.ref q :: st) G := by
  subst hp; subst hq
  intro p e R s m args below meth c H locs cells slots ρ0 ρ la C hS hR hx hg h1 h2 hl
  have hZ : ZS E s s.heap := C.2.2.2.2.2.2.2.2.2.2.2.2.2.2.2
  have hf : zfx (zp 1000 n) := by unfold zfx; rw [zp_mod (by omega)]; omega
  have h0 : zp 1000 n ≠ 0 := by unfold zp; omega
  have hf' : zfx (zp (3840 + n) 0) := by unfold zfx; rw [zp_mod (by omega)]; omega
  have h0' : zp (3840 + n) 0 ≠ 0 := by unfold zp; omega
  have k2 := kk p e R s m args below meth c H locs cells slots ρ0 ρ la C hS hR hx (hg.pop.push (Or.inr (Or.inr hf'))) h1 h2 hl
  rw [List.map_cons, zv_ref ρ h0', hR.2.2.1 _ hf'] at k2
  rw [List.map_cons, zv_ref ρ h0, hR.2.2.1 _ hf]
  exact vk_getf C.1 C.2.1 (z_strO hZ hn).2.2 hS C.2.2.2.2.2.1 (C.2.2.2.2.2.2.1 _ hw) (fun _ h => h) hd k2
theorem z_getSc {idx n q : Nat} (hd : decode M.2.1 pc = .ok (.getfield idx, 3)) (hw : Cond.fieldLink M.1.cls idx "java/lang/String" "coder" "B" ∈ zgood) (hp : pc + 3 = pc') (hn : n < 32) (hq : q = zp 1000 n)
    (kk : zW E l M d b G0 Q k pc' ls (.int 0 :: st) G) : zW E l M d b G0 Q k pc ls (.ref q :: st) G := by
  subst hp; subst hq
  intro p e R s m args below meth c H locs cells slots ρ0 ρ la C hS hR hx hg h1 h2 hl
  have hZ : ZS E s s.heap := C.2.2.2.2.2.2.2.2.2.2.2.2.2.2.2
  have hf : zfx (zp 1000 n) := by unfold zfx; rw [zp_mod (by omega)]; omega
  have h0 : zp 1000 n ≠ 0 := by unfold zp; omega
  have k2 := kk p e R s m args below meth c H locs cells slots ρ0 ρ la C hS hR hx (hg.pop.push trivial) h1 h2 hl
  rw [List.map_cons, zv_ref ρ h0, hR.2.2.1 _ hf]
  exact vk_getf C.1 C.2.1 (z_strO hZ hn).2.1 hS C.2.2.2.2.2.1 (C.2.2.2.2.2.2.1 _ hw) (fun _ h => h) hd k2
theorem z_getsC {idx : Nat} (hd : decode M.2.1 pc = .ok (.getstatic idx, 3)) (hw : Cond.fieldLink M.1.cls idx "java/lang/String" "COMPACT_STRINGS" "Z" ∈ zgood) (hp : pc + 3 = pc') (kk : zW E l M d b G0 Q k pc' ls (.int 1 :: st) G) : zW E l M d b G0 Q k pc ls st G := by
  subst hp
  intro p e R s m args below meth c H locs cells slots ρ0 ρ la C hS hR hx hg h1 h2 hl
  have hZ : ZS E s s.heap := C.2.2.2.2.2.2.2.2.2.2.2.2.2.2.2
  have k2 := kk p e R s m args below meth c H locs cells slots ρ0 ρ la C hS hR hx (hg.push trivial) h1 h2 hl
  exact va_gets C.1 C.2.1 hZ.2.2.2.2.2.2.1 hS C.2.2.2.2.2.1 (C.2.2.2.2.2.2.1 _ hw) (fun _ h => h) hd k2
theorem z_getsF {idx : Nat} (hd : decode M.2.1 pc = .ok (.getstatic idx, 3)) (hw : Cond.fieldLink M.1.cls idx "jdk/internal/util/Preconditions" "SIOOBE_FORMATTER" "Ljava/util/function/BiFunction;" ∈ zgood) (hp : pc + 3 = pc') (kk : ∀ r, (r = 0 ∨ r = zp 1002 0) → zW E l M d b G0 Q k pc' ls (.ref r :: st) G) : zW E l M d b G0 Q k pc ls st G := by
  subst hp
  intro p e R s m args below meth c H locs cells slots ρ0 ρ la C hS hR hx hg h1 h2 hl
  have hZ : ZS E s s.heap := C.2.2.2.2.2.2.2.2.2.2.2.2.2.2.2
  have hf : zfx (zp 1002 0) := by unfold zfx; rw [zp_mod (by omega)]; omega
  have h0 : zp 1002 0 ≠ 0 := by unfold zp; omega
  rcases hZ.2.2.2.2.2.2.2.1 with h | h
  · have k2 := kk 0 (Or.inl rfl) p e R s m args below meth c H locs cells slots ρ0 ρ la C hS hR hx (hg.push (Or.inl rfl)) h1 h2 hl
    exact va_gets C.1 C.2.1 h hS C.2.2.2.2.2.1 (C.2.2.2.2.2.2.1 _ hw) (fun _ h => h) hd k2
  · have k2 := kk _ (Or.inr rfl) p e R s m args below meth c H locs cells slots ρ0 ρ la C hS hR hx (hg.push (Or.inr (Or.inr hf))) h1 h2 hl
    rw [List.map_cons, zv_ref ρ h0, hR.2.2.1 _ hf] at k2
    exact va_gets C.1 C.2.1 h hS C.2.2.2.2.2.1 (C.2.2.2.2.2.2.1 _ hw) (fun _ h => h) hd k2
theorem z_callT {idx q sn n : Nat} (hm : zMet E l Y d' b' (.ref q :: as) G Qz) (hd : decode M.2.1 pc = .ok (.invokevirtual idx, 3)) (hw : Cond.methodLink M.1.cls idx Y.1 ∈ zgood) (hY : zcV Y n) (hn : as.length = n) (hp : pc + 3 = pc') (hC : Y.1.cls = "java/lang/String") (hsn : sn < 32) (hq : q = zp 1000 sn) (hdd : d' + 1 ≤ d) (hb : b' ≤ k) (hst : (st.map fun v => v.category).sum ≤ 8)
    (kk : ∀ r G', Qz (.inl r) G' → zW E l M d b G0 Q (k - b') pc' ls (r.toList ++ st) G') (kx : ∀ X G', Qz (.inr X) G' → Q (.inr X) G') : zW E l M d b G0 Q k pc ls (as.reverse ++ .ref q :: st) G := by
  subst hp; subst hq
  intro p e R s m args below meth c H locs cells slots ρ0 ρ la C hS hR hx hg h1 h2 hl
  have hts := C.2.2.2.2.2.2.1
  have hdf : d ≤ R.frames := C.2.2.2.2.2.2.2.2.2.1
  have hdl : 40 * d ≤ R.locals := C.2.2.2.2.2.2.2.2.2.2.1
  have hbc : b ≤ R.cells := C.2.2.2.2.2.2.2.2.2.2.2.1
  have hbs : b ≤ R.slots := C.2.2.2.2.2.2.2.2.2.2.2.2.1
  have hZ : ZS E s s.heap := C.2.2.2.2.2.2.2.2.2.2.2.2.2.2.2
  have hf : zfx (zp 1000 sn) := by unfold zfx; rw [zp_mod (by omega)]; omega
  have h0 : zp 1000 sn ≠ 0 := by unfold zp; omega
  obtain ⟨hw5, hdY, hmY⟩ := hY
  have hgas : ∀ v ∈ (.ref (zp 1000 sn) :: as : List Value), zgd G v := fun v hv => by
    rcases List.mem_cons.mp hv with rfl | h
    · exact Or.inr (Or.inr hf)
    · exact hg.2 v (List.mem_append_left _ (List.mem_reverse.mpr h))
  have hgst : zLg G ls st := ⟨hg.1, fun v hv => hg.2 v (List.mem_append_right _ (List.mem_cons_of_mem _ hv))⟩
  obtain ⟨cell, q1, q2, q3, q4⟩ := (z_strO hZ hsn).1.kept hS.2.1
  have hpre := z_pre (as := .ref (zp 1000 sn) :: as) C hS hR hgas
  rw [List.map_cons, zv_ref ρ h0, hR.2.2.1 _ hf] at hpre
  have est : (as.reverse ++ .ref (zp 1000 sn) :: st).map (zv ρ) = (as.map (zv ρ)).reverse ++ .ref (E.2.2.2 (zp 1000 sn)) :: st.map (zv ρ) := by
    rw [List.map_append, List.map_cons, List.map_reverse, zv_ref ρ h0, hR.2.2.1 _ hf]
  rw [est]
  refine z_after C hS hR hx hgst h1 h2 hl hb (vx_runV (Ts := zgood) (own := M.1.cls) (C := Y.1.cls) (n := n) (As := as.map (zv ρ)) (b := E.2.2.2 (zp 1000 sn)) ⟨C.1, C.2.1, C.2.2.1, C.2.2.2.2.2.1, hts⟩ (hm ρ)
    (cwV n hts (z_goodIn (ws := [.methodLink M.1.cls idx Y.1, .instanceMethod Y.1, .selects Y.1.cls Y.1 Y.1, .initialized Y.1.cls, .code Y.1 Y.2.1 Y.2.2.1 Y.2.2.2]) (fun w h9 => by
        rcases List.mem_cons.mp h9 with rfl | h9
        · exact hw
        · exact hw5 w h9) rfl) (ws' := zgood) rfl rfl rfl ⟨rfl, hdY⟩ ⟨by show d' + 1 ≤ _; omega, by show 8 + (Y.2.2.1 + 11) + 40 * d' ≤ _; omega⟩)
    ⟨zPc_blind, ⟨cell, q1, q2, by rw [hC]; exact q3⟩, hpre⟩ rfl (by rw [List.length_map]; exact hn) hl.1 rfl (z_sum8 hst) hd ⟨by omega, by omega⟩) kk kx
theorem z_clone {idx q t : Nat} (hd : decode M.2.1 pc = .ok (.invokevirtual idx, 3)) (hw : Cond.methodLink M.1.cls idx ⟨"[I", "clone", "()Ljava/lang/Object;"⟩ ∈ zgood) (hw1 : Cond.sameMethod "[I" "java/lang/Object" "clone" "()Ljava/lang/Object;" ∈ zgood) (hw2 : Cond.native ⟨"java/lang/Object", "clone", "()Ljava/lang/Object;"⟩ ∈ zgood) (hw3 : Cond.instanceMethod ⟨"java/lang/Object", "clone", "()Ljava/lang/Object;"⟩ ∈ zgood) (hw4 : Cond.selects "[I" ⟨"[I", "clone", "()Ljava/lang/Object;"⟩ ⟨"java/lang/Object", "clone", "()Ljava/lang/Object;"⟩ ∈ zgood) (hw5 : Cond.castable "[I" "java/lang/Cloneable" ∈ zcast)
    (hp : pc + 3 = pc') (hq : zar G q 0) (ht1 : 1024 ≤ t) (ht2 : t < 3584) (ht3 : (t - 1024) / 512 = 0) (hdd : 2 ≤ d) (hst : (st.map fun v => v.category).sum ≤ 8) (hbig : zln G q + 1 ≤ k)
    (kk : zW E l M d b G0 Q (k - (zln G q + 1)) pc' ls (.ref (zp t (zcn G t)) :: st) (zdup G q t)) : zW E l M d b G0 Q k pc ls (.ref q :: st) G := by
  subst hp
  intro p e R s m args below meth c H locs cells slots ρ0 ρ la C hS hR hx hg h1 h2 hl
  have hZ : ZS E s s.heap := C.2.2.2.2.2.2.2.2.2.2.2.2.2.2.2
  have hK : ZK E s := C.2.2.2.2.2.2.2.2.2.2.2.2.2.2.1
  have hts := C.2.2.2.2.2.2.1
  have hdf : d ≤ R.frames := C.2.2.2.2.2.2.2.2.2.1
  have hdl : 40 * d ≤ R.locals := C.2.2.2.2.2.2.2.2.2.2.1
  have hbc : b ≤ R.cells := C.2.2.2.2.2.2.2.2.2.2.2.1
  have hbs : b ≤ R.slots := C.2.2.2.2.2.2.2.2.2.2.2.2.1
  have hbase : E.2.2.1 ≤ s.heap.size := C.2.2.2.2.2.2.2.2.2.2.2.2.2.1
  simp only [List.map_cons, zv_ref ρ (hR.ne0 hq.1)]
  have hc0 := hR.ar hq
  obtain ⟨c0, t0', f1, f2, f3⟩ := Cond.castable_spec (va_Nw.use (A := args) rfl (hZ.2.2.2.2.2.2.2.2.2.1 _ hw5))
  have hnm : s.vm.findClass "[I" = some (E.2.1 0) := va_nm_int (hK.arr (k := 0) (by decide)).2
  cases hnm.symm.trans f1
  intro T hT X
  have hcl0 : (arrV (E.2.1 0) (zln G q) (zAf ρ G q 0)).cls = E.2.1 0 := rfl
  have hcellT : T.heap[ρ q]? = some (arrV (E.2.1 0) (zln G q) (zAf ρ G q 0)) := by rw [hT]; exact hc0
  obtain ⟨-, kA, hkA, comp, hkind⟩ := State.isArrayOf_alike X.warmed.alike ((hK.arr (k := 0) (by decide)).1 0 (fun _ => .null))
  obtain ⟨-, kS, hkS, compS, hkindS⟩ := (hK.arr (k := 0) (by decide)).1 0 (fun _ => .null)
  obtain ⟨vm', X', stp⟩ := X.cloneArray C.1 C.2.2.2.2.2.1 (hts _ hw) (hts _ hw1) (hts _ hw2) (hts _ hw3) (hts _ hw4) (a := ρ q) (cell := arrV (E.2.1 0) (zln G q) (zAf ρ G q 0)) hcellT (fun k h => by cases h) (fun h => by cases h) (by rw [hcl0]; exact hnm) f2 (by rw [hcl0]; exact f3)
    (fun i v hv => by
      have hi : i < zln G q := by
        have := (Array.getElem?_eq_some_iff.mp hv).1
        rw [arrV_size] at this
        exact this
      rw [arrV_read _ _ hi] at hv
      cases hv
      rw [hcl0]
      have hk' : T.vm.classes[E.2.1 0]? = some kA := hkA
      simp [State.fitsSlot, State.slotType?, hk', hkind, zAk, fits, zAf])
    (g := F0 m pc la (.ref (ρ q) :: st.map (zv ρ))) rfl (by show la.size = _; rw [C.2.2.1]; exact hl.1) rfl (by rw [C.2.1]; exact hd) (by omega) (by show 2 * 0 + _ + 14 ≤ _; rw [z_sum]; omega) (by omega) (by rw [arrV_size]; omega) (hloader := by rw [hcl0]; exact Vm.clonesLoader_of_array hkS hkindS)
  rw [arrV_size] at X'
  generalize hH1 : H.push (arrV (E.2.1 0) (zln G q) (zAf ρ G q 0)) = H1
  have z1 : H1.size = H.size + 1 := by rw [← hH1, Array.size_push]
  have e1 : H1[H.size]? = some (arrV (E.2.1 0) (zln G q) (zAf ρ G q 0)) := by rw [← hH1, Array.getElem?_push_size]
  have o1 : ∀ a : Nat, a < H.size → H1[a]? = H[a]? := fun a ha => by rw [← hH1, Array.getElem?_push, if_neg (Nat.ne_of_lt ha)]
  generalize hH0 : H.push (arrV (E.2.1 0) (zln G q) (fun _ => .int 0)) = HZ
  have z0 : HZ.size = H.size + 1 := by rw [← hH0, Array.size_push]
  have e0 : HZ[H.size]? = some (arrV (E.2.1 0) (zln G q) (fun _ => .int 0)) := by rw [← hH0, Array.getElem?_push_size]
  have o0 : ∀ a : Nat, a < H.size → HZ[a]? = H[a]? := fun a ha => by rw [← hH0, Array.getElem?_push, if_neg (Nat.ne_of_lt ha)]
  have hm : zp t (zcn G t) % 4096 = t := zp_mod (by omega)
  have hcell : zcell E s (upd9 ρ (zp t (zcn G t)) H.size) (znw G t (zln G q)) (zp t (zcn G t)) HZ := by
    refine zcell.ar (k := 0) (by rw [hm]; exact ht1) (by rw [hm]; exact ht2) (by rw [hm]; exact ht3) ?_
    have hρ : upd9 ρ (zp t (zcn G t)) H.size (zp t (zcn G t)) = H.size := by simp [upd9]
    rw [hρ, e0, zln_nw, if_pos rfl]
    congr 2
    funext j
    show Value.int 0 = Value.int (ziv _ _ _)
    rw [ziv_nw, if_pos rfl]
  obtain ⟨hR', hS', hx', hg', hl', hst', hv'⟩ := z_made (t := t) (n := zln G q) hR hS hbase (by omega) (by omega) (by omega) z0 o0 hcell hg.pop hl
  have hal : zal (znw G t (zln G q)) (zp t (zcn G t)) := (zal_nw (by omega) _).mpr (Or.inr rfl)
  have hρn : upd9 ρ (zp t (zcn G t)) H.size (zp t (zcn G t)) = H.size := by simp [upd9]
  have hR2 : ZR E s (upd9 ρ (zp t (zcn G t)) H.size) (zdup G q t) H1 := by
    refine hR'.upd hal (by rw [z1, z0]) (fun a ha => ?_) rfl (fun q' hq' => ⟨?_, fun k => ?_, fun k => rfl⟩) ?_ (fun k => ?_)
    · rw [hρn] at ha
      by_cases h9 : a < H.size
      · rw [o1 a h9, o0 a h9]
      · rw [Array.getElem?_eq_none (by omega), Array.getElem?_eq_none (by omega)]
    · show (if q' = zp t (zcn G t) then zln G q else zln G q') = (if q' = zp t (zcn G t) then zln G q else zln G q')
      rfl
    · show (if q' = zp t (zcn G t) then ziv G q k else ziv G q' k) = (if q' = zp t (zcn G t) then 0 else ziv G q' k)
      rw [if_neg hq', if_neg hq']
    · refine zcell.ar (k := 0) (by rw [hm]; exact ht1) (by rw [hm]; exact ht2) (by rw [hm]; exact ht3) ?_
      rw [hρn, e1]
      show some (arrV _ (zln G q) _) = some (arrV _ (if zp t (zcn G t) = zp t (zcn G t) then zln G q else _) _)
      rw [if_pos rfl]
      congr 2
      funext j
      show Value.int (ziv G q j) = Value.int (if zp t (zcn G t) = zp t (zcn G t) then ziv G q j else _)
      rw [if_pos rfl]
    · show zgq _ (if zp t (zcn G t) = zp t (zcn G t) then 0 else zrv G _ k)
      rw [if_pos rfl]
      exact Or.inl rfl
  have hx2 : zext G ρ (zdup G q t) (upd9 ρ (zp t (zcn G t)) H.size) := hx'
  have hS2 : va_S (zA E) s.heap H1 locs := ⟨Nat.le_trans hS.1 (by omega), fun a g1 g2 => (o1 a (Nat.lt_of_lt_of_le g1 hS.1)).trans (hS.2.1 a g1 g2), hS.2.2⟩
  have hg2 : zLg (zdup G q t) ls (.ref (zp t (zcn G t)) :: st) := (hg.pop.go hx2).push (Or.inr (Or.inl hal))
  have k2 := kk p e R s m args below meth c H1 locs (cells + 1) (slots + zln G q) ρ0 _ la C hS2 hR2 (hx.trans hx2) hg2 (by omega) (by omega) hl'
  rw [List.map_cons, hst', hv'] at k2
  obtain ⟨tt, b1, b2⟩ := k2 _ (by rw [← hH1, ← hT]; rfl) X'
  rw [← hT] at b1
  exact ⟨tt, stp tt b1, b2⟩
end ZSpec3
