/-! RULES: methods and calls -/
theorem lg_args_cat : ∀ (i : Nat) (vs : List Value), (∀ v ∈ vs, v.category = 1) → ∀ q ∈ lv_args i vs, ∃ j v, q = (i + j, v) ∧ vs[j]? = some v
  | i, [], _, q, h => by simp [lv_args] at h
  | i, v :: r, hc, q, h => by
    have h1 : v.category = 1 := hc v List.mem_cons_self
    simp only [lv_args, List.mem_cons, h1] at h
    rcases h with h | h
    · exact ⟨0, v, h, rfl⟩
    · obtain ⟨j, u, e1, e2⟩ := lg_args_cat (i + 1) r (fun w hw => hc w (List.mem_cons_of_mem _ hw)) q h
      exact ⟨j + 1, u, by rw [e1]; congr 1; omega, by rw [List.getElem?_cons_succ]; exact e2⟩
theorem lg_args_mem : ∀ (i : Nat) (vs : List Value), (∀ v ∈ vs, v.category = 1) → ∀ (j : Nat) (v : Value), vs[j]? = some v → (i + j, v) ∈ lv_args i vs
  | i, [], _, j, v, h => by simp at h
  | i, u :: r, hc, 0, v, h => by
    rw [List.getElem?_cons_zero] at h
    cases h
    simp [lv_args]
  | i, u :: r, hc, j + 1, v, h => by
    rw [List.getElem?_cons_succ] at h
    have h1 : u.category = 1 := hc u List.mem_cons_self
    have := lg_args_mem (i + 1) r (fun w hw => hc w (List.mem_cons_of_mem _ hw)) j v h
    simp only [lv_args, List.mem_cons, h1]
    exact Or.inr (by rw [show i + (j + 1) = i + 1 + j by omega]; exact this)
theorem lg_sl_len : ∀ (vs : List Value), (∀ v ∈ vs, v.category = 1) → (lg_sl vs).length = vs.length
  | [], _ => rfl
  | v :: r, hc => by
    have h1 : v.category = 1 := hc v List.mem_cons_self
    have := lg_sl_len r (fun w hw => hc w (List.mem_cons_of_mem _ hw))
    simp only [lg_sl, List.flatMap_cons, h1, List.length_append, List.length_cons] at this ⊢
    simp at this ⊢
    omega
/-- the locals at a method's start -/
def zarg (as : List Value) (n : Nat) : List (Option Value) := as.map some ++ List.replicate (n - as.length) none
theorem zarg_at {as : List Value} {n j : Nat} {v : Value} (h : (zarg as n)[j]? = some (some v)) : as[j]? = some v := by
  unfold zarg at h
  by_cases hj : j < as.length
  · rw [List.getElem?_append_left (by simpa using hj)] at h
    simpa using h
  · rw [List.getElem?_append_right (by simpa using hj)] at h
    have := List.mem_of_getElem? h
    simp at this
theorem zPc_blind {E : ZE} {ρ : Nat → Nat} {G : ZG} {as : List Value} : FrameBlind (zPc E ρ G as) := fun _ U g mk ⟨h1, h2, h3, h4, h5, h6⟩ =>
  ⟨h1, h2, h3, ZR.moved (u := U) (U := U.calling g mk _) (Vm.Alike.refl U.vm) h4, ZK.moved (u := U) (U := U.calling g mk _) (Vm.Alike.refl U.vm) h5, ZS.same (s := U) (U := U.calling g mk _) rfl h6⟩
section ZCalls
variable {E : ZE} {l : Launch} {M Y : ZM} {d b d' b' : Nat} {G0 : ZG} {Q Qz : ZQ} {k pc pc' : Nat} {ls : List (Option Value)} {st as : List Value} {G : ZG}
theorem z_meth (hy : plainName M.1.cls = true) (hn : as.length ≤ M.2.2.1) (hc : ∀ v ∈ as, v.category = 1) (body : zW E l M d b G Q b 0 (zarg as M.2.2.1) [] G) : zMet E l M d b as G Q := by
  intro ρ
  refine vx_ofW (cc := M.2.1) (maxL := M.2.2.1) (ret := M.2.2.2) (ws' := zgood) hy rfl ?_
  intro p e s m args below meth c s₁ B hml hex hv
  obtain ⟨rfl, hga, hbase, hR, hK, hZ⟩ := hv
  have hts0 := atoms_spec (ws := zws M) B.pre
  have hts : ∀ w ∈ zgood, w.before _ s = true := fun w hw => hts0 w (List.mem_cons_of_mem _ hw)
  have hcv : ∀ v ∈ as.map (zv ρ), v.category = 1 := by
    intro v hv
    obtain ⟨u, hu, rfl⟩ := List.mem_map.mp hv
    rw [zv_cat]; exact hc u hu
  have hlen : (lg_sl (as.map (zv ρ))).length ≤ M.2.2.1 := by rw [lg_sl_len _ hcv, List.length_map]; exact hn
  have hl := lv_entry (as.map (zv ρ)) (n := M.2.2.1) hlen
  rw [lg_entry_eq]
  have hl2 : lv_has (lg_sl (as.map (zv ρ)) ++ List.replicate (M.2.2.1 - (lg_sl (as.map (zv ρ))).length) Slot.unset).toArray M.2.2.1 (zas ρ 0 (zarg as M.2.2.1)) := by
    refine ⟨hl.1, hl.2.1, fun q hq => hl.2.2 q ?_⟩
    obtain ⟨j, v, rfl, hj⟩ := zas_inv _ _ _ hq
    have hj2 := zarg_at hj
    exact lg_args_mem 0 _ hcv j _ (by rw [List.getElem?_map, hj2]; rfl)
  refine body p e _ s m _ below meth c s.heap [] 0 0 ρ ρ _ ⟨B.exec, B.bytes, hml, B.returns, B.notSynchronized, findClass_of_methodNamed B.named, hts, (name_of_methodNamed B.named B.method).1, hex, Nat.le_refl _, Nat.le_refl _, Nat.le_refl _, Nat.le_refl _, hbase, hK, hZ⟩ va_S.rf hR zext.rf ⟨fun i v hi => ?_, fun v hv => nomatch hv⟩ (by omega) (by omega) hl2
  have h1 := List.mem_of_getElem? (zarg_at hi)
  exact ⟨hga v h1, hc v h1⟩
/-- behind a call -/
theorem z_after {p : Program} {e : Env} {R : Room} {s : State} {m : MethodId} {args : Array Value} {below : List Frame} {meth : Method} {c : Code} {H : Heap} {locs : List Loc} {cells slots : Nat} {ρ0 ρ : Nat → Nat} {la : Array Slot} {a : Array Value} {ast : List Value}
    (C : zCx E M d b p R s m args meth c) (hS : va_S (zA E) s.heap H locs) (hR : ZR E s ρ G H) (hx : zext G0 ρ0 G ρ) (hg : zLg G ls st) (h1 : cells + k ≤ b) (h2 : slots + k ≤ b) (hl : lv_has la M.2.2.1 (zas ρ 0 ls)) (hb : b' ≤ k)
    (hr : vx_Run p l e R s m args below meth c H locs cells slots b' b' (F0 m pc la ast) (st.map (zv ρ)) (zQc E ρ G Qz a) (zXC E ρ G Qz) (zA E))
    (kk : ∀ r G', Qz (.inl r) G' → zW E l M d b G0 Q (k - b') (pc + 3) ls (r.toList ++ st) G') (kx : ∀ X G', Qz (.inr X) G' → Q (.inr X) G') :
    W p l e R s m args below meth c H locs cells slots (vx_MQ below (zQc E ρ0 G0 Q) (zXC E ρ0 G0 Q) args s b b (zA E)) (F0 m pc la ast) := by
  intro T hT X
  rcases hr T hT X with ⟨v, st₀, t, T', L, h0, X', hL, e1, e2, ⟨⟨r, G', ρ', hv, hQz, hgr, hR', hx'⟩, hF⟩, hst⟩ | ⟨q, st₀, t, T', L, Xn, ce, h0, X', hL, e1, e2, ⟨⟨G', ρ', hQz, hR', hx'⟩, hF⟩, hce, hcv, hcl, hst⟩
  · cases hv
    obtain ⟨k1, k2, k3⟩ := vx_keep h0 e1 hS (fun _ _ h => h) (fun _ h => h) hL hF
    have hal : t.vm.Alike s.vm := by rw [← e2]; exact X'.warmed.alike.symm
    have hR2 : ZR E s ρ' G' T'.heap := by rw [e1]; exact hR'.moved hal
    have hl' : lv_has la M.2.2.1 (zas ρ' 0 ls) := by rw [zas_congr ls 0 (fun j v hj => zv_ext hR hR2 hx' (hg.1 j v hj).1)]; exact hl
    have hst2 : st.map (zv ρ') = st.map (zv ρ) := List.map_congr_left (fun v hv => zv_ext hR hR2 hx' (hg.2 v hv))
    have hg' : zLg G' ls (r.toList ++ st) := ⟨(hg.go hx').1, fun v hv => by
      rcases List.mem_append.mp hv with h | h
      · exact hgr v (Option.mem_toList.mp h)
      · exact hx'.gd (hg.2 v h)⟩
    have k9 := kk r G' hQz p e R s m args below meth c T'.heap (locs ++ L) (cells + b') (slots + b') ρ0 ρ' la C k3 hR2 (hx.trans hx') hg' (by omega) (by omega) hl'
    have e9 : (r.toList ++ st).map (zv ρ') = (r.map (zv ρ')).toList ++ st.map (zv ρ) := by
      rw [List.map_append, hst2]
      cases r <;> rfl
    rw [e9] at k9
    obtain ⟨t2, a1, b1⟩ := k9 T' rfl X'
    exact ⟨t2, hst t2 a1, b1⟩
  · obtain ⟨k1, k2, k3⟩ := vx_keep h0 e1 hS (fun _ _ h => h) (fun _ h => h) hL hF
    have k9 := vx_out (p := p) (l := l) (e := e) (R := R) (s := s) (m := m) (args := args) (below := below) (meth := meth) (c := c) (H := T'.heap) (locs := locs ++ L) (cells := cells + b') (slots := slots + b') (Qc := zQc E ρ0 G0 Q) (XC := zXC E ρ0 G0 Q) (mc := b) (ms := b) (free := zA E) (pc := pc) (ls := la) (rest := st.map (zv ρ)) (E := Xn) (ce := ce) (q := q)
      (fun x hx9 => (C.2.2.2.2.2.2.2.2.1 x hx9).elim) C.2.2.2.2.1 (by rw [e1]; exact hce) hcv hcl
      (fun u hu hal => ⟨⟨G', ρ', kx Xn G' hQz, by
        rw [hu, e1]
        have h9 : t.vm.Alike s.vm := by rw [← e2]; exact X'.warmed.alike.symm
        exact hR'.moved (h9.trans hal), hx.trans hx'⟩, k3.F hu⟩) k3.2.2 (by omega) (by omega)
    obtain ⟨t2, a1, b1⟩ := k9 T' rfl X'
    exact ⟨t2, hst.trans a1, b1⟩
theorem z_goodIn {ws ws2 : List Cond} (h : ∀ w ∈ ws, w ∈ zgood) (h2 : ws2 = ws ++ zgood) : GoodIn zgood ws2 := by
  intro w hw
  rw [h2] at hw
  rcases List.mem_append.mp hw with h1 | h1
  · exact zgood_ok (h w h1)
  · exact zgood_ok h1
theorem z_pre {p : Program} {R : Room} {s : State} {m : MethodId} {args : Array Value} {meth : Method} {c : Code} {H : Heap} {locs : List Loc} {ρ : Nat → Nat} (C : zCx E M d b p R s m args meth c) (hS : va_S (zA E) s.heap H locs) (hR : ZR E s ρ G H) (hg : ∀ v ∈ as, zgd G v) : ∀ U : State, U.heap = H → s.WarmedH U.vm → zPc E ρ G as ((as.map (zv ρ)).toArray) U := by
  intro U hU hW
  have hbase : E.2.2.1 ≤ s.heap.size := C.2.2.2.2.2.2.2.2.2.2.2.2.2.1
  have hK : ZK E s := C.2.2.2.2.2.2.2.2.2.2.2.2.2.2.1
  have hZ : ZS E s s.heap := C.2.2.2.2.2.2.2.2.2.2.2.2.2.2.2
  exact ⟨rfl, hg, by rw [hU]; exact Nat.le_trans hbase hS.1, by rw [hU]; exact hR.moved hW.alike, ZK.moved hW.alike hK, by rw [hU]; exact ZS.go hW hS.2.1 hZ⟩
theorem z_sum8 {ρ : Nat → Nat} {pc : Nat} {la : Array Slot} {m : MethodId} {ast : List Value} (hst : (st.map fun v => v.category).sum ≤ 8) : 2 * (F0 m pc la ast).monitorRoom + ((st.map (zv ρ)).map fun v => v.category).sum ≤ 8 := by
  refine lv_room ?_
  rw [List.map_map]
  have : (st.map ((fun v => v.category) ∘ zv ρ)) = st.map fun v => v.category := List.map_congr_left (fun v _ => zv_cat ρ v)
  rw [this]
  exact hst
theorem z_callV {idx q ci n : Nat} (hm : zMet E l Y d' b' (.ref q :: as) G Qz) (hd : decode M.2.1 pc = .ok (.invokevirtual idx, 3)) (hw : Cond.methodLink M.1.cls idx Y.1 ∈ zgood) (hY : zcV Y n) (hn : as.length = n) (hp : pc + 3 = pc') (hci : ci < 14) (hC : Y.1.cls = zC ci) (hq : zob G q ci) (hdd : d' + 1 ≤ d) (hb : b' ≤ k) (hst : (st.map fun v => v.category).sum ≤ 8)
    (kk : ∀ r G', Qz (.inl r) G' → zW E l M d b G0 Q (k - b') pc' ls (r.toList ++ st) G') (kx : ∀ X G', Qz (.inr X) G' → Q (.inr X) G') : zW E l M d b G0 Q k pc ls (as.reverse ++ .ref q :: st) G := by
  subst hp
  intro p e R s m args below meth c H locs cells slots ρ0 ρ la C hS hR hx hg h1 h2 hl
  have hts := C.2.2.2.2.2.2.1
  have hdf : d ≤ R.frames := C.2.2.2.2.2.2.2.2.2.1
  have hdl : 40 * d ≤ R.locals := C.2.2.2.2.2.2.2.2.2.2.1
  have hbc : b ≤ R.cells := C.2.2.2.2.2.2.2.2.2.2.2.1
  have hbs : b ≤ R.slots := C.2.2.2.2.2.2.2.2.2.2.2.2.1
  have hK : ZK E s := C.2.2.2.2.2.2.2.2.2.2.2.2.2.2.1
  obtain ⟨hw5, hdY, hmY⟩ := hY
  have hgas : ∀ v ∈ (.ref q :: as : List Value), zgd G v := fun v hv => by
    rcases List.mem_cons.mp hv with rfl | h
    · exact Or.inr (Or.inl hq.1)
    · exact hg.2 v (List.mem_append_left _ (List.mem_reverse.mpr h))
  have hgst : zLg G ls st := ⟨hg.1, fun v hv => hg.2 v (List.mem_append_right _ (List.mem_cons_of_mem _ hv))⟩
  obtain ⟨cell, q1, q2, q3, q4⟩ := hR.ob hq
  have hpre := z_pre (as := .ref q :: as) C hS hR hgas
  rw [List.map_cons, zv_ref ρ (hR.ne0 hq.1)] at hpre
  have est : (as.reverse ++ .ref q :: st).map (zv ρ) = (as.map (zv ρ)).reverse ++ .ref (ρ q) :: st.map (zv ρ) := by
    rw [List.map_append, List.map_cons, List.map_reverse, zv_ref ρ (hR.ne0 hq.1)]
  rw [est]
  refine z_after C hS hR hx hgst h1 h2 hl hb (vx_runV (Ts := zgood) (own := M.1.cls) (C := Y.1.cls) (n := n) (As := as.map (zv ρ)) (b := ρ q) ⟨C.1, C.2.1, C.2.2.1, C.2.2.2.2.2.1, hts⟩ (hm ρ)
    (cwV n hts (z_goodIn (ws := [.methodLink M.1.cls idx Y.1, .instanceMethod Y.1, .selects Y.1.cls Y.1 Y.1, .initialized Y.1.cls, .code Y.1 Y.2.1 Y.2.2.1 Y.2.2.2]) (fun w h9 => by
        rcases List.mem_cons.mp h9 with rfl | h9
        · exact hw
        · exact hw5 w h9) rfl) (ws' := zgood) rfl rfl rfl ⟨rfl, hdY⟩ ⟨by show d' + 1 ≤ _; omega, by show 8 + (Y.2.2.1 + 11) + 40 * d' ≤ _; omega⟩)
    ⟨zPc_blind, ⟨cell, q1, by rw [q3]; rfl, by rw [q2, hC]; exact (hK.1 ci _ (z_cl hci)).2.1⟩, hpre⟩ rfl (by rw [List.length_map]; exact hn) hl.1 rfl (z_sum8 hst) hd ⟨by omega, by omega⟩) kk kx
theorem z_callS {idx n : Nat} (hm : zMet E l Y d' b' as G Qz) (hd : decode M.2.1 pc = .ok (.invokestatic idx, 3)) (hw : Cond.methodLink M.1.cls idx Y.1 ∈ zgood) (hY : zcS Y n) (hn : as.length = n) (hp : pc + 3 = pc') (hdd : d' + 1 ≤ d) (hb : b' ≤ k) (hst : (st.map fun v => v.category).sum ≤ 8)
    (kk : ∀ r G', Qz (.inl r) G' → zW E l M d b G0 Q (k - b') pc' ls (r.toList ++ st) G') (kx : ∀ X G', Qz (.inr X) G' → Q (.inr X) G') : zW E l M d b G0 Q k pc ls (as.reverse ++ st) G := by
  subst hp
  intro p e R s m args below meth c H locs cells slots ρ0 ρ la C hS hR hx hg h1 h2 hl
  have hts := C.2.2.2.2.2.2.1
  have hdf : d ≤ R.frames := C.2.2.2.2.2.2.2.2.2.1
  have hdl : 40 * d ≤ R.locals := C.2.2.2.2.2.2.2.2.2.2.1
  have hbc : b ≤ R.cells := C.2.2.2.2.2.2.2.2.2.2.2.1
  have hbs : b ≤ R.slots := C.2.2.2.2.2.2.2.2.2.2.2.2.1
  obtain ⟨hw5, hdY, hmY⟩ := hY
  have hgas : ∀ v ∈ as, zgd G v := fun v h => hg.2 v (List.mem_append_left _ (List.mem_reverse.mpr h))
  have hgst : zLg G ls st := ⟨hg.1, fun v hv => hg.2 v (List.mem_append_right _ hv)⟩
  have hpre := z_pre (as := as) C hS hR hgas
  have est : (as.reverse ++ st).map (zv ρ) = (as.map (zv ρ)).reverse ++ st.map (zv ρ) := by rw [List.map_append, List.map_reverse]
  rw [est]
  have hin : ∀ w ∈ ([.static Y.1, .initialized Y.1.cls, .code Y.1 Y.2.1 Y.2.2.1 Y.2.2.2] : List Cond), w.before args s = true := fun w h9 => hts w (hw5 w h9)
  have hg2 : GoodIn zgood (zws Y) := z_goodIn (ws := [.code Y.1 Y.2.1 Y.2.2.1 Y.2.2.2]) (fun w h9 => hw5 w (by simp at h9 ⊢; exact Or.inr (Or.inr h9))) rfl
  refine z_after C hS hR hx hgst h1 h2 hl hb (vx_runS (Ts := zgood) (own := M.1.cls) (n := n) (As := as.map (zv ρ)) ⟨C.1, C.2.1, C.2.2.1, C.2.2.2.2.2.1, hts⟩ (hm ρ)
    ⟨callB_of n hts hg2 (ws' := zgood) rfl rfl rfl (hin _ (by simp)) (hts _ hw) hdY ⟨by show d' + 1 ≤ _; omega, by show 8 + (Y.2.2.1 + 11) + 40 * d' ≤ _; omega⟩, hin _ (by simp)⟩
    ⟨zPc_blind, hpre⟩ rfl (by rw [List.length_map]; exact hn) hl.1 rfl (z_sum8 hst) hd ⟨by omega, by omega⟩) kk kx
end ZCalls
