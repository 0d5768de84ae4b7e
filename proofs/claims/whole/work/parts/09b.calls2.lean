section ZCallsI
variable {E : ZE} {l : Launch} {M Y : ZM} {d b d' b' : Nat} {G0 : ZG} {Q Qz : ZQ} {k pc pc' : Nat} {ls : List (Option Value)} {st as : List Value} {G : ZG}
theorem z_callI {idx q n : Nat} (hm : zMet E l Y d' b' (.ref q :: as) G Qz) (hd : decode M.2.1 pc = .ok (.invokespecial idx, 3)) (hw : Cond.methodLink M.1.cls idx Y.1 ∈ zgood) (hY : zcI Y n) (hn : as.length = n) (hp : pc + 3 = pc') (hq : zal G q) (hdd : d' + 1 ≤ d) (hb : b' ≤ k) (hst : (st.map fun v => v.category).sum ≤ 8)
    (kk : ∀ r G', Qz (.inl r) G' → zW E l M d b G0 Q (k - b') pc' ls (r.toList ++ st) G') (kx : ∀ X G', Qz (.inr X) G' → Q (.inr X) G') : zW E l M d b G0 Q k pc ls (as.reverse ++ .ref q :: st) G := by
  subst hp
  intro p e R s m args below meth c H locs cells slots ρ0 ρ la C hS hR hx hg h1 h2 hl
  have hts := C.2.2.2.2.2.2.1
  have hdf : d ≤ R.frames := C.2.2.2.2.2.2.2.2.2.1
  have hdl : 40 * d ≤ R.locals := C.2.2.2.2.2.2.2.2.2.2.1
  have hbc : b ≤ R.cells := C.2.2.2.2.2.2.2.2.2.2.2.1
  have hbs : b ≤ R.slots := C.2.2.2.2.2.2.2.2.2.2.2.2.1
  obtain ⟨hw5, hdY, hmY, hnm, hret⟩ := hY
  have hgas : ∀ v ∈ (.ref q :: as : List Value), zgd G v := fun v hv => by
    rcases List.mem_cons.mp hv with rfl | h
    · exact Or.inr (Or.inl hq)
    · exact hg.2 v (List.mem_append_left _ (List.mem_reverse.mpr h))
  have hgst : zLg G ls st := ⟨hg.1, fun v hv => hg.2 v (List.mem_append_right _ (List.mem_cons_of_mem _ hv))⟩
  have hpre := z_pre (as := .ref q :: as) C hS hR hgas
  rw [List.map_cons, zv_ref ρ (hR.ne0 hq)] at hpre
  have est : (as.reverse ++ .ref q :: st).map (zv ρ) = (as.map (zv ρ)).reverse ++ .ref (ρ q) :: st.map (zv ρ) := by
    rw [List.map_append, List.map_cons, List.map_reverse, zv_ref ρ (hR.ne0 hq)]
  rw [est]
  have hin : ∀ w ∈ ([.instanceMethod Y.1, .initialized Y.1.cls, .code Y.1 Y.2.1 Y.2.2.1 Y.2.2.2] : List Cond), w.before args s = true := fun w h9 => hts w (hw5 w h9)
  have hg2 : GoodIn zgood (zws Y) := z_goodIn (ws := [.code Y.1 Y.2.1 Y.2.2.1 Y.2.2.2]) (fun w h9 => hw5 w (by simp at h9 ⊢; exact Or.inr (Or.inr h9))) rfl
  have hcb := callB_of (R := R) (s := s) (args := args) (own := M.1.cls) (index := idx) (y := Y.1) (bytes := Y.2.1) (maxL := Y.2.2.1) (ret := Y.2.2.2) (ws := zws Y) (rm := zroom d' b') (mc := b') (ms := b') n hts hg2 (ws' := zgood) rfl rfl rfl (hin _ (by simp)) (hts _ hw) hdY ⟨by show d' + 1 ≤ _; omega, by show 8 + (Y.2.2.1 + 11) + 40 * d' ≤ _; omega⟩
  rw [hret] at hcb
  exact z_after C hS hR hx hgst h1 h2 hl hb (vx_runI (Ts := zgood) (own := M.1.cls) (n := n) (As := as.map (zv ρ)) (b := ρ q) ⟨C.1, C.2.1, C.2.2.1, C.2.2.2.2.2.1, hts⟩ (hm ρ)
    ⟨hcb, hnm, hin _ (by simp)⟩ ⟨zPc_blind, hpre⟩ rfl (by rw [List.length_map]; exact hn) hl.1 rfl (z_sum8 hst) hd ⟨by omega, by omega⟩) kk kx
/-- a private constructor of a nest mate -/
theorem z_callN {idx q n : Nat} {host : String} (hm : zMet E l Y d' b' (.ref q :: as) G Qz) (hd : decode M.2.1 pc = .ok (.invokespecial idx, 3)) (hw : Cond.methodLinkNest M.1.cls idx Y.1 host ∈ znest) (hY : zcI Y n) (hn : as.length = n) (hp : pc + 3 = pc') (hq : zal G q) (hdd : d' + 1 ≤ d) (hb : b' ≤ k) (hst : (st.map fun v => v.category).sum ≤ 8)
    (kk : ∀ r G', Qz (.inl r) G' → zW E l M d b G0 Q (k - b') pc' ls (r.toList ++ st) G') (kx : ∀ X G', Qz (.inr X) G' → Q (.inr X) G') : zW E l M d b G0 Q k pc ls (as.reverse ++ .ref q :: st) G := by
  subst hp
  intro p e R s m args below meth c H locs cells slots ρ0 ρ la C hS hR hx hg h1 h2 hl
  have hts := C.2.2.2.2.2.2.1
  have hdf : d ≤ R.frames := C.2.2.2.2.2.2.2.2.2.1
  have hdl : 40 * d ≤ R.locals := C.2.2.2.2.2.2.2.2.2.2.1
  have hbc : b ≤ R.cells := C.2.2.2.2.2.2.2.2.2.2.2.1
  have hbs : b ≤ R.slots := C.2.2.2.2.2.2.2.2.2.2.2.2.1
  have hZ : ZS E s s.heap := C.2.2.2.2.2.2.2.2.2.2.2.2.2.2.2
  obtain ⟨hw5, hdY, hmY, hnm, hret⟩ := hY
  have hgas : ∀ v ∈ (.ref q :: as : List Value), zgd G v := fun v hv => by
    rcases List.mem_cons.mp hv with rfl | h
    · exact Or.inr (Or.inl hq)
    · exact hg.2 v (List.mem_append_left _ (List.mem_reverse.mpr h))
  have hgst : zLg G ls st := ⟨hg.1, fun v hv => hg.2 v (List.mem_append_right _ (List.mem_cons_of_mem _ hv))⟩
  have hpre := z_pre (as := .ref q :: as) C hS hR hgas
  rw [List.map_cons, zv_ref ρ (hR.ne0 hq)] at hpre
  have est : (as.reverse ++ .ref q :: st).map (zv ρ) = (as.map (zv ρ)).reverse ++ .ref (ρ q) :: st.map (zv ρ) := by
    rw [List.map_append, List.map_cons, List.map_reverse, zv_ref ρ (hR.ne0 hq)]
  rw [est]
  have hin : ∀ w ∈ ([.instanceMethod Y.1, .initialized Y.1.cls, .code Y.1 Y.2.1 Y.2.2.1 Y.2.2.2] : List Cond), w.before args s = true := fun w h9 => hts w (hw5 w h9)
  have hg2 : GoodIn zgood (zws Y) := z_goodIn (ws := [.code Y.1 Y.2.1 Y.2.2.1 Y.2.2.2]) (fun w h9 => hw5 w (by simp at h9 ⊢; exact Or.inr (Or.inr h9))) rfl
  have hcb := va_cnB (R := R) (s := s) (args := args) (own := M.1.cls) (host := host) (index := idx) (y := Y.1) (bytes := Y.2.1) (maxL := Y.2.2.1) (ret := Y.2.2.2) (ws := zws Y) (rm := zroom d' b') (mc := b') (ms := b') n hts hg2 (ws' := zgood) rfl rfl rfl (hZ.2.2.2.1 _ hw) (hin _ (by simp)) hdY ⟨by show d' + 1 ≤ _; omega, by show 8 + (Y.2.2.1 + 11) + 40 * d' ≤ _; omega⟩
  rw [hret] at hcb
  exact z_after C hS hR hx hgst h1 h2 hl hb (vx_runIN (Ts := zgood) (own := M.1.cls) (n := n) (As := as.map (zv ρ)) (b := ρ q) ⟨C.1, C.2.1, C.2.2.1, C.2.2.2.2.2.1, hts⟩ (hm ρ)
    ⟨hcb, hnm, hin _ (by simp)⟩ ⟨zPc_blind, hpre⟩ rfl (by rw [List.length_map]; exact hn) hl.1 rfl (z_sum8 hst) hd ⟨by omega, by omega⟩) kk kx
/-- 'throw new X()' -/
theorem z_throw {ik ic : Nat} {X : String} {names : List String} (htr : l.stackTraces = false) (d0 : decode M.2.1 pc = .ok (.new ik, 3)) (d3 : decode M.2.1 (pc + 3) = .ok (.dup, 1)) (d4 : decode M.2.1 (pc + 4) = .ok (.invokespecial ic, 3)) (d7 : decode M.2.1 (pc + 7) = .ok (.athrow, 1))
    (hcls : Bundle.fit X = true) (hnames : ∀ n ∈ names, Bundle.fit n = true) (hw1 : Cond.classLink M.1.cls ik X ∈ zgood) (hw2 : Cond.initialized X ∈ zgood) (hd9 : names.length + 4 ≤ d) (hn9 : names.length ≤ 4) (hst : (st.map fun v => v.category).sum ≤ 8) (hbig : 7 ≤ k)
    (hgd : ∀ w ∈ vx_at0 M.1.cls ic X names, w ∈ zgood ∨ w ∈ zcast) (hQ : Q (.inr X) G) : zW E l M d b G0 Q k pc ls st G := by
  intro p e R s m args below meth c H locs cells slots ρ0 ρ la C hS hR hx hg h1 h2 hl
  have hts := C.2.2.2.2.2.2.1
  have hdf : d ≤ R.frames := C.2.2.2.2.2.2.2.2.2.1
  have hdl : 40 * d ≤ R.locals := C.2.2.2.2.2.2.2.2.2.2.1
  have hbc : b ≤ R.cells := C.2.2.2.2.2.2.2.2.2.2.2.1
  have hbs : b ≤ R.slots := C.2.2.2.2.2.2.2.2.2.2.2.2.1
  have hZ : ZS E s s.heap := C.2.2.2.2.2.2.2.2.2.2.2.2.2.2.2
  have hsum : (((st.map (zv ρ)).map fun v => v.category).sum) = (st.map fun v => v.category).sum := by
    rw [List.map_map]
    congr 1
    exact List.map_congr_left (fun v _ => zv_cat ρ v)
  have hcs : ∀ w ∈ zcast, w.before args s = true := fun w h => va_Nw.use (zcast_on h) (hZ.2.2.2.2.2.2.2.2.2.1 _ h)
  refine vx_throw0 (own := M.1.cls) (cls := X) (names := names) (ik := ik) (ic := ic) (A := zA E) C.1 C.2.1 htr C.2.2.2.2.2.1 hcls hnames (hts _ hw1) (hts _ hw2) (fun w hw => (hgd w hw).elim (fun h => hts w h) (fun h => hcs w h)) (fun w hw => ?_) hZ.1 hZ.2.1 hS (by rw [C.2.2.1]; exact hl.1) d0 d3 d4 d7
    (fun x hx9 => (C.2.2.2.2.2.2.2.2.1 x hx9).elim) (by omega) (by rw [hsum]; omega) (by omega) (by omega) C.2.2.2.2.1 (fun t hal hz hk => ?_) hS.2.2 (by omega) (by omega)
  · rcases List.mem_cons.mp hw with rfl | hw
    · simp only [vx_ot, Bool.or_eq_true]; exact Or.inr (List.mem_filter.mp hw1).2
    · rcases List.mem_cons.mp hw with rfl | hw
      · simp only [vx_ot, Bool.or_eq_true]; exact Or.inr (List.mem_filter.mp hw2).2
      · rcases hgd w hw with h | h
        · simp only [vx_ot, Bool.or_eq_true]; exact Or.inr (List.mem_filter.mp h).2
        · simp only [vx_ot, Bool.or_eq_true]; exact Or.inl (zcast_on h)
  · have hR' : ZR E t ρ G t.heap := (hR.keep hz hk).moved hal
    exact ⟨⟨G, ρ, hQ, hR', hx⟩, Nat.le_trans hS.1 hz, fun a ha1 ha2 => (hk a (Nat.lt_of_lt_of_le ha1 hS.1)).trans (hS.2.1 a ha1 ha2)⟩
end ZCallsI
