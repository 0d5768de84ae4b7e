/-! THE REFERENCE: its object is zp 416 0; its numbers are S tag place (416: its int fields; 1100 + field: int arrays; 1600 + field: the tape; 2100 + field: boolean arrays) -/
abbrev ZS9 : Type := Nat → Nat → Int32
def zrr (q : Nat) : Bool := q == 416 || (Nat.ble 1100 q && Nat.ble q 1199) || q == 1602 || (Nat.ble 2100 q && Nat.ble q 2199)
def zput (G : ZG) (S : ZS9) : ZG := (G.1, G.2.1, fun q j => if zrr q = true then S q j else G.2.2.1 q j, G.2.2.2)
def zup (S : ZS9) (t k : Nat) (x : Int32) : ZS9 := fun a j => if a = t ∧ j = k then x else S a j
theorem zup_at (S : ZS9) (t k : Nat) (x : Int32) (a j : Nat) : zup S t k x a j = if a = t ∧ j = k then x else S a j := rfl
def rtab : List (Nat × Nat × Nat × Nat) := [(2, 1602, 1, 400), (9, 1109, 0, 5), (10, 1110, 0, 13), (11, 1111, 0, 13), (12, 1112, 0, 208), (13, 1113, 0, 208), (14, 1114, 0, 208), (15, 1115, 0, 208), (16, 1116, 0, 5200), (17, 1117, 0, 5200), (18, 1118, 0, 5200), (21, 1121, 0, 9), (22, 2122, 2, 400), (29, 1129, 0, 80), (30, 2130, 2, 80), (31, 1131, 0, 400), (32, 1132, 0, 1920), (33, 2133, 2, 80), (35, 1135, 0, 6400), (36, 1136, 0, 48), (46, 1146, 0, 4), (47, 1147, 0, 20), (48, 1148, 0, 20), (49, 1149, 0, 20), (50, 1150, 0, 20), (51, 1151, 0, 20), (53, 1153, 0, 120), (54, 1154, 0, 120), (55, 1155, 0, 120), (56, 1156, 0, 120), (57, 1157, 0, 120), (58, 2158, 2, 120), (59, 1159, 0, 120), (60, 1160, 0, 120), (61, 1161, 0, 120), (62, 1162, 0, 120), (63, 2163, 2, 120), (64, 1164, 0, 120), (65, 1165, 0, 840), (67, 1167, 0, 150), (68, 1168, 0, 150), (69, 1169, 0, 150), (70, 1170, 0, 150), (77, 1177, 0, 120), (79, 1179, 0, 840), (80, 1180, 0, 150), (81, 1181, 0, 120), (82, 1182, 0, 120)]
theorem zp_0 (t : Nat) : zp t 0 = t := by unfold zp; omega
theorem zput_cn (G : ZG) (S : ZS9) : zcn (zput G S) = zcn G := rfl
theorem zput_ln (G : ZG) (S : ZS9) : zln (zput G S) = zln G := rfl
theorem zput_rv (G : ZG) (S : ZS9) : zrv (zput G S) = zrv G := rfl
theorem zput_iv {G : ZG} {S : ZS9} {t : Nat} (h : zrr t = true) (j : Nat) : ziv (zput G S) (zp t 0) j = S t j := by
  rw [zp_0]
  exact if_pos h
theorem zput_no {G : ZG} {S : ZS9} {q : Nat} (h : zrr q = false) (j : Nat) : ziv (zput G S) q j = ziv G q j := if_neg (by rw [h]; decide)
theorem zput_si {G : ZG} {S : ZS9} {t : Nat} (h : zrr t = true) (k : Nat) (x : Int32) : zsi (zput G S) (zp t 0) k x = zput G (zup S t k x) := by
  rw [zp_0]
  unfold zsi zput zup
  congr 3
  funext a j
  by_cases h1 : a = t ∧ j = k
  · rw [if_pos h1, h1.1, if_pos h, if_pos ⟨rfl, h1.2⟩]
  · rw [if_neg h1, if_neg h1]
theorem zput_put (G : ZG) (S S' : ZS9) : zput (zput G S) S' = zput G S' := by
  unfold zput
  congr 3
  funext a j
  by_cases h : zrr a = true
  · rw [if_pos h, if_pos h]
  · rw [if_neg h, if_neg h]; exact if_neg h
theorem zput_id (G : ZG) : zput G (ziv G) = G := by
  obtain ⟨g1, g2, g3, g4⟩ := G
  unfold zput
  congr 3
  funext a j
  exact ite_self _
theorem zput_ob {G : ZG} {S : ZS9} {q c : Nat} : zob (zput G S) q c ↔ zob G q c := Iff.rfl
theorem zput_ar {G : ZG} {S : ZS9} {q c : Nat} : zar (zput G S) q c ↔ zar G q c := Iff.rfl
def RK (G : ZG) : Prop := zob G (zp 416 0) 13 ∧ (∀ x ∈ rtab, zrv G (zp 416 0) x.1 = zp x.2.1 0 ∧ zar G (zp x.2.1 0) x.2.2.1 ∧ zln G (zp x.2.1 0) = x.2.2.2) ∧ ∀ n, n < 32 → zstr G n
theorem zput_str {G : ZG} {S : ZS9} {n : Nat} (hn : n < 32) (h : zstr G n) : zstr (zput G S) n := by
  refine ⟨h.1, h.2.1, fun j hj => ?_⟩
  rw [zput_no]
  · exact h.2.2 j hj
  · rw [zp_0]
    exact (by decide +kernel : ∀ n, n < 32 → zrr (3840 + n) = false) n hn
theorem RK.put {G : ZG} {S : ZS9} (h : RK G) : RK (zput G S) := ⟨h.1, h.2.1, fun n hn => zput_str hn (h.2.2 n hn)⟩
def rQ (G : ZG) (Q : Option Value → ZS9 → Prop) : ZQ := fun r G' => ∃ v S', r = .inl v ∧ G' = zput G S' ∧ Q v S'
/-- a contract over the numbers alone -/
def rMet (E : ZE) (l : Launch) (M : ZM) (d b : Nat) (as : List Value) (S : ZS9) (Q : Option Value → ZS9 → Prop) : Prop := ∀ G, RK G → zMet E l M d b (.ref (zp 416 0) :: as) (zput G S) (rQ G Q)
def rcI (E : ZE) (l : Launch) (Y : ZM) (d : Nat) (as : List Value) (S : ZS9) (k : Nat) (K : Int32 → ZS9 → Nat → Prop) : Prop := ∃ d1 b1 Qz, rMet E l Y d1 b1 as S Qz ∧ d1 + 1 ≤ d ∧ b1 ≤ k ∧ ∀ r S', Qz r S' → ∃ x, r = some (.int x) ∧ K x S' (k - b1)
def rcV (E : ZE) (l : Launch) (Y : ZM) (d : Nat) (as : List Value) (S : ZS9) (k : Nat) (K : ZS9 → Nat → Prop) : Prop := ∃ d1 b1 Qz, rMet E l Y d1 b1 as S Qz ∧ d1 + 1 ≤ d ∧ b1 ≤ k ∧ ∀ r S', Qz r S' → r = none ∧ K S' (k - b1)
def scI (E : ZE) (l : Launch) (Y : ZM) (d : Nat) (as : List Value) (K : Int32 → Prop) : Prop := ∃ d1 x, (∀ G, zMet E l Y d1 0 as G (zI x G)) ∧ d1 + 1 ≤ d ∧ K x
def scR (E : ZE) (l : Launch) (Y : ZM) (d : Nat) (as : List Value) (K : Nat → Prop) : Prop := ∃ d1 x, (∀ G, zMet E l Y d1 0 as G (zRf x G)) ∧ d1 + 1 ≤ d ∧ K x
def rI (x : Int32) (S : ZS9) : Option Value → ZS9 → Prop := fun r S' => r = some (.int x) ∧ S' = S
def rV (S : ZS9) : Option Value → ZS9 → Prop := fun r S' => r = none ∧ S' = S
section ZRef
variable {E : ZE} {l : Launch} {M Y : ZM} {d b d1 b1 k pc pc' : Nat} {A G : ZG} {Q : ZQ} {ls : List (Option Value)} {st as : List Value} {S : ZS9}
theorem rcI_of {K : Int32 → ZS9 → Nat → Prop} {x : Int32} {S1 : ZS9} (hm : rMet E l Y d1 b1 as S (rI x S1)) (hd : d1 + 1 ≤ d) (hb : b1 ≤ k) (hk : K x S1 (k - b1)) : rcI E l Y d as S k K := ⟨d1, b1, _, hm, hd, hb, fun r S' h => by obtain ⟨h1, h2⟩ := h; subst h2; exact ⟨x, h1, hk⟩⟩
theorem rcV_of {K : ZS9 → Nat → Prop} {S1 : ZS9} (hm : rMet E l Y d1 b1 as S (rV S1)) (hd : d1 + 1 ≤ d) (hb : b1 ≤ k) (hk : K S1 (k - b1)) : rcV E l Y d as S k K := ⟨d1, b1, _, hm, hd, hb, fun r S' h => by obtain ⟨h1, h2⟩ := h; subst h2; exact ⟨h1, hk⟩⟩
theorem r_meth (hy : plainName M.1.cls = true) (hn : (as.length + 1) ≤ M.2.2.1) (hc : ∀ v ∈ as, v.category = 1) {QS : Option Value → ZS9 → Prop} (body : ∀ G, RK G → zW E l M d b (zput G S) (rQ G QS) b 0 (zarg (.ref (zp 416 0) :: as) M.2.2.1) [] (zput G S)) : rMet E l M d b as S QS := fun G hK => z_meth hy hn (fun v hv => by
  rcases List.mem_cons.mp hv with rfl | h
  · rfl
  · exact hc v h) (body G hK)
theorem r_st {S1 : ZS9} (h : S1 = S) (kk : zW E l M d b A Q k pc ls st (zput G S1)) : zW E l M d b A Q k pc ls st (zput G S) := h ▸ kk
theorem r_getI {idx kf : Nat} (hK : RK G) (hd : decode M.2.1 pc = .ok (.getfield idx, 3)) (hw : Cond.fieldLink M.1.cls idx RX12 (zT 13 kf).2.1 (zT 13 kf).2.2.1 ∈ zgood) (hs : RX12 = (zT 13 kf).1) (hk : kf < zN 13) (ht : zref (zty 13 kf) = false) (hp : pc + 3 = pc') (kk : zW E l M d b A Q k pc' ls (.int (S 416 kf) :: st) (zput G S)) : zW E l M d b A Q k pc ls (.ref (zp 416 0) :: st) (zput G S) :=
  z_getI (ci := 13) hd hw (Or.inl hs) (by decide) hk ht hp (zput_ob.mpr hK.1) (by rw [zput_iv rfl]; exact kk)
theorem r_getA {idx kf tag kd len : Nat} (hK : RK G) (hx : (kf, tag, kd, len) ∈ rtab) (hd : decode M.2.1 pc = .ok (.getfield idx, 3)) (hw : Cond.fieldLink M.1.cls idx RX12 (zT 13 kf).2.1 (zT 13 kf).2.2.1 ∈ zgood) (hs : RX12 = (zT 13 kf).1) (hk : kf < zN 13) (ht : zref (zty 13 kf) = true) (hp : pc + 3 = pc') (kk : zW E l M d b A Q k pc' ls (.ref (zp tag 0) :: st) (zput G S)) : zW E l M d b A Q k pc ls (.ref (zp 416 0) :: st) (zput G S) :=
  z_getR (ci := 13) hd hw (Or.inl hs) (by decide) hk ht hp (zput_ob.mpr hK.1) (by rw [zput_rv, (hK.2.1 _ hx).1]; exact kk)
theorem r_putI {idx kf : Nat} {x : Int32} (hK : RK G) (hd : decode M.2.1 pc = .ok (.putfield idx, 3)) (hw : Cond.fieldLink M.1.cls idx RX12 (zT 13 kf).2.1 (zT 13 kf).2.2.1 ∈ zgood) (hs : RX12 = (zT 13 kf).1) (hk : kf < zN 13) (ht : zref (zty 13 kf) = false) (hf : (zT 13 kf).2.2.2 = false) (hp : pc + 3 = pc') (hok : zok (zty 13 kf) x) (kk : zW E l M d b A Q k pc' ls st (zput G (zup S 416 kf x))) : zW E l M d b A Q k pc ls (.int x :: .ref (zp 416 0) :: st) (zput G S) :=
  z_putI (ci := 13) hd hw (Or.inl hs) (by decide) hk ht (Or.inl hf) hp (zput_ob.mpr hK.1) hok (by rw [zput_si rfl]; exact kk)
theorem r_iald {kf tag len : Nat} {i : Int32} (hK : RK G) (hx : (kf, tag, 0, len) ∈ rtab) (hz : zrr tag = true) (hd : decode M.2.1 pc = .ok (.iaload, 1)) (hp : pc + 1 = pc') (hi : vp_in i len) (kk : zW E l M d b A Q k pc' ls (.int (S tag i.toNatClampNeg) :: st) (zput G S)) : zW E l M d b A Q k pc ls (.int i :: .ref (zp tag 0) :: st) (zput G S) :=
  z_iald hd hp (Or.inl (zput_ar.mpr (hK.2.1 _ hx).2.1)) (by rw [zput_ln, (hK.2.1 _ hx).2.2]; exact hi) (by rw [zput_iv hz]; exact kk)
theorem r_bald {kf tag len : Nat} {i : Int32} (hK : RK G) (hx : (kf, tag, 1, len) ∈ rtab) (hz : zrr tag = true) (hd : decode M.2.1 pc = .ok (.baload, 1)) (hp : pc + 1 = pc') (hi : vp_in i len) (kk : zW E l M d b A Q k pc' ls (.int (S tag i.toNatClampNeg) :: st) (zput G S)) : zW E l M d b A Q k pc ls (.int i :: .ref (zp tag 0) :: st) (zput G S) :=
  z_bald hd hp (Or.inl (zput_ar.mpr (hK.2.1 _ hx).2.1)) (by rw [zput_ln, (hK.2.1 _ hx).2.2]; exact hi) (by rw [zput_iv hz]; exact kk)
theorem r_zald {kf tag len : Nat} {i : Int32} (hK : RK G) (hx : (kf, tag, 2, len) ∈ rtab) (hz : zrr tag = true) (hd : decode M.2.1 pc = .ok (.baload, 1)) (hp : pc + 1 = pc') (hi : vp_in i len) (kk : zW E l M d b A Q k pc' ls (.int (S tag i.toNatClampNeg) :: st) (zput G S)) : zW E l M d b A Q k pc ls (.int i :: .ref (zp tag 0) :: st) (zput G S) :=
  z_zald hd hp (zput_ar.mpr (hK.2.1 _ hx).2.1) (by rw [zput_ln, (hK.2.1 _ hx).2.2]; exact hi) (by rw [zput_iv hz]; exact kk)
theorem r_iast {kf tag len : Nat} {i x : Int32} (hK : RK G) (hx : (kf, tag, 0, len) ∈ rtab) (hz : zrr tag = true) (hd : decode M.2.1 pc = .ok (.iastore, 1)) (hp : pc + 1 = pc') (hi : vp_in i len) (kk : zW E l M d b A Q k pc' ls st (zput G (zup S tag i.toNatClampNeg x))) : zW E l M d b A Q k pc ls (.int x :: .int i :: .ref (zp tag 0) :: st) (zput G S) :=
  z_iast hd hp (zput_ar.mpr (hK.2.1 _ hx).2.1) (by rw [zput_ln, (hK.2.1 _ hx).2.2]; exact hi) (by rw [zput_si hz]; exact kk)
theorem r_bast {kf tag len : Nat} {i x : Int32} (hK : RK G) (hx : (kf, tag, 1, len) ∈ rtab) (hz : zrr tag = true) (hd : decode M.2.1 pc = .ok (.bastore, 1)) (hp : pc + 1 = pc') (hi : vp_in i len) (kk : zW E l M d b A Q k pc' ls st (zput G (zup S tag i.toNatClampNeg x.toInt8.toInt32))) : zW E l M d b A Q k pc ls (.int x :: .int i :: .ref (zp tag 0) :: st) (zput G S) :=
  z_bast hd hp (zput_ar.mpr (hK.2.1 _ hx).2.1) (by rw [zput_ln, (hK.2.1 _ hx).2.2]; exact hi) (by rw [zput_si hz]; exact kk)
theorem r_zast {kf tag len : Nat} {i x : Int32} (hK : RK G) (hx : (kf, tag, 2, len) ∈ rtab) (hz : zrr tag = true) (hd : decode M.2.1 pc = .ok (.bastore, 1)) (hp : pc + 1 = pc') (hi : vp_in i len) (hok : zok .boolean x) (kk : zW E l M d b A Q k pc' ls st (zput G (zup S tag i.toNatClampNeg x))) : zW E l M d b A Q k pc ls (.int x :: .int i :: .ref (zp tag 0) :: st) (zput G S) :=
  z_zast hd hp (zput_ar.mpr (hK.2.1 _ hx).2.1) (by rw [zput_ln, (hK.2.1 _ hx).2.2]; exact hi) hok (by rw [zput_si hz]; exact kk)
theorem r_callI {idx n : Nat} {K : Int32 → ZS9 → Nat → Prop} (h : rcI E l Y d as S k K) (hK : RK G) (hd : decode M.2.1 pc = .ok (.invokevirtual idx, 3)) (hw : Cond.methodLink M.1.cls idx Y.1 ∈ zgood) (hY : zcV Y n) (hn : as.length = n) (hp : pc + 3 = pc') (hC : Y.1.cls = zC 13) (hst : (st.map fun v => v.category).sum ≤ 8)
    (kk : ∀ x S' k', K x S' k' → zW E l M d b A Q k' pc' ls (.int x :: st) (zput G S')) : zW E l M d b A Q k pc ls (as.reverse ++ .ref (zp 416 0) :: st) (zput G S) := by
  obtain ⟨d1, b1, Qz, hm, hdd, hb, hk⟩ := h
  refine z_callV (ci := 13) (hm G hK) hd hw hY hn hp (by decide) hC (zput_ob.mpr hK.1) hdd hb hst (fun r G' hz => ?_) (fun X G' hz => ?_)
  · obtain ⟨v, S', h1, h2, h3⟩ := hz
    cases h1
    obtain ⟨x, rfl, h5⟩ := hk _ _ h3
    subst h2
    exact kk x S' _ h5
  · obtain ⟨v, S', h1, h2, h3⟩ := hz
    cases h1
theorem r_callV {idx n : Nat} {K : ZS9 → Nat → Prop} (h : rcV E l Y d as S k K) (hK : RK G) (hd : decode M.2.1 pc = .ok (.invokevirtual idx, 3)) (hw : Cond.methodLink M.1.cls idx Y.1 ∈ zgood) (hY : zcV Y n) (hn : as.length = n) (hp : pc + 3 = pc') (hC : Y.1.cls = zC 13) (hst : (st.map fun v => v.category).sum ≤ 8)
    (kk : ∀ S' k', K S' k' → zW E l M d b A Q k' pc' ls st (zput G S')) : zW E l M d b A Q k pc ls (as.reverse ++ .ref (zp 416 0) :: st) (zput G S) := by
  obtain ⟨d1, b1, Qz, hm, hdd, hb, hk⟩ := h
  refine z_callV (ci := 13) (hm G hK) hd hw hY hn hp (by decide) hC (zput_ob.mpr hK.1) hdd hb hst (fun r G' hz => ?_) (fun X G' hz => ?_)
  · obtain ⟨v, S', h1, h2, h3⟩ := hz
    cases h1
    obtain ⟨rfl, h5⟩ := hk _ _ h3
    subst h2
    exact kk S' _ h5
  · obtain ⟨v, S', h1, h2, h3⟩ := hz
    cases h1
theorem r_callSI {idx n : Nat} {K : Int32 → Prop} (h : scI E l Y d as K) (hd : decode M.2.1 pc = .ok (.invokestatic idx, 3)) (hw : Cond.methodLink M.1.cls idx Y.1 ∈ zgood) (hY : zcS Y n) (hn : as.length = n) (hp : pc + 3 = pc') (hst : (st.map fun v => v.category).sum ≤ 8)
    (kk : ∀ x, K x → zW E l M d b A Q k pc' ls (.int x :: st) G) : zW E l M d b A Q k pc ls (as.reverse ++ st) G := by
  obtain ⟨d1, x, hm, hdd, hk⟩ := h
  refine z_callS (b' := 0) (hm G) hd hw hY hn hp hdd (Nat.zero_le _) hst (fun r G' hz => ?_) (fun X G' hz => nomatch hz.1)
  obtain ⟨h1, h2⟩ := hz
  cases h1
  subst h2
  exact kk x hk
theorem r_callSR {idx n : Nat} {K : Nat → Prop} (h : scR E l Y d as K) (hd : decode M.2.1 pc = .ok (.invokestatic idx, 3)) (hw : Cond.methodLink M.1.cls idx Y.1 ∈ zgood) (hY : zcS Y n) (hn : as.length = n) (hp : pc + 3 = pc') (hst : (st.map fun v => v.category).sum ≤ 8)
    (kk : ∀ x, K x → zW E l M d b A Q k pc' ls (.ref x :: st) G) : zW E l M d b A Q k pc ls (as.reverse ++ st) G := by
  obtain ⟨d1, x, hm, hdd, hk⟩ := h
  refine z_callS (b' := 0) (hm G) hd hw hY hn hp hdd (Nat.zero_le _) hst (fun r G' hz => ?_) (fun X G' hz => nomatch hz.1)
  obtain ⟨h1, h2⟩ := hz
  cases h1
  subst h2
  exact kk x hk
end ZRef
theorem rt_2 : (2, 1602, 1, 400) ∈ rtab := by decide
theorem rt_9 : (9, 1109, 0, 5) ∈ rtab := by decide
theorem rt_10 : (10, 1110, 0, 13) ∈ rtab := by decide
theorem rt_11 : (11, 1111, 0, 13) ∈ rtab := by decide
theorem rt_12 : (12, 1112, 0, 208) ∈ rtab := by decide
theorem rt_13 : (13, 1113, 0, 208) ∈ rtab := by decide
theorem rt_14 : (14, 1114, 0, 208) ∈ rtab := by decide
theorem rt_15 : (15, 1115, 0, 208) ∈ rtab := by decide
theorem rt_16 : (16, 1116, 0, 5200) ∈ rtab := by decide
theorem rt_17 : (17, 1117, 0, 5200) ∈ rtab := by decide
theorem rt_18 : (18, 1118, 0, 5200) ∈ rtab := by decide
theorem rt_21 : (21, 1121, 0, 9) ∈ rtab := by decide
theorem rt_22 : (22, 2122, 2, 400) ∈ rtab := by decide
theorem rt_29 : (29, 1129, 0, 80) ∈ rtab := by decide
theorem rt_30 : (30, 2130, 2, 80) ∈ rtab := by decide
theorem rt_31 : (31, 1131, 0, 400) ∈ rtab := by decide
theorem rt_32 : (32, 1132, 0, 1920) ∈ rtab := by decide
theorem rt_33 : (33, 2133, 2, 80) ∈ rtab := by decide
theorem rt_35 : (35, 1135, 0, 6400) ∈ rtab := by decide
theorem rt_36 : (36, 1136, 0, 48) ∈ rtab := by decide
theorem rt_46 : (46, 1146, 0, 4) ∈ rtab := by decide
theorem rt_47 : (47, 1147, 0, 20) ∈ rtab := by decide
theorem rt_48 : (48, 1148, 0, 20) ∈ rtab := by decide
theorem rt_49 : (49, 1149, 0, 20) ∈ rtab := by decide
theorem rt_50 : (50, 1150, 0, 20) ∈ rtab := by decide
theorem rt_51 : (51, 1151, 0, 20) ∈ rtab := by decide
theorem rt_53 : (53, 1153, 0, 120) ∈ rtab := by decide
theorem rt_54 : (54, 1154, 0, 120) ∈ rtab := by decide
theorem rt_55 : (55, 1155, 0, 120) ∈ rtab := by decide
theorem rt_56 : (56, 1156, 0, 120) ∈ rtab := by decide
theorem rt_57 : (57, 1157, 0, 120) ∈ rtab := by decide
theorem rt_58 : (58, 2158, 2, 120) ∈ rtab := by decide
theorem rt_59 : (59, 1159, 0, 120) ∈ rtab := by decide
theorem rt_60 : (60, 1160, 0, 120) ∈ rtab := by decide
theorem rt_61 : (61, 1161, 0, 120) ∈ rtab := by decide
theorem rt_62 : (62, 1162, 0, 120) ∈ rtab := by decide
theorem rt_63 : (63, 2163, 2, 120) ∈ rtab := by decide
theorem rt_64 : (64, 1164, 0, 120) ∈ rtab := by decide
theorem rt_65 : (65, 1165, 0, 840) ∈ rtab := by decide
theorem rt_67 : (67, 1167, 0, 150) ∈ rtab := by decide
theorem rt_68 : (68, 1168, 0, 150) ∈ rtab := by decide
theorem rt_69 : (69, 1169, 0, 150) ∈ rtab := by decide
theorem rt_70 : (70, 1170, 0, 150) ∈ rtab := by decide
theorem rt_77 : (77, 1177, 0, 120) ∈ rtab := by decide
theorem rt_79 : (79, 1179, 0, 840) ∈ rtab := by decide
theorem rt_80 : (80, 1180, 0, 150) ∈ rtab := by decide
theorem rt_81 : (81, 1181, 0, 120) ∈ rtab := by decide
theorem rt_82 : (82, 1182, 0, 120) ∈ rtab := by decide
