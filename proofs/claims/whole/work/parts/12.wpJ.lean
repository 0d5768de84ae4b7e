/-! what the library's methods come to -/
def wp_J9_floorDiv_7cf53_0 (E : ZE) (l : Launch) (d b : Nat) (G0 : ZG) (Q : ZQ) (k : Nat) (x0 : Int32) (x1 : Int32) (G : ZG) : Prop :=
  ¬ x1 = 0 ∧
  ((0 ≤ (x0 ^^^ x1) →
    Q (.inl (some (.int (x0 / x1)))) G) ∧
  (¬ (0 ≤ (x0 ^^^ x1)) →
    ((((x0 / x1) * x1) = x0 →
      Q (.inl (some (.int (x0 / x1)))) G) ∧
    (¬ (((x0 / x1) * x1) = x0) →
      Q (.inl (some (.int ((x0 / x1) - 1)))) G))))
theorem wpt_J9_floorDiv_7cf53_0 {E : ZE} {l : Launch} {d b : Nat} {G0 : ZG} {Q : ZQ} {k : Nat} {x0 : Int32} {x1 : Int32} {G : ZG} (h : wp_J9_floorDiv_7cf53_0 E l d b G0 Q k x0 x1 G) : zW E l mJ9_floorDiv_7cf53 d b G0 Q k 0 [some (.int x0), some (.int x1), none] [] G := by
  unfold wp_J9_floorDiv_7cf53_0 at h
  refine z_iload_n (pc' := 1) dJ9_floorDiv_7cf53_0 rfl rfl ?_
  refine z_iload_n (pc' := 2) dJ9_floorDiv_7cf53_1 rfl rfl ?_
  obtain ⟨h1, h⟩ := h
  refine z_idiv (pc' := 3) dJ9_floorDiv_7cf53_2 h1 rfl rfl ?_
  refine z_istore_n (pc' := 4) dJ9_floorDiv_7cf53_3 (by decide) rfl ?_
  refine z_iload_n (pc' := 5) dJ9_floorDiv_7cf53_4 rfl rfl ?_
  refine z_iload_n (pc' := 6) dJ9_floorDiv_7cf53_5 rfl rfl ?_
  refine z_ixor (pc' := 7) dJ9_floorDiv_7cf53_6 rfl rfl ?_
  refine z_if_ge (pt := 21) (pc' := 10) dJ9_floorDiv_7cf53_7 (by decide) rfl (fun hc => ?_) (fun hc => ?_)
  · have h := h.1 hc
    refine z_iload_n (pc' := 22) dJ9_floorDiv_7cf53_21 rfl rfl ?_
    exact z_iret dJ9_floorDiv_7cf53_22 rfl h
  · have h := h.2 hc
    refine z_iload_n (pc' := 11) dJ9_floorDiv_7cf53_10 rfl rfl ?_
    refine z_iload_n (pc' := 12) dJ9_floorDiv_7cf53_11 rfl rfl ?_
    refine z_imul (pc' := 13) dJ9_floorDiv_7cf53_12 rfl rfl ?_
    refine z_iload_n (pc' := 14) dJ9_floorDiv_7cf53_13 rfl rfl ?_
    refine z_icmp_eq (pt := 21) (pc' := 17) dJ9_floorDiv_7cf53_14 (by decide) rfl (fun hc => ?_) (fun hc => ?_)
    · have h := h.1 hc
      refine z_iload_n (pc' := 22) dJ9_floorDiv_7cf53_21 rfl rfl ?_
      exact z_iret dJ9_floorDiv_7cf53_22 rfl h
    · have h := h.2 hc
      refine z_iload_n (pc' := 18) dJ9_floorDiv_7cf53_17 rfl rfl ?_
      refine z_iconst (x := 1) (pc' := 19) dJ9_floorDiv_7cf53_18 (by decide) rfl ?_
      refine z_isub (pc' := 20) dJ9_floorDiv_7cf53_19 rfl rfl ?_
      exact z_iret dJ9_floorDiv_7cf53_20 rfl h
def wp_J9_max_7cf53_0 (E : ZE) (l : Launch) (d b : Nat) (G0 : ZG) (Q : ZQ) (k : Nat) (x0 : Int32) (x1 : Int32) (G : ZG) : Prop :=
  ((x0 < x1 →
    Q (.inl (some (.int x1))) G) ∧
  (¬ (x0 < x1) →
    Q (.inl (some (.int x0))) G))
theorem wpt_J9_max_7cf53_0 {E : ZE} {l : Launch} {d b : Nat} {G0 : ZG} {Q : ZQ} {k : Nat} {x0 : Int32} {x1 : Int32} {G : ZG} (h : wp_J9_max_7cf53_0 E l d b G0 Q k x0 x1 G) : zW E l mJ9_max_7cf53 d b G0 Q k 0 [some (.int x0), some (.int x1)] [] G := by
  unfold wp_J9_max_7cf53_0 at h
  refine z_iload_n (pc' := 1) dJ9_max_7cf53_0 rfl rfl ?_
  refine z_iload_n (pc' := 2) dJ9_max_7cf53_1 rfl rfl ?_
  refine z_icmp_lt (pt := 9) (pc' := 5) dJ9_max_7cf53_2 (by decide) rfl (fun hc => ?_) (fun hc => ?_)
  · have h := h.1 hc
    refine z_iload_n (pc' := 10) dJ9_max_7cf53_9 rfl rfl ?_
    exact z_iret dJ9_max_7cf53_10 rfl h
  · have h := h.2 hc
    refine z_iload_n (pc' := 6) dJ9_max_7cf53_5 rfl rfl ?_
    refine z_goto (pc' := 10) dJ9_max_7cf53_6 (by decide) ?_
    exact z_iret dJ9_max_7cf53_10 rfl h
def wp_J9_min_7cf53_0 (E : ZE) (l : Launch) (d b : Nat) (G0 : ZG) (Q : ZQ) (k : Nat) (x0 : Int32) (x1 : Int32) (G : ZG) : Prop :=
  ((x1 < x0 →
    Q (.inl (some (.int x1))) G) ∧
  (¬ (x1 < x0) →
    Q (.inl (some (.int x0))) G))
theorem wpt_J9_min_7cf53_0 {E : ZE} {l : Launch} {d b : Nat} {G0 : ZG} {Q : ZQ} {k : Nat} {x0 : Int32} {x1 : Int32} {G : ZG} (h : wp_J9_min_7cf53_0 E l d b G0 Q k x0 x1 G) : zW E l mJ9_min_7cf53 d b G0 Q k 0 [some (.int x0), some (.int x1)] [] G := by
  unfold wp_J9_min_7cf53_0 at h
  refine z_iload_n (pc' := 1) dJ9_min_7cf53_0 rfl rfl ?_
  refine z_iload_n (pc' := 2) dJ9_min_7cf53_1 rfl rfl ?_
  refine z_icmp_gt (pt := 9) (pc' := 5) dJ9_min_7cf53_2 (by decide) rfl (fun hc => ?_) (fun hc => ?_)
  · have h := h.1 hc
    refine z_iload_n (pc' := 10) dJ9_min_7cf53_9 rfl rfl ?_
    exact z_iret dJ9_min_7cf53_10 rfl h
  · have h := h.2 hc
    refine z_iload_n (pc' := 6) dJ9_min_7cf53_5 rfl rfl ?_
    refine z_goto (pc' := 10) dJ9_min_7cf53_6 (by decide) ?_
    exact z_iret dJ9_min_7cf53_10 rfl h
def wp_Jxa1e45_init_da8c8_0 (E : ZE) (l : Launch) (d b : Nat) (G0 : ZG) (Q : ZQ) (k : Nat) (q0 : Nat) (G : ZG) : Prop :=
  zal G q0 ∧ 1 ≤ d ∧
  Q (.inl none) G
theorem wpt_Jxa1e45_init_da8c8_0 {E : ZE} {l : Launch} {d b : Nat} {G0 : ZG} {Q : ZQ} {k : Nat} {q0 : Nat} {G : ZG} (h : wp_Jxa1e45_init_da8c8_0 E l d b G0 Q k q0 G) : zW E l mJxa1e45_init_da8c8 d b G0 Q k 0 [some (.ref q0)] [] G := by
  unfold wp_Jxa1e45_init_da8c8_0 at h
  refine z_aload_n (pc' := 1) dJxa1e45_init_da8c8_0 rfl rfl ?_
  obtain ⟨h1, h2, h⟩ := h
  refine z_objInit (pc' := 4) dJxa1e45_init_da8c8_1 kJxa1e45_1 o_inst o_code rfl h2 h1 (Nat.le_of_ble_eq_true rfl) ?_
  exact z_vret dJxa1e45_init_da8c8_4 rfl h
def wp_Jxc12de_init_da8c8_0 (E : ZE) (l : Launch) (d b : Nat) (G0 : ZG) (Q : ZQ) (k : Nat) (q0 : Nat) (G : ZG) : Prop :=
  zal G q0 ∧
  xcV E l mJxa1e45_init_da8c8 d [.ref q0] G k (fun X G9 => Q (.inr X) G9) (fun G1 k2 =>
  zob G1 q0 0 ∧
  ∀ G3, G3 = zsi G1 q0 0 0 →
  Q (.inl none) G3)
theorem wpt_Jxc12de_init_da8c8_0 {E : ZE} {l : Launch} {d b : Nat} {G0 : ZG} {Q : ZQ} {k : Nat} {q0 : Nat} {G : ZG} (h : wp_Jxc12de_init_da8c8_0 E l d b G0 Q k q0 G) : zW E l mJxc12de_init_da8c8 d b G0 Q k 0 [some (.ref q0)] [] G := by
  unfold wp_Jxc12de_init_da8c8_0 at h
  refine z_aload_n (pc' := 1) dJxc12de_init_da8c8_0 rfl rfl ?_
  obtain ⟨h1, h⟩ := h
  obtain ⟨d1, b1, Qz, hm, hdd, hb, hkx, hk⟩ := h
  refine z_callI (Y := mJxa1e45_init_da8c8) (n := 0) (as := []) (st := []) (pc' := 4) (q := q0) hm dJxc12de_init_da8c8_1 kJxc12de_1 iJxa1e45_init_da8c8 rfl rfl h1 hdd hb (Nat.le_of_ble_eq_true rfl) (fun r G1 hz => ?_) hkx
  obtain ⟨rfl, h⟩ := hk r G1 hz
  refine z_aload_n (pc' := 5) dJxc12de_init_da8c8_4 rfl rfl ?_
  refine z_iconst (x := 0) (pc' := 6) dJxc12de_init_da8c8_5 (by decide) rfl ?_
  obtain ⟨h1, h⟩ := h
  obtain ⟨G3, hG⟩ : ∃ z, z = zsi G1 q0 0 0 := ⟨_, rfl⟩
  have h := h _ hG
  refine z_putI (ci := 0) (kf := 0) (pc' := 9) dJxc12de_init_da8c8_6 kJxc12de_7 (Or.inl rfl) (by decide) (by decide) rfl (Or.inl rfl) rfl h1 (zok_int _) ?_
  refine z_st hG ?_
  exact z_vret dJxc12de_init_da8c8_9 rfl h
def wp_Jx4a65c_init_da8c8_0 (E : ZE) (l : Launch) (d b : Nat) (G0 : ZG) (Q : ZQ) (k : Nat) (q0 : Nat) (G : ZG) : Prop :=
  zal G q0 ∧
  xcV E l mJxc12de_init_da8c8 d [.ref q0] G k (fun X G9 => Q (.inr X) G9) (fun G1 k2 =>
  zob G1 q0 0 ∧
  ∀ G3, G3 = zsr G1 q0 1 (zp 4095 0) →
  Q (.inl none) G3)
theorem wpt_Jx4a65c_init_da8c8_0 {E : ZE} {l : Launch} {d b : Nat} {G0 : ZG} {Q : ZQ} {k : Nat} {q0 : Nat} {G : ZG} (h : wp_Jx4a65c_init_da8c8_0 E l d b G0 Q k q0 G) : zW E l mJx4a65c_init_da8c8 d b G0 Q k 0 [some (.ref q0)] [] G := by
  unfold wp_Jx4a65c_init_da8c8_0 at h
  refine z_aload_n (pc' := 1) dJx4a65c_init_da8c8_0 rfl rfl ?_
  obtain ⟨h1, h⟩ := h
  obtain ⟨d1, b1, Qz, hm, hdd, hb, hkx, hk⟩ := h
  refine z_callI (Y := mJxc12de_init_da8c8) (n := 0) (as := []) (st := []) (pc' := 4) (q := q0) hm dJx4a65c_init_da8c8_1 kJx4a65c_1 iJxc12de_init_da8c8 rfl rfl h1 hdd hb (Nat.le_of_ble_eq_true rfl) (fun r G1 hz => ?_) hkx
  obtain ⟨rfl, h⟩ := hk r G1 hz
  refine z_aload_n (pc' := 5) dJx4a65c_init_da8c8_4 rfl rfl ?_
  refine z_gets (x := ("java/util/ArrayList", "DEFAULTCAPACITY_EMPTY_ELEMENTDATA", "[Ljava/lang/Object;", zp 4095 0)) (pc' := 8) (by simp [zstat]) dJx4a65c_init_da8c8_5 kJx4a65c_39 rfl (by unfold zfx; decide) (by decide) ?_
  obtain ⟨h1, h⟩ := h
  obtain ⟨G3, hG⟩ : ∃ z, z = zsr G1 q0 1 (zp 4095 0) := ⟨_, rfl⟩
  have h := h _ hG
  refine z_putR (ci := 0) (kf := 1) (pc' := 11) dJx4a65c_init_da8c8_8 kJx4a65c_9 (Or.inl rfl) (by decide) (by decide) rfl (Or.inl rfl) rfl h1 ?_
  refine z_st hG ?_
  exact z_vret dJx4a65c_init_da8c8_11 rfl h
def wp_Jx4a65c_size_8abf5_0 (E : ZE) (l : Launch) (d b : Nat) (G0 : ZG) (Q : ZQ) (k : Nat) (q0 : Nat) (G : ZG) : Prop :=
  zob G q0 0 ∧
  Q (.inl (some (.int (ziv G q0 2)))) G
theorem wpt_Jx4a65c_size_8abf5_0 {E : ZE} {l : Launch} {d b : Nat} {G0 : ZG} {Q : ZQ} {k : Nat} {q0 : Nat} {G : ZG} (h : wp_Jx4a65c_size_8abf5_0 E l d b G0 Q k q0 G) : zW E l mJx4a65c_size_8abf5 d b G0 Q k 0 [some (.ref q0)] [] G := by
  unfold wp_Jx4a65c_size_8abf5_0 at h
  refine z_aload_n (pc' := 1) dJx4a65c_size_8abf5_0 rfl rfl ?_
  obtain ⟨h1, h⟩ := h
  refine z_getI (ci := 0) (kf := 2) (pc' := 4) dJx4a65c_size_8abf5_1 kJx4a65c_48 (Or.inl rfl) (by decide) (by decide) rfl rfl h1 ?_
  exact z_iret dJx4a65c_size_8abf5_4 rfl h
def wp_Jx4a65c_elementData_915e3_0 (E : ZE) (l : Launch) (d b : Nat) (G0 : ZG) (Q : ZQ) (k : Nat) (q0 : Nat) (x1 : Int32) (G : ZG) : Prop :=
  zob G q0 0 ∧
  zar G (zrv G q0 1) 4 ∧ vp_in x1 (zln G (zrv G q0 1)) ∧
  Q (.inl (some (.ref (zrv G (zrv G q0 1) x1.toNatClampNeg)))) G
theorem wpt_Jx4a65c_elementData_915e3_0 {E : ZE} {l : Launch} {d b : Nat} {G0 : ZG} {Q : ZQ} {k : Nat} {q0 : Nat} {x1 : Int32} {G : ZG} (h : wp_Jx4a65c_elementData_915e3_0 E l d b G0 Q k q0 x1 G) : zW E l mJx4a65c_elementData_915e3 d b G0 Q k 0 [some (.ref q0), some (.int x1)] [] G := by
  unfold wp_Jx4a65c_elementData_915e3_0 at h
  refine z_aload_n (pc' := 1) dJx4a65c_elementData_915e3_0 rfl rfl ?_
  obtain ⟨h1, h⟩ := h
  refine z_getR (ci := 0) (kf := 1) (pc' := 4) dJx4a65c_elementData_915e3_1 kJx4a65c_9 (Or.inl rfl) (by decide) (by decide) rfl rfl h1 ?_
  refine z_iload_n (pc' := 5) dJx4a65c_elementData_915e3_4 rfl rfl ?_
  obtain ⟨h1, h2, h⟩ := h
  refine z_aald (pc' := 6) dJx4a65c_elementData_915e3_5 rfl h1 h2 ?_
  exact z_aret dJx4a65c_elementData_915e3_6 rfl (Or.inl ⟨_, rfl⟩) h
def wp_J3_checkIndex_8e157_0 (E : ZE) (l : Launch) (d b : Nat) (G0 : ZG) (Q : ZQ) (k : Nat) (x0 : Int32) (x1 : Int32) (q2 : Nat) (G : ZG) : Prop :=
  ((x0 < 0 →
    False) ∧
  (¬ (x0 < 0) →
    ((x0 < x1 →
      Q (.inl (some (.int x0))) G) ∧
    (¬ (x0 < x1) →
      False))))
theorem wpt_J3_checkIndex_8e157_0 {E : ZE} {l : Launch} {d b : Nat} {G0 : ZG} {Q : ZQ} {k : Nat} {x0 : Int32} {x1 : Int32} {q2 : Nat} {G : ZG} (h : wp_J3_checkIndex_8e157_0 E l d b G0 Q k x0 x1 q2 G) : zW E l mJ3_checkIndex_8e157 d b G0 Q k 0 [some (.int x0), some (.int x1), some (.ref q2)] [] G := by
  unfold wp_J3_checkIndex_8e157_0 at h
  refine z_iload_n (pc' := 1) dJ3_checkIndex_8e157_0 rfl rfl ?_
  refine z_if_lt (pt := 9) (pc' := 4) dJ3_checkIndex_8e157_1 (by decide) rfl (fun hc => ?_) (fun hc => ?_)
  · have h := h.1 hc
    refine z_aload_n (pc' := 10) dJ3_checkIndex_8e157_9 rfl rfl ?_
    refine z_iload_n (pc' := 11) dJ3_checkIndex_8e157_10 rfl rfl ?_
    refine z_iload_n (pc' := 12) dJ3_checkIndex_8e157_11 rfl rfl ?_
    exact h.elim
  · have h := h.2 hc
    refine z_iload_n (pc' := 5) dJ3_checkIndex_8e157_4 rfl rfl ?_
    refine z_iload_n (pc' := 6) dJ3_checkIndex_8e157_5 rfl rfl ?_
    refine z_icmp_lt (pt := 16) (pc' := 9) dJ3_checkIndex_8e157_6 (by decide) rfl (fun hc => ?_) (fun hc => ?_)
    · have h := h.1 hc
      refine z_iload_n (pc' := 17) dJ3_checkIndex_8e157_16 rfl rfl ?_
      exact z_iret dJ3_checkIndex_8e157_17 rfl h
    · have h := h.2 hc
      refine z_aload_n (pc' := 10) dJ3_checkIndex_8e157_9 rfl rfl ?_
      refine z_iload_n (pc' := 11) dJ3_checkIndex_8e157_10 rfl rfl ?_
      refine z_iload_n (pc' := 12) dJ3_checkIndex_8e157_11 rfl rfl ?_
      exact h.elim
def wp_J15_checkIndex_7cf53_0 (E : ZE) (l : Launch) (d b : Nat) (G0 : ZG) (Q : ZQ) (k : Nat) (x0 : Int32) (x1 : Int32) (G : ZG) : Prop :=
  xcI E l mJ3_checkIndex_8e157 d [.int x0, .int x1, .ref 0] G k (fun X G9 => Q (.inr X) G9) (fun y1 G2 k3 =>
  Q (.inl (some (.int y1))) G2)
theorem wpt_J15_checkIndex_7cf53_0 {E : ZE} {l : Launch} {d b : Nat} {G0 : ZG} {Q : ZQ} {k : Nat} {x0 : Int32} {x1 : Int32} {G : ZG} (h : wp_J15_checkIndex_7cf53_0 E l d b G0 Q k x0 x1 G) : zW E l mJ15_checkIndex_7cf53 d b G0 Q k 0 [some (.int x0), some (.int x1)] [] G := by
  unfold wp_J15_checkIndex_7cf53_0 at h
  refine z_iload_n (pc' := 1) dJ15_checkIndex_7cf53_0 rfl rfl ?_
  refine z_iload_n (pc' := 2) dJ15_checkIndex_7cf53_1 rfl rfl ?_
  refine z_null (pc' := 3) dJ15_checkIndex_7cf53_2 rfl ?_
  obtain ⟨d1, b1, Qz, hm, hdd, hb, hkx, hk⟩ := h
  refine z_callS (Y := mJ3_checkIndex_8e157) (n := 3) (as := [.int x0, .int x1, .ref 0]) (st := []) (pc' := 6) hm dJ15_checkIndex_7cf53_3 kJ15_105 sJ3_checkIndex_8e157 rfl rfl hdd hb (Nat.le_of_ble_eq_true rfl) (fun r G2 hz => ?_) hkx
  obtain ⟨y1, rfl, h⟩ := hk r G2 hz
  exact z_iret dJ15_checkIndex_7cf53_6 rfl h
def wp_Jx4a65c_get_915e3_0 (E : ZE) (l : Launch) (d b : Nat) (G0 : ZG) (Q : ZQ) (k : Nat) (q0 : Nat) (x1 : Int32) (G : ZG) : Prop :=
  zob G q0 0 ∧
  xcI E l mJ15_checkIndex_7cf53 d [.int x1, .int (ziv G q0 2)] G k (fun X G9 => Q (.inr X) G9) (fun y1 G2 k3 =>
  zob G2 q0 0 ∧
  xcR E l mJx4a65c_elementData_915e3 d [.ref q0, .int x1] G2 k3 (fun X G9 => Q (.inr X) G9) (fun y4 G5 k6 =>
  Q (.inl (some (.ref y4))) G5))
theorem wpt_Jx4a65c_get_915e3_0 {E : ZE} {l : Launch} {d b : Nat} {G0 : ZG} {Q : ZQ} {k : Nat} {q0 : Nat} {x1 : Int32} {G : ZG} (h : wp_Jx4a65c_get_915e3_0 E l d b G0 Q k q0 x1 G) : zW E l mJx4a65c_get_915e3 d b G0 Q k 0 [some (.ref q0), some (.int x1)] [] G := by
  unfold wp_Jx4a65c_get_915e3_0 at h
  refine z_iload_n (pc' := 1) dJx4a65c_get_915e3_0 rfl rfl ?_
  refine z_aload_n (pc' := 2) dJx4a65c_get_915e3_1 rfl rfl ?_
  obtain ⟨h1, h⟩ := h
  refine z_getI (ci := 0) (kf := 2) (pc' := 5) dJx4a65c_get_915e3_2 kJx4a65c_48 (Or.inl rfl) (by decide) (by decide) rfl rfl h1 ?_
  obtain ⟨d1, b1, Qz, hm, hdd, hb, hkx, hk⟩ := h
  refine z_callS (Y := mJ15_checkIndex_7cf53) (n := 2) (as := [.int x1, .int (ziv G q0 2)]) (st := []) (pc' := 8) hm dJx4a65c_get_915e3_5 kJx4a65c_118 sJ15_checkIndex_7cf53 rfl rfl hdd hb (Nat.le_of_ble_eq_true rfl) (fun r G2 hz => ?_) hkx
  obtain ⟨y1, rfl, h⟩ := hk r G2 hz
  refine z_pop (pc' := 9) dJx4a65c_get_915e3_8 rfl rfl ?_
  refine z_aload_n (pc' := 10) dJx4a65c_get_915e3_9 rfl rfl ?_
  refine z_iload_n (pc' := 11) dJx4a65c_get_915e3_10 rfl rfl ?_
  obtain ⟨h1, h⟩ := h
  obtain ⟨d1, b1, Qz, hm, hdd, hb, hkx, hk⟩ := h
  refine z_callV (Y := mJx4a65c_elementData_915e3) (n := 1) (as := [.int x1]) (st := []) (pc' := 14) (ci := 0) (q := q0) hm dJx4a65c_get_915e3_11 kJx4a65c_123 vJx4a65c_elementData_915e3 rfl rfl (by decide) rfl h1 hdd hb (Nat.le_of_ble_eq_true rfl) (fun r G5 hz => ?_) hkx
  obtain ⟨y4, rfl, h⟩ := hk r G5 hz
  exact z_aret dJx4a65c_get_915e3_14 rfl (Or.inl ⟨_, rfl⟩) h
def wp_J7_copyOf_6403c_0 (E : ZE) (l : Launch) (d b : Nat) (G0 : ZG) (Q : ZQ) (k : Nat) (q0 : Nat) (x1 : Int32) (q2 : Nat) (G : ZG) : Prop :=
  zcmp G q2 (zp 1003 0) ∧
  ((¬ q2 = (zp 1003 0) →
    False) ∧
  (¬ (¬ q2 = (zp 1003 0)) →
    ¬ x1 < 0 ∧ x1.toNatClampNeg ≤ 67108864 ∧ x1.toNatClampNeg + 1 ≤ k ∧ ∃ t1, 1024 ≤ t1 ∧ t1 < 3584 ∧ (t1 - 1024) / 512 = 4 ∧
    ∀ q_2, q_2 = zp t1 (zcn G t1) → ∀ G3, G3 = znw G t1 x1.toNatClampNeg → ∀ k4, k4 = k - (x1.toNatClampNeg + 1) →
    (zar G3 q0 4 ∨ zrd G3 q0 (.object "java/lang/Object")) ∧
    xcI E l mJ9_min_7cf53 d [.int (Int32.ofNat (zln G3 q0)), .int x1] G3 k4 (fun X G9 => Q (.inr X) G9) (fun y5 G6 k7 =>
    zar G6 q0 4 ∧ zar G6 q_2 4 ∧ ¬ (0 : Int32) < 0 ∧ ¬ (0 : Int32) < 0 ∧ ¬ y5 < 0 ∧ (0 : Int32).toNatClampNeg + y5.toNatClampNeg ≤ zln G6 q0 ∧ (0 : Int32).toNatClampNeg + y5.toNatClampNeg ≤ zln G6 q_2 ∧ 2 ≤ d ∧
    (∀ i : Nat, i < y5.toNatClampNeg → zrv G6 q0 ((0 : Int32).toNatClampNeg + i) = 0 ∨ ∃ ci, ci < 14 ∧ zob G6 (zrv G6 q0 ((0 : Int32).toNatClampNeg + i)) ci ∧ Cond.castable (zC ci) "java/lang/Object" ∈ zcast) ∧
    ∀ G8, G8 = zcpR G6 q0 q_2 (0 : Int32).toNatClampNeg (0 : Int32).toNatClampNeg y5.toNatClampNeg →
    Q (.inl (some (.ref q_2))) G8)))
theorem wpt_J7_copyOf_6403c_0 {E : ZE} {l : Launch} {d b : Nat} {G0 : ZG} {Q : ZQ} {k : Nat} {q0 : Nat} {x1 : Int32} {q2 : Nat} {G : ZG} (h : wp_J7_copyOf_6403c_0 E l d b G0 Q k q0 x1 q2 G) : zW E l mJ7_copyOf_6403c d b G0 Q k 0 [some (.ref q0), some (.int x1), some (.ref q2), none] [] G := by
  unfold wp_J7_copyOf_6403c_0 at h
  refine z_aload_n (pc' := 1) dJ7_copyOf_6403c_0 rfl rfl ?_
  refine z_ldcM (pc' := 3) dJ7_copyOf_6403c_1 kJ7_110 rfl ?_
  obtain ⟨h1, h⟩ := h
  refine z_acmp_ne (pt := 13) (pc' := 6) dJ7_copyOf_6403c_3 (by decide) rfl h1 (fun hc => ?_) (fun hc => ?_)
  · have h := h.1 hc
    refine z_aload_n (pc' := 14) dJ7_copyOf_6403c_13 rfl rfl ?_
    exact h.elim
  · have h := h.2 hc
    refine z_iload_n (pc' := 7) dJ7_copyOf_6403c_6 rfl rfl ?_
    obtain ⟨h1, h2, h3, t1, h4, h5, h6, h⟩ := h
    obtain ⟨q_2, hq⟩ : ∃ z, z = zp t1 (zcn G t1) := ⟨_, rfl⟩
    obtain ⟨G3, hG⟩ : ∃ z, z = znw G t1 x1.toNatClampNeg := ⟨_, rfl⟩
    have h := h _ hq _ hG _ rfl
    refine z_newq (t := t1) (pc' := 10) dJ7_copyOf_6403c_7 kJ7_2 rfl h4 h5 h6 h1 rfl h2 h3 ?_
    refine z_mk hq hG ?_
    refine z_goto (pc' := 24) dJ7_copyOf_6403c_10 (by decide) ?_
    refine z_astore_n (pc' := 25) dJ7_copyOf_6403c_24 (by decide) rfl ?_
    refine z_aload_n (pc' := 26) dJ7_copyOf_6403c_25 rfl rfl ?_
    refine z_iconst (x := 0) (pc' := 27) dJ7_copyOf_6403c_26 (by decide) rfl ?_
    refine z_aload_n (pc' := 28) dJ7_copyOf_6403c_27 rfl rfl ?_
    refine z_iconst (x := 0) (pc' := 29) dJ7_copyOf_6403c_28 (by decide) rfl ?_
    refine z_aload_n (pc' := 30) dJ7_copyOf_6403c_29 rfl rfl ?_
    obtain ⟨h1, h⟩ := h
    refine z_alen (pc' := 31) dJ7_copyOf_6403c_30 rfl (h1.imp (fun h => ⟨4, by decide, h⟩) (fun h => ⟨_, h⟩)) rfl ?_
    refine z_iload_n (pc' := 32) dJ7_copyOf_6403c_31 rfl rfl ?_
    obtain ⟨d1, b1, Qz, hm, hdd, hb, hkx, hk⟩ := h
    refine z_callS (Y := mJ9_min_7cf53) (n := 2) (as := [.int (Int32.ofNat (zln G3 q0)), .int x1]) (st := [.int 0, .ref q_2, .int 0, .ref q0]) (pc' := 35) hm dJ7_copyOf_6403c_32 kJ7_304 sJ9_min_7cf53 rfl rfl hdd hb (Nat.le_of_ble_eq_true rfl) (fun r G6 hz => ?_) hkx
    obtain ⟨y5, rfl, h⟩ := hk r G6 hz
    obtain ⟨h1, h2, h3, h4, h5, h6, h7, h8, h9, h⟩ := h
    obtain ⟨G8, hG⟩ : ∃ z, z = zcpR G6 q0 q_2 (0 : Int32).toNatClampNeg (0 : Int32).toNatClampNeg y5.toNatClampNeg := ⟨_, rfl⟩
    have h := h _ hG
    refine z_copyR (pc' := 38) dJ7_copyOf_6403c_35 kJ7_150 ac_nat ac_stat ac_ini rfl h1 h2 h3 h4 h5 h6 h7 h9 h8 (Nat.le_of_ble_eq_true rfl) ?_
    refine z_st hG ?_
    refine z_aload_n (pc' := 39) dJ7_copyOf_6403c_38 rfl rfl ?_
    exact z_aret dJ7_copyOf_6403c_39 rfl (Or.inr ⟨_, rfl⟩) h
def wp_J7_copyOf_1904c_0 (E : ZE) (l : Launch) (d b : Nat) (G0 : ZG) (Q : ZQ) (k : Nat) (q0 : Nat) (x1 : Int32) (G : ZG) : Prop :=
  zar G q0 4 ∧ 1 ≤ d ∧
  xcR E l mJ7_copyOf_6403c d [.ref q0, .int x1, .ref (zp 1003 0)] G k (fun X G9 => Q (.inr X) G9) (fun y1 G2 k3 =>
  Q (.inl (some (.ref y1))) G2)
theorem wpt_J7_copyOf_1904c_0 {E : ZE} {l : Launch} {d b : Nat} {G0 : ZG} {Q : ZQ} {k : Nat} {q0 : Nat} {x1 : Int32} {G : ZG} (h : wp_J7_copyOf_1904c_0 E l d b G0 Q k q0 x1 G) : zW E l mJ7_copyOf_1904c d b G0 Q k 0 [some (.ref q0), some (.int x1)] [] G := by
  unfold wp_J7_copyOf_1904c_0 at h
  refine z_aload_n (pc' := 1) dJ7_copyOf_1904c_0 rfl rfl ?_
  refine z_iload_n (pc' := 2) dJ7_copyOf_1904c_1 rfl rfl ?_
  refine z_aload_n (pc' := 3) dJ7_copyOf_1904c_2 rfl rfl ?_
  obtain ⟨h1, h2, h⟩ := h
  refine z_getC (pc' := 6) dJ7_copyOf_1904c_3 kJ7_86 oc_sel oc_inst oc_nat oc_decl rfl h1 h2 (Nat.le_of_ble_eq_true rfl) ?_
  obtain ⟨d1, b1, Qz, hm, hdd, hb, hkx, hk⟩ := h
  refine z_callS (Y := mJ7_copyOf_6403c) (n := 3) (as := [.ref q0, .int x1, .ref (zp 1003 0)]) (st := []) (pc' := 9) hm dJ7_copyOf_1904c_6 kJ7_300 sJ7_copyOf_6403c rfl rfl hdd hb (Nat.le_of_ble_eq_true rfl) (fun r G2 hz => ?_) hkx
  obtain ⟨y1, rfl, h⟩ := hk r G2 hz
  exact z_aret dJ7_copyOf_1904c_9 rfl (Or.inr ⟨_, rfl⟩) h
def wp_J7_copyOf_59c91_0 (E : ZE) (l : Launch) (d b : Nat) (G0 : ZG) (Q : ZQ) (k : Nat) (q0 : Nat) (x1 : Int32) (G : ZG) : Prop :=
  (zar G q0 0 ∨ zrd G q0 .int) ∧
  ((¬ x1 = (Int32.ofNat (zln G q0)) →
    ¬ x1 < 0 ∧ x1.toNatClampNeg ≤ 67108864 ∧ x1.toNatClampNeg + 1 ≤ k ∧ ∃ t1, 1024 ≤ t1 ∧ t1 < 3584 ∧ (t1 - 1024) / 512 = 0 ∧
    ∀ q_2, q_2 = zp t1 (zcn G t1) → ∀ G3, G3 = znw G t1 x1.toNatClampNeg → ∀ k4, k4 = k - (x1.toNatClampNeg + 1) →
    (zar G3 q0 0 ∨ zrd G3 q0 .int) ∧
    xcI E l mJ9_min_7cf53 d [.int (Int32.ofNat (zln G3 q0)), .int x1] G3 k4 (fun X G9 => Q (.inr X) G9) (fun y5 G6 k7 =>
    zar G6 q0 0 ∧ zar G6 q_2 0 ∧ ¬ (0 : Int32) < 0 ∧ ¬ (0 : Int32) < 0 ∧ ¬ y5 < 0 ∧ (0 : Int32).toNatClampNeg + y5.toNatClampNeg ≤ zln G6 q0 ∧ (0 : Int32).toNatClampNeg + y5.toNatClampNeg ≤ zln G6 q_2 ∧ 2 ≤ d ∧
    ∀ G8, G8 = zcpI G6 q0 q_2 (0 : Int32).toNatClampNeg (0 : Int32).toNatClampNeg y5.toNatClampNeg →
    Q (.inl (some (.ref q_2))) G8)) ∧
  (¬ (¬ x1 = (Int32.ofNat (zln G q0))) →
    zar G q0 0 ∧ 2 ≤ d ∧ zln G q0 + 1 ≤ k ∧ ∃ t9, 1024 ≤ t9 ∧ t9 < 3584 ∧ (t9 - 1024) / 512 = 0 ∧
    ∀ q_10, q_10 = zp t9 (zcn G t9) → ∀ G11, G11 = zdup G q0 t9 → ∀ k12, k12 = k - (zln G q0 + 1) →
    zar G11 q_10 0 ∧
    Q (.inl (some (.ref q_10))) G11))
theorem wpt_J7_copyOf_59c91_0 {E : ZE} {l : Launch} {d b : Nat} {G0 : ZG} {Q : ZQ} {k : Nat} {q0 : Nat} {x1 : Int32} {G : ZG} (h : wp_J7_copyOf_59c91_0 E l d b G0 Q k q0 x1 G) : zW E l mJ7_copyOf_59c91 d b G0 Q k 0 [some (.ref q0), some (.int x1), none] [] G := by
  unfold wp_J7_copyOf_59c91_0 at h
  refine z_iload_n (pc' := 1) dJ7_copyOf_59c91_0 rfl rfl ?_
  refine z_aload_n (pc' := 2) dJ7_copyOf_59c91_1 rfl rfl ?_
  obtain ⟨h1, h⟩ := h
  refine z_alen (pc' := 3) dJ7_copyOf_59c91_2 rfl (h1.imp (fun h => ⟨0, by decide, h⟩) (fun h => ⟨_, h⟩)) rfl ?_
  refine z_icmp_ne (pt := 14) (pc' := 6) dJ7_copyOf_59c91_3 (by decide) rfl (fun hc => ?_) (fun hc => ?_)
  · have h := h.1 hc
    refine z_iload_n (pc' := 15) dJ7_copyOf_59c91_14 rfl rfl ?_
    obtain ⟨h1, h2, h3, t1, h4, h5, h6, h⟩ := h
    obtain ⟨q_2, hq⟩ : ∃ z, z = zp t1 (zcn G t1) := ⟨_, rfl⟩
    obtain ⟨G3, hG⟩ : ∃ z, z = znw G t1 x1.toNatClampNeg := ⟨_, rfl⟩
    have h := h _ hq _ hG _ rfl
    refine z_newa (t := t1) (kd := 0) (pc' := 17) dJ7_copyOf_59c91_15 rfl (by decide) a_int rfl h4 h5 h6 h1 rfl h2 h3 ?_
    refine z_mk hq hG ?_
    refine z_astore_n (pc' := 18) dJ7_copyOf_59c91_17 (by decide) rfl ?_
    refine z_aload_n (pc' := 19) dJ7_copyOf_59c91_18 rfl rfl ?_
    refine z_iconst (x := 0) (pc' := 20) dJ7_copyOf_59c91_19 (by decide) rfl ?_
    refine z_aload_n (pc' := 21) dJ7_copyOf_59c91_20 rfl rfl ?_
    refine z_iconst (x := 0) (pc' := 22) dJ7_copyOf_59c91_21 (by decide) rfl ?_
    refine z_aload_n (pc' := 23) dJ7_copyOf_59c91_22 rfl rfl ?_
    obtain ⟨h1, h⟩ := h
    refine z_alen (pc' := 24) dJ7_copyOf_59c91_23 rfl (h1.imp (fun h => ⟨0, by decide, h⟩) (fun h => ⟨_, h⟩)) rfl ?_
    refine z_iload_n (pc' := 25) dJ7_copyOf_59c91_24 rfl rfl ?_
    obtain ⟨d1, b1, Qz, hm, hdd, hb, hkx, hk⟩ := h
    refine z_callS (Y := mJ9_min_7cf53) (n := 2) (as := [.int (Int32.ofNat (zln G3 q0)), .int x1]) (st := [.int 0, .ref q_2, .int 0, .ref q0]) (pc' := 28) hm dJ7_copyOf_59c91_25 kJ7_304 sJ9_min_7cf53 rfl rfl hdd hb (Nat.le_of_ble_eq_true rfl) (fun r G6 hz => ?_) hkx
    obtain ⟨y5, rfl, h⟩ := hk r G6 hz
    obtain ⟨h1, h2, h3, h4, h5, h6, h7, h8, h⟩ := h
    obtain ⟨G8, hG⟩ : ∃ z, z = zcpI G6 q0 q_2 (0 : Int32).toNatClampNeg (0 : Int32).toNatClampNeg y5.toNatClampNeg := ⟨_, rfl⟩
    have h := h _ hG
    refine z_copyI (pc' := 31) dJ7_copyOf_59c91_28 kJ7_150 ac_nat ac_stat ac_ini rfl h1 h2 h3 h4 h5 h6 h7 h8 (Nat.le_of_ble_eq_true rfl) ?_
    refine z_st hG ?_
    refine z_aload_n (pc' := 32) dJ7_copyOf_59c91_31 rfl rfl ?_
    exact z_aret dJ7_copyOf_59c91_32 rfl (Or.inr ⟨_, rfl⟩) h
  · have h := h.2 hc
    refine z_aload_n (pc' := 7) dJ7_copyOf_59c91_6 rfl rfl ?_
    obtain ⟨h1, h2, h3, t9, h4, h5, h6, h⟩ := h
    obtain ⟨q_10, hq⟩ : ∃ z, z = zp t9 (zcn G t9) := ⟨_, rfl⟩
    obtain ⟨G11, hG⟩ : ∃ z, z = zdup G q0 t9 := ⟨_, rfl⟩
    have h := h _ hq _ hG _ rfl
    refine z_clone (t := t9) (pc' := 10) dJ7_copyOf_59c91_7 kJ7_316 cl_same cl_nat cl_inst cl_sel cl_cast rfl h1 h4 h5 h6 h2 (Nat.le_of_ble_eq_true rfl) h3 ?_
    refine z_mk hq hG ?_
    obtain ⟨h1, h⟩ := h
    refine z_castA (pc' := 13) dJ7_copyOf_59c91_10 kJ7_317 rfl h1 ?_
    exact z_aret dJ7_copyOf_59c91_13 rfl (Or.inr ⟨_, rfl⟩) h
def wp_J7_fill_53178_0 (E : ZE) (l : Launch) (d b : Nat) (G0 : ZG) (Q : ZQ) (k : Nat) (q0 : Nat) (x1 : Int32) (G : ZG) : Prop :=
  (zar G q0 0 ∨ zrd G q0 .int) ∧
  zW E l mJ7_fill_53178 d b G0 Q k 5 [some (.ref q0), some (.int x1), some (.int 0), some (.int (Int32.ofNat (zln G q0)))] [] G
theorem wpt_J7_fill_53178_0 {E : ZE} {l : Launch} {d b : Nat} {G0 : ZG} {Q : ZQ} {k : Nat} {q0 : Nat} {x1 : Int32} {G : ZG} (h : wp_J7_fill_53178_0 E l d b G0 Q k q0 x1 G) : zW E l mJ7_fill_53178 d b G0 Q k 0 [some (.ref q0), some (.int x1), none, none] [] G := by
  unfold wp_J7_fill_53178_0 at h
  refine z_iconst (x := 0) (pc' := 1) dJ7_fill_53178_0 (by decide) rfl ?_
  refine z_istore_n (pc' := 2) dJ7_fill_53178_1 (by decide) rfl ?_
  refine z_aload_n (pc' := 3) dJ7_fill_53178_2 rfl rfl ?_
  obtain ⟨h1, h⟩ := h
  refine z_alen (pc' := 4) dJ7_fill_53178_3 rfl (h1.imp (fun h => ⟨0, by decide, h⟩) (fun h => ⟨_, h⟩)) rfl ?_
  refine z_istore_n (pc' := 5) dJ7_fill_53178_4 (by decide) rfl ?_
  exact z_dr (ls' := [some (.ref q0), some (.int x1), some (.int 0), some (.int (Int32.ofNat (zln G q0)))]) ⟨rfl, rfl, rfl, rfl, trivial⟩ h
def wp_J7_fill_53178_5 (E : ZE) (l : Launch) (d b : Nat) (G0 : ZG) (Q : ZQ) (k : Nat) (q0 : Nat) (x1 : Int32) (x2 : Int32) (x3 : Int32) (G : ZG) : Prop :=
  ((x3 ≤ x2 →
    Q (.inl none) G) ∧
  (¬ (x3 ≤ x2) →
    zar G q0 0 ∧ vp_in x2 (zln G q0) ∧
    ∀ G1, G1 = zsi G q0 x2.toNatClampNeg x1 →
    zW E l mJ7_fill_53178 d b G0 Q k 5 [some (.ref q0), some (.int x1), some (.int (x2 + 1)), some (.int x3)] [] G1))
theorem wpt_J7_fill_53178_5 {E : ZE} {l : Launch} {d b : Nat} {G0 : ZG} {Q : ZQ} {k : Nat} {q0 : Nat} {x1 : Int32} {x2 : Int32} {x3 : Int32} {G : ZG} (h : wp_J7_fill_53178_5 E l d b G0 Q k q0 x1 x2 x3 G) : zW E l mJ7_fill_53178 d b G0 Q k 5 [some (.ref q0), some (.int x1), some (.int x2), some (.int x3)] [] G := by
  unfold wp_J7_fill_53178_5 at h
  refine z_iload_n (pc' := 6) dJ7_fill_53178_5 rfl rfl ?_
  refine z_iload_n (pc' := 7) dJ7_fill_53178_6 rfl rfl ?_
  refine z_icmp_ge (pt := 20) (pc' := 10) dJ7_fill_53178_7 (by decide) rfl (fun hc => ?_) (fun hc => ?_)
  · have h := h.1 hc
    exact z_vret dJ7_fill_53178_20 rfl h
  · have h := h.2 hc
    refine z_aload_n (pc' := 11) dJ7_fill_53178_10 rfl rfl ?_
    refine z_iload_n (pc' := 12) dJ7_fill_53178_11 rfl rfl ?_
    refine z_iload_n (pc' := 13) dJ7_fill_53178_12 rfl rfl ?_
    obtain ⟨h1, h2, h⟩ := h
    obtain ⟨G1, hG⟩ : ∃ z, z = zsi G q0 x2.toNatClampNeg x1 := ⟨_, rfl⟩
    have h := h _ hG
    refine z_iast (pc' := 14) dJ7_fill_53178_13 rfl h1 h2  ?_
    refine z_st hG ?_
    refine z_iinc (y := x2 + 1) (pc' := 17) dJ7_fill_53178_14 rfl (zinc_1 _) (by decide) rfl ?_
    refine z_goto (pc' := 5) dJ7_fill_53178_17 (by decide) ?_
    exact z_dr (ls' := [some (.ref q0), some (.int x1), some (.int (x2 + 1)), some (.int x3)]) ⟨rfl, rfl, rfl, rfl, trivial⟩ h
def wp_J8_newLength_cabcc_0 (E : ZE) (l : Launch) (d b : Nat) (G0 : ZG) (Q : ZQ) (k : Nat) (x0 : Int32) (x1 : Int32) (x2 : Int32) (G : ZG) : Prop :=
  xcI E l mJ9_max_7cf53 d [.int x1, .int x2] G k (fun X G9 => Q (.inr X) G9) (fun y1 G2 k3 =>
  (((x0 + y1) ≤ (0 : Int32) →
    xcI E l mJ8_hugeLength_7cf53 d [.int x0, .int x1] G2 k3 (fun X G9 => Q (.inr X) G9) (fun y4 G5 k6 =>
    Q (.inl (some (.int y4))) G5)) ∧
  (¬ ((x0 + y1) ≤ (0 : Int32)) →
    ((2147483639 < (x0 + y1) →
      xcI E l mJ8_hugeLength_7cf53 d [.int x0, .int x1] G2 k3 (fun X G9 => Q (.inr X) G9) (fun y7 G8 k9 =>
      Q (.inl (some (.int y7))) G8)) ∧
    (¬ (2147483639 < (x0 + y1)) →
      Q (.inl (some (.int (x0 + y1)))) G2)))))
theorem wpt_J8_newLength_cabcc_0 {E : ZE} {l : Launch} {d b : Nat} {G0 : ZG} {Q : ZQ} {k : Nat} {x0 : Int32} {x1 : Int32} {x2 : Int32} {G : ZG} (h : wp_J8_newLength_cabcc_0 E l d b G0 Q k x0 x1 x2 G) : zW E l mJ8_newLength_cabcc d b G0 Q k 0 [some (.int x0), some (.int x1), some (.int x2), none] [] G := by
  unfold wp_J8_newLength_cabcc_0 at h
  refine z_iload_n (pc' := 1) dJ8_newLength_cabcc_0 rfl rfl ?_
  refine z_iload_n (pc' := 2) dJ8_newLength_cabcc_1 rfl rfl ?_
  refine z_iload_n (pc' := 3) dJ8_newLength_cabcc_2 rfl rfl ?_
  obtain ⟨d1, b1, Qz, hm, hdd, hb, hkx, hk⟩ := h
  refine z_callS (Y := mJ9_max_7cf53) (n := 2) (as := [.int x1, .int x2]) (st := [.int x0]) (pc' := 6) hm dJ8_newLength_cabcc_3 kJ8_194 sJ9_max_7cf53 rfl rfl hdd hb (Nat.le_of_ble_eq_true rfl) (fun r G2 hz => ?_) hkx
  obtain ⟨y1, rfl, h⟩ := hk r G2 hz
  refine z_iadd (pc' := 7) dJ8_newLength_cabcc_6 rfl rfl ?_
  refine z_istore_n (pc' := 8) dJ8_newLength_cabcc_7 (by decide) rfl ?_
  refine z_iconst (x := 0) (pc' := 9) dJ8_newLength_cabcc_8 (by decide) rfl ?_
  refine z_iload_n (pc' := 10) dJ8_newLength_cabcc_9 rfl rfl ?_
  refine z_icmp_ge (pt := 21) (pc' := 13) dJ8_newLength_cabcc_10 (by decide) rfl (fun hc => ?_) (fun hc => ?_)
  · have h := h.1 hc
    refine z_iload_n (pc' := 22) dJ8_newLength_cabcc_21 rfl rfl ?_
    refine z_iload_n (pc' := 23) dJ8_newLength_cabcc_22 rfl rfl ?_
    obtain ⟨d1, b1, Qz, hm, hdd, hb, hkx, hk⟩ := h
    refine z_callS (Y := mJ8_hugeLength_7cf53) (n := 2) (as := [.int x0, .int x1]) (st := []) (pc' := 26) hm dJ8_newLength_cabcc_23 kJ8_201 sJ8_hugeLength_7cf53 rfl rfl hdd hb (Nat.le_of_ble_eq_true rfl) (fun r G5 hz => ?_) hkx
    obtain ⟨y4, rfl, h⟩ := hk r G5 hz
    exact z_iret dJ8_newLength_cabcc_26 rfl h
  · have h := h.2 hc
    refine z_iload_n (pc' := 14) dJ8_newLength_cabcc_13 rfl rfl ?_
    refine z_ldc (x := 2147483639) (pc' := 16) dJ8_newLength_cabcc_14 kJ8_200 rfl ?_
    refine z_icmp_gt (pt := 21) (pc' := 19) dJ8_newLength_cabcc_16 (by decide) rfl (fun hc => ?_) (fun hc => ?_)
    · have h := h.1 hc
      refine z_iload_n (pc' := 22) dJ8_newLength_cabcc_21 rfl rfl ?_
      refine z_iload_n (pc' := 23) dJ8_newLength_cabcc_22 rfl rfl ?_
      obtain ⟨d1, b1, Qz, hm, hdd, hb, hkx, hk⟩ := h
      refine z_callS (Y := mJ8_hugeLength_7cf53) (n := 2) (as := [.int x0, .int x1]) (st := []) (pc' := 26) hm dJ8_newLength_cabcc_23 kJ8_201 sJ8_hugeLength_7cf53 rfl rfl hdd hb (Nat.le_of_ble_eq_true rfl) (fun r G8 hz => ?_) hkx
      obtain ⟨y7, rfl, h⟩ := hk r G8 hz
      exact z_iret dJ8_newLength_cabcc_26 rfl h
    · have h := h.2 hc
      refine z_iload_n (pc' := 20) dJ8_newLength_cabcc_19 rfl rfl ?_
      exact z_iret dJ8_newLength_cabcc_20 rfl h
def wp_Jx4a65c_grow_92f84_0 (E : ZE) (l : Launch) (d b : Nat) (G0 : ZG) (Q : ZQ) (k : Nat) (q0 : Nat) (x1 : Int32) (G : ZG) : Prop :=
  zob G q0 0 ∧
  (zar G (zrv G q0 1) 4 ∨ zrd G (zrv G q0 1) (.object "java/lang/Object")) ∧
  ((0 < (Int32.ofNat (zln G (zrv G q0 1))) →
    zW E l mJx4a65c_grow_92f84 d b G0 Q k 20 [some (.ref q0), some (.int x1), some (.int (Int32.ofNat (zln G (zrv G q0 1)))), none] [] G) ∧
  (¬ (0 < (Int32.ofNat (zln G (zrv G q0 1)))) →
    zob G q0 0 ∧
    zcmp G (zrv G q0 1) (zp 4095 0) ∧
    (((zrv G q0 1) = (zp 4095 0) →
      xcI E l mJ9_max_7cf53 d [.int 10, .int x1] G k (fun X G9 => Q (.inr X) G9) (fun y1 G2 k3 =>
      ¬ y1 < 0 ∧ y1.toNatClampNeg ≤ 67108864 ∧ y1.toNatClampNeg + 1 ≤ k3 ∧ ∃ t4, 1024 ≤ t4 ∧ t4 < 3584 ∧ (t4 - 1024) / 512 = 4 ∧
      ∀ q_5, q_5 = zp t4 (zcn G2 t4) → ∀ G6, G6 = znw G2 t4 y1.toNatClampNeg → ∀ k7, k7 = k3 - (y1.toNatClampNeg + 1) →
      zob G6 q0 0 ∧
      ∀ G8, G8 = zsr G6 q0 1 q_5 →
      Q (.inl (some (.ref q_5))) G8)) ∧
    (¬ ((zrv G q0 1) = (zp 4095 0)) →
      zW E l mJx4a65c_grow_92f84 d b G0 Q k 20 [some (.ref q0), some (.int x1), some (.int (Int32.ofNat (zln G (zrv G q0 1)))), none] [] G))))
theorem wpt_Jx4a65c_grow_92f84_0 {E : ZE} {l : Launch} {d b : Nat} {G0 : ZG} {Q : ZQ} {k : Nat} {q0 : Nat} {x1 : Int32} {G : ZG} (h : wp_Jx4a65c_grow_92f84_0 E l d b G0 Q k q0 x1 G) : zW E l mJx4a65c_grow_92f84 d b G0 Q k 0 [some (.ref q0), some (.int x1), none, none] [] G := by
  unfold wp_Jx4a65c_grow_92f84_0 at h
  refine z_aload_n (pc' := 1) dJx4a65c_grow_92f84_0 rfl rfl ?_
  obtain ⟨h1, h⟩ := h
  refine z_getR (ci := 0) (kf := 1) (pc' := 4) dJx4a65c_grow_92f84_1 kJx4a65c_9 (Or.inl rfl) (by decide) (by decide) rfl rfl h1 ?_
  obtain ⟨h1, h⟩ := h
  refine z_alen (pc' := 5) dJx4a65c_grow_92f84_4 rfl (h1.imp (fun h => ⟨4, by decide, h⟩) (fun h => ⟨_, h⟩)) rfl ?_
  refine z_istore_n (pc' := 6) dJx4a65c_grow_92f84_5 (by decide) rfl ?_
  refine z_iload_n (pc' := 7) dJx4a65c_grow_92f84_6 rfl rfl ?_
  refine z_if_gt (pt := 20) (pc' := 10) dJx4a65c_grow_92f84_7 (by decide) rfl (fun hc => ?_) (fun hc => ?_)
  · have h := h.1 hc
    exact z_dr (ls' := [some (.ref q0), some (.int x1), some (.int (Int32.ofNat (zln G (zrv G q0 1)))), none]) ⟨rfl, rfl, rfl, trivial⟩ h
  · have h := h.2 hc
    refine z_aload_n (pc' := 11) dJx4a65c_grow_92f84_10 rfl rfl ?_
    obtain ⟨h1, h⟩ := h
    refine z_getR (ci := 0) (kf := 1) (pc' := 14) dJx4a65c_grow_92f84_11 kJx4a65c_9 (Or.inl rfl) (by decide) (by decide) rfl rfl h1 ?_
    refine z_gets (x := ("java/util/ArrayList", "DEFAULTCAPACITY_EMPTY_ELEMENTDATA", "[Ljava/lang/Object;", zp 4095 0)) (pc' := 17) (by simp [zstat]) dJx4a65c_grow_92f84_14 kJx4a65c_39 rfl (by unfold zfx; decide) (by decide) ?_
    obtain ⟨h1, h⟩ := h
    refine z_acmp_eq (pt := 45) (pc' := 20) dJx4a65c_grow_92f84_17 (by decide) rfl h1 (fun hc => ?_) (fun hc => ?_)
    · have h := h.1 hc
      refine z_aload_n (pc' := 46) dJx4a65c_grow_92f84_45 rfl rfl ?_
      refine z_bipush (x := 10) (pc' := 48) dJx4a65c_grow_92f84_46 (by decide) rfl ?_
      refine z_iload_n (pc' := 49) dJx4a65c_grow_92f84_48 rfl rfl ?_
      obtain ⟨d1, b1, Qz, hm, hdd, hb, hkx, hk⟩ := h
      refine z_callS (Y := mJ9_max_7cf53) (n := 2) (as := [.int 10, .int x1]) (st := [.ref q0]) (pc' := 52) hm dJx4a65c_grow_92f84_49 kJx4a65c_79 sJ9_max_7cf53 rfl rfl hdd hb (Nat.le_of_ble_eq_true rfl) (fun r G2 hz => ?_) hkx
      obtain ⟨y1, rfl, h⟩ := hk r G2 hz
      obtain ⟨h1, h2, h3, t4, h4, h5, h6, h⟩ := h
      obtain ⟨q_5, hq⟩ : ∃ z, z = zp t4 (zcn G2 t4) := ⟨_, rfl⟩
      obtain ⟨G6, hG⟩ : ∃ z, z = znw G2 t4 y1.toNatClampNeg := ⟨_, rfl⟩
      have h := h _ hq _ hG _ rfl
      refine z_newq (t := t4) (pc' := 55) dJx4a65c_grow_92f84_52 kJx4a65c_7 rfl h4 h5 h6 h1 rfl h2 h3 ?_
      refine z_mk hq hG ?_
      refine z_dup_x1 (pc' := 56) dJx4a65c_grow_92f84_55 rfl rfl rfl ?_
      obtain ⟨h1, h⟩ := h
      obtain ⟨G8, hG⟩ : ∃ z, z = zsr G6 q0 1 q_5 := ⟨_, rfl⟩
      have h := h _ hG
      refine z_putR (ci := 0) (kf := 1) (pc' := 59) dJx4a65c_grow_92f84_56 kJx4a65c_9 (Or.inl rfl) (by decide) (by decide) rfl (Or.inl rfl) rfl h1 ?_
      refine z_st hG ?_
      exact z_aret dJx4a65c_grow_92f84_59 rfl (Or.inr ⟨_, rfl⟩) h
    · have h := h.2 hc
      exact z_dr (ls' := [some (.ref q0), some (.int x1), some (.int (Int32.ofNat (zln G (zrv G q0 1)))), none]) ⟨rfl, rfl, rfl, trivial⟩ h
def wp_Jx4a65c_grow_92f84_20 (E : ZE) (l : Launch) (d b : Nat) (G0 : ZG) (Q : ZQ) (k : Nat) (q0 : Nat) (x1 : Int32) (x2 : Int32) (G : ZG) : Prop :=
  xcI E l mJ8_newLength_cabcc d [.int x2, .int (x1 - x2), .int (x2 >>> (1 &&& 31))] G k (fun X G9 => Q (.inr X) G9) (fun y1 G2 k3 =>
  zob G2 q0 0 ∧
  xcR E l mJ7_copyOf_1904c d [.ref (zrv G2 q0 1), .int y1] G2 k3 (fun X G9 => Q (.inr X) G9) (fun y4 G5 k6 =>
  zob G5 q0 0 ∧
  ∀ G7, G7 = zsr G5 q0 1 y4 →
  Q (.inl (some (.ref y4))) G7))
theorem wpt_Jx4a65c_grow_92f84_20 {E : ZE} {l : Launch} {d b : Nat} {G0 : ZG} {Q : ZQ} {k : Nat} {q0 : Nat} {x1 : Int32} {x2 : Int32} {G : ZG} (h : wp_Jx4a65c_grow_92f84_20 E l d b G0 Q k q0 x1 x2 G) : zW E l mJx4a65c_grow_92f84 d b G0 Q k 20 [some (.ref q0), some (.int x1), some (.int x2), none] [] G := by
  unfold wp_Jx4a65c_grow_92f84_20 at h
  refine z_iload_n (pc' := 21) dJx4a65c_grow_92f84_20 rfl rfl ?_
  refine z_iload_n (pc' := 22) dJx4a65c_grow_92f84_21 rfl rfl ?_
  refine z_iload_n (pc' := 23) dJx4a65c_grow_92f84_22 rfl rfl ?_
  refine z_isub (pc' := 24) dJx4a65c_grow_92f84_23 rfl rfl ?_
  refine z_iload_n (pc' := 25) dJx4a65c_grow_92f84_24 rfl rfl ?_
  refine z_iconst (x := 1) (pc' := 26) dJx4a65c_grow_92f84_25 (by decide) rfl ?_
  refine z_ishr (pc' := 27) dJx4a65c_grow_92f84_26 rfl rfl ?_
  obtain ⟨d1, b1, Qz, hm, hdd, hb, hkx, hk⟩ := h
  refine z_callS (Y := mJ8_newLength_cabcc) (n := 3) (as := [.int x2, .int (x1 - x2), .int (x2 >>> (1 &&& 31))]) (st := []) (pc' := 30) hm dJx4a65c_grow_92f84_27 kJx4a65c_73 sJ8_newLength_cabcc rfl rfl hdd hb (Nat.le_of_ble_eq_true rfl) (fun r G2 hz => ?_) hkx
  obtain ⟨y1, rfl, h⟩ := hk r G2 hz
  refine z_istore_n (pc' := 31) dJx4a65c_grow_92f84_30 (by decide) rfl ?_
  refine z_aload_n (pc' := 32) dJx4a65c_grow_92f84_31 rfl rfl ?_
  refine z_aload_n (pc' := 33) dJx4a65c_grow_92f84_32 rfl rfl ?_
  obtain ⟨h1, h⟩ := h
  refine z_getR (ci := 0) (kf := 1) (pc' := 36) dJx4a65c_grow_92f84_33 kJx4a65c_9 (Or.inl rfl) (by decide) (by decide) rfl rfl h1 ?_
  refine z_iload_n (pc' := 37) dJx4a65c_grow_92f84_36 rfl rfl ?_
  obtain ⟨d1, b1, Qz, hm, hdd, hb, hkx, hk⟩ := h
  refine z_callS (Y := mJ7_copyOf_1904c) (n := 2) (as := [.ref (zrv G2 q0 1), .int y1]) (st := [.ref q0]) (pc' := 40) hm dJx4a65c_grow_92f84_37 kJx4a65c_66 sJ7_copyOf_1904c rfl rfl hdd hb (Nat.le_of_ble_eq_true rfl) (fun r G5 hz => ?_) hkx
  obtain ⟨y4, rfl, h⟩ := hk r G5 hz
  refine z_dup_x1 (pc' := 41) dJx4a65c_grow_92f84_40 rfl rfl rfl ?_
  obtain ⟨h1, h⟩ := h
  obtain ⟨G7, hG⟩ : ∃ z, z = zsr G5 q0 1 y4 := ⟨_, rfl⟩
  have h := h _ hG
  refine z_putR (ci := 0) (kf := 1) (pc' := 44) dJx4a65c_grow_92f84_41 kJx4a65c_9 (Or.inl rfl) (by decide) (by decide) rfl (Or.inl rfl) rfl h1 ?_
  refine z_st hG ?_
  exact z_aret dJx4a65c_grow_92f84_44 rfl (Or.inr ⟨_, rfl⟩) h
def wp_Jx4a65c_grow_d5877_0 (E : ZE) (l : Launch) (d b : Nat) (G0 : ZG) (Q : ZQ) (k : Nat) (q0 : Nat) (G : ZG) : Prop :=
  zob G q0 0 ∧
  zob G q0 0 ∧
  xcR E l mJx4a65c_grow_92f84 d [.ref q0, .int ((ziv G q0 2) + 1)] G k (fun X G9 => Q (.inr X) G9) (fun y1 G2 k3 =>
  Q (.inl (some (.ref y1))) G2)
theorem wpt_Jx4a65c_grow_d5877_0 {E : ZE} {l : Launch} {d b : Nat} {G0 : ZG} {Q : ZQ} {k : Nat} {q0 : Nat} {G : ZG} (h : wp_Jx4a65c_grow_d5877_0 E l d b G0 Q k q0 G) : zW E l mJx4a65c_grow_d5877 d b G0 Q k 0 [some (.ref q0)] [] G := by
  unfold wp_Jx4a65c_grow_d5877_0 at h
  refine z_aload_n (pc' := 1) dJx4a65c_grow_d5877_0 rfl rfl ?_
  refine z_aload_n (pc' := 2) dJx4a65c_grow_d5877_1 rfl rfl ?_
  obtain ⟨h1, h⟩ := h
  refine z_getI (ci := 0) (kf := 2) (pc' := 5) dJx4a65c_grow_d5877_2 kJx4a65c_48 (Or.inl rfl) (by decide) (by decide) rfl rfl h1 ?_
  refine z_iconst (x := 1) (pc' := 6) dJx4a65c_grow_d5877_5 (by decide) rfl ?_
  refine z_iadd (pc' := 7) dJx4a65c_grow_d5877_6 rfl rfl ?_
  obtain ⟨h1, h⟩ := h
  obtain ⟨d1, b1, Qz, hm, hdd, hb, hkx, hk⟩ := h
  refine z_callV (Y := mJx4a65c_grow_92f84) (n := 1) (as := [.int ((ziv G q0 2) + 1)]) (st := []) (pc' := 10) (ci := 0) (q := q0) hm dJx4a65c_grow_d5877_7 kJx4a65c_69 vJx4a65c_grow_92f84 rfl rfl (by decide) rfl h1 hdd hb (Nat.le_of_ble_eq_true rfl) (fun r G2 hz => ?_) hkx
  obtain ⟨y1, rfl, h⟩ := hk r G2 hz
  exact z_aret dJx4a65c_grow_d5877_10 rfl (Or.inr ⟨_, rfl⟩) h
def wp_Jx4a65c_add_72be8_0 (E : ZE) (l : Launch) (d b : Nat) (G0 : ZG) (Q : ZQ) (k : Nat) (q0 : Nat) (q1 : Nat) (q2 : Nat) (x3 : Int32) (G : ZG) : Prop :=
  (zar G q2 4 ∨ zrd G q2 (.object "java/lang/Object")) ∧
  ((¬ x3 = (Int32.ofNat (zln G q2)) →
    zar G q2 4 ∧ vp_in x3 (zln G q2) ∧ ∃ ci, zob G q1 ci ∧ ci < 14 ∧ Cond.castable (zC ci) "java/lang/Object" ∈ zcast ∧
    ∀ G1, G1 = zsr G q2 x3.toNatClampNeg q1 →
    zob G1 q0 0 ∧
    ∀ G2, G2 = zsi G1 q0 2 (x3 + 1) →
    Q (.inl none) G2) ∧
  (¬ (¬ x3 = (Int32.ofNat (zln G q2))) →
    zob G q0 0 ∧
    xcR E l mJx4a65c_grow_d5877 d [.ref q0] G k (fun X G9 => Q (.inr X) G9) (fun y3 G4 k5 =>
    zar G4 y3 4 ∧ vp_in x3 (zln G4 y3) ∧ ∃ ci, zob G4 q1 ci ∧ ci < 14 ∧ Cond.castable (zC ci) "java/lang/Object" ∈ zcast ∧
    ∀ G6, G6 = zsr G4 y3 x3.toNatClampNeg q1 →
    zob G6 q0 0 ∧
    ∀ G7, G7 = zsi G6 q0 2 (x3 + 1) →
    Q (.inl none) G7)))
theorem wpt_Jx4a65c_add_72be8_0 {E : ZE} {l : Launch} {d b : Nat} {G0 : ZG} {Q : ZQ} {k : Nat} {q0 : Nat} {q1 : Nat} {q2 : Nat} {x3 : Int32} {G : ZG} (h : wp_Jx4a65c_add_72be8_0 E l d b G0 Q k q0 q1 q2 x3 G) : zW E l mJx4a65c_add_72be8 d b G0 Q k 0 [some (.ref q0), some (.ref q1), some (.ref q2), some (.int x3)] [] G := by
  unfold wp_Jx4a65c_add_72be8_0 at h
  refine z_iload_n (pc' := 1) dJx4a65c_add_72be8_0 rfl rfl ?_
  refine z_aload_n (pc' := 2) dJx4a65c_add_72be8_1 rfl rfl ?_
  obtain ⟨h1, h⟩ := h
  refine z_alen (pc' := 3) dJx4a65c_add_72be8_2 rfl (h1.imp (fun h => ⟨4, by decide, h⟩) (fun h => ⟨_, h⟩)) rfl ?_
  refine z_icmp_ne (pt := 11) (pc' := 6) dJx4a65c_add_72be8_3 (by decide) rfl (fun hc => ?_) (fun hc => ?_)
  · have h := h.1 hc
    refine z_aload_n (pc' := 12) dJx4a65c_add_72be8_11 rfl rfl ?_
    refine z_iload_n (pc' := 13) dJx4a65c_add_72be8_12 rfl rfl ?_
    refine z_aload_n (pc' := 14) dJx4a65c_add_72be8_13 rfl rfl ?_
    obtain ⟨h1, h2, ci, h3, h4, h5, h⟩ := h
    obtain ⟨G1, hG⟩ : ∃ z, z = zsr G q2 x3.toNatClampNeg q1 := ⟨_, rfl⟩
    have h := h _ hG
    refine z_aast (ci := ci) (pc' := 15) dJx4a65c_add_72be8_14 rfl h1 h2 h3 h4 h5 ?_
    refine z_st hG ?_
    refine z_aload_n (pc' := 16) dJx4a65c_add_72be8_15 rfl rfl ?_
    refine z_iload_n (pc' := 17) dJx4a65c_add_72be8_16 rfl rfl ?_
    refine z_iconst (x := 1) (pc' := 18) dJx4a65c_add_72be8_17 (by decide) rfl ?_
    refine z_iadd (pc' := 19) dJx4a65c_add_72be8_18 rfl rfl ?_
    obtain ⟨h1, h⟩ := h
    obtain ⟨G2, hG⟩ : ∃ z, z = zsi G1 q0 2 (x3 + 1) := ⟨_, rfl⟩
    have h := h _ hG
    refine z_putI (ci := 0) (kf := 2) (pc' := 22) dJx4a65c_add_72be8_19 kJx4a65c_48 (Or.inl rfl) (by decide) (by decide) rfl (Or.inl rfl) rfl h1 (zok_int _) ?_
    refine z_st hG ?_
    exact z_vret dJx4a65c_add_72be8_22 rfl h
  · have h := h.2 hc
    refine z_aload_n (pc' := 7) dJx4a65c_add_72be8_6 rfl rfl ?_
    obtain ⟨h1, h⟩ := h
    obtain ⟨d1, b1, Qz, hm, hdd, hb, hkx, hk⟩ := h
    refine z_callV (Y := mJx4a65c_grow_d5877) (n := 0) (as := []) (st := []) (pc' := 10) (ci := 0) (q := q0) hm dJx4a65c_add_72be8_7 kJx4a65c_129 vJx4a65c_grow_d5877 rfl rfl (by decide) rfl h1 hdd hb (Nat.le_of_ble_eq_true rfl) (fun r G4 hz => ?_) hkx
    obtain ⟨y3, rfl, h⟩ := hk r G4 hz
    refine z_astore_n (pc' := 11) dJx4a65c_add_72be8_10 (by decide) rfl ?_
    refine z_aload_n (pc' := 12) dJx4a65c_add_72be8_11 rfl rfl ?_
    refine z_iload_n (pc' := 13) dJx4a65c_add_72be8_12 rfl rfl ?_
    refine z_aload_n (pc' := 14) dJx4a65c_add_72be8_13 rfl rfl ?_
    obtain ⟨h1, h2, ci, h3, h4, h5, h⟩ := h
    obtain ⟨G6, hG⟩ : ∃ z, z = zsr G4 y3 x3.toNatClampNeg q1 := ⟨_, rfl⟩
    have h := h _ hG
    refine z_aast (ci := ci) (pc' := 15) dJx4a65c_add_72be8_14 rfl h1 h2 h3 h4 h5 ?_
    refine z_st hG ?_
    refine z_aload_n (pc' := 16) dJx4a65c_add_72be8_15 rfl rfl ?_
    refine z_iload_n (pc' := 17) dJx4a65c_add_72be8_16 rfl rfl ?_
    refine z_iconst (x := 1) (pc' := 18) dJx4a65c_add_72be8_17 (by decide) rfl ?_
    refine z_iadd (pc' := 19) dJx4a65c_add_72be8_18 rfl rfl ?_
    obtain ⟨h1, h⟩ := h
    obtain ⟨G7, hG⟩ : ∃ z, z = zsi G6 q0 2 (x3 + 1) := ⟨_, rfl⟩
    have h := h _ hG
    refine z_putI (ci := 0) (kf := 2) (pc' := 22) dJx4a65c_add_72be8_19 kJx4a65c_48 (Or.inl rfl) (by decide) (by decide) rfl (Or.inl rfl) rfl h1 (zok_int _) ?_
    refine z_st hG ?_
    exact z_vret dJx4a65c_add_72be8_22 rfl h
def wp_Jx4a65c_add_9ea2d_0 (E : ZE) (l : Launch) (d b : Nat) (G0 : ZG) (Q : ZQ) (k : Nat) (q0 : Nat) (q1 : Nat) (G : ZG) : Prop :=
  zob G q0 0 ∧
  zob G q0 0 ∧
  ∀ G1, G1 = zsi G q0 0 ((ziv G q0 0) + 1) →
  zob G1 q0 0 ∧
  zob G1 q0 0 ∧
  zob G1 q0 0 ∧
  xcV E l mJx4a65c_add_72be8 d [.ref q0, .ref q1, .ref (zrv G1 q0 1), .int (ziv G1 q0 2)] G1 k (fun X G9 => Q (.inr X) G9) (fun G2 k3 =>
  Q (.inl (some (.int 1))) G2)
theorem wpt_Jx4a65c_add_9ea2d_0 {E : ZE} {l : Launch} {d b : Nat} {G0 : ZG} {Q : ZQ} {k : Nat} {q0 : Nat} {q1 : Nat} {G : ZG} (h : wp_Jx4a65c_add_9ea2d_0 E l d b G0 Q k q0 q1 G) : zW E l mJx4a65c_add_9ea2d d b G0 Q k 0 [some (.ref q0), some (.ref q1)] [] G := by
  unfold wp_Jx4a65c_add_9ea2d_0 at h
  refine z_aload_n (pc' := 1) dJx4a65c_add_9ea2d_0 rfl rfl ?_
  refine z_dup (pc' := 2) dJx4a65c_add_9ea2d_1 rfl rfl ?_
  obtain ⟨h1, h⟩ := h
  refine z_getI (ci := 0) (kf := 0) (pc' := 5) dJx4a65c_add_9ea2d_2 kJx4a65c_63 (Or.inr f_same) (by decide) (by decide) rfl rfl h1 ?_
  refine z_iconst (x := 1) (pc' := 6) dJx4a65c_add_9ea2d_5 (by decide) rfl ?_
  refine z_iadd (pc' := 7) dJx4a65c_add_9ea2d_6 rfl rfl ?_
  obtain ⟨h1, h⟩ := h
  obtain ⟨G1, hG⟩ : ∃ z, z = zsi G q0 0 ((ziv G q0 0) + 1) := ⟨_, rfl⟩
  have h := h _ hG
  refine z_putI (ci := 0) (kf := 0) (pc' := 10) dJx4a65c_add_9ea2d_7 kJx4a65c_63 (Or.inr f_same) (by decide) (by decide) rfl (Or.inl rfl) rfl h1 (zok_int _) ?_
  refine z_st hG ?_
  refine z_aload_n (pc' := 11) dJx4a65c_add_9ea2d_10 rfl rfl ?_
  refine z_aload_n (pc' := 12) dJx4a65c_add_9ea2d_11 rfl rfl ?_
  refine z_aload_n (pc' := 13) dJx4a65c_add_9ea2d_12 rfl rfl ?_
  obtain ⟨h1, h⟩ := h
  refine z_getR (ci := 0) (kf := 1) (pc' := 16) dJx4a65c_add_9ea2d_13 kJx4a65c_9 (Or.inl rfl) (by decide) (by decide) rfl rfl h1 ?_
  refine z_aload_n (pc' := 17) dJx4a65c_add_9ea2d_16 rfl rfl ?_
  obtain ⟨h1, h⟩ := h
  refine z_getI (ci := 0) (kf := 2) (pc' := 20) dJx4a65c_add_9ea2d_17 kJx4a65c_48 (Or.inl rfl) (by decide) (by decide) rfl rfl h1 ?_
  obtain ⟨h1, h⟩ := h
  obtain ⟨d1, b1, Qz, hm, hdd, hb, hkx, hk⟩ := h
  refine z_callV (Y := mJx4a65c_add_72be8) (n := 3) (as := [.ref q1, .ref (zrv G1 q0 1), .int (ziv G1 q0 2)]) (st := []) (pc' := 23) (ci := 0) (q := q0) hm dJx4a65c_add_9ea2d_20 kJx4a65c_131 vJx4a65c_add_72be8 rfl rfl (by decide) rfl h1 hdd hb (Nat.le_of_ble_eq_true rfl) (fun r G2 hz => ?_) hkx
  obtain ⟨rfl, h⟩ := hk r G2 hz
  refine z_iconst (x := 1) (pc' := 24) dJx4a65c_add_9ea2d_23 (by decide) rfl ?_
  exact z_zret (ty := .boolean) dJx4a65c_add_9ea2d_24 rfl (by decide) h
def wp_J0_isLatin1_aae02_0 (E : ZE) (l : Launch) (d b : Nat) (G0 : ZG) (Q : ZQ) (k : Nat) (q0 : Nat) (G : ZG) : Prop :=
  (((1 : Int32) = 0 →
    Q (.inl (some (.int 0))) G) ∧
  (¬ ((1 : Int32) = 0) →
    ∃ n1, n1 < 32 ∧ q0 = zp 1000 n1 ∧
    ((¬ (0 : Int32) = 0 →
      Q (.inl (some (.int 0))) G) ∧
    (¬ (¬ (0 : Int32) = 0) →
      Q (.inl (some (.int 1))) G))))
theorem wpt_J0_isLatin1_aae02_0 {E : ZE} {l : Launch} {d b : Nat} {G0 : ZG} {Q : ZQ} {k : Nat} {q0 : Nat} {G : ZG} (h : wp_J0_isLatin1_aae02_0 E l d b G0 Q k q0 G) : zW E l mJ0_isLatin1_aae02 d b G0 Q k 0 [some (.ref q0)] [] G := by
  unfold wp_J0_isLatin1_aae02_0 at h
  refine z_getsC (pc' := 3) dJ0_isLatin1_aae02_0 kJ0_38 rfl ?_
  refine z_if_eq (pt := 17) (pc' := 6) dJ0_isLatin1_aae02_3 (by decide) rfl (fun hc => ?_) (fun hc => ?_)
  · have h := h.1 hc
    refine z_iconst (x := 0) (pc' := 18) dJ0_isLatin1_aae02_17 (by decide) rfl ?_
    exact z_zret (ty := .boolean) dJ0_isLatin1_aae02_18 rfl (by decide) h
  · have h := h.2 hc
    refine z_aload_n (pc' := 7) dJ0_isLatin1_aae02_6 rfl rfl ?_
    obtain ⟨n1, h1, h2, h⟩ := h
    refine z_getSc (n := n1) (pc' := 10) dJ0_isLatin1_aae02_7 kJ0_15 rfl h1 h2 ?_
    refine z_if_ne (pt := 17) (pc' := 13) dJ0_isLatin1_aae02_10 (by decide) rfl (fun hc => ?_) (fun hc => ?_)
    · have h := h.1 hc
      refine z_iconst (x := 0) (pc' := 18) dJ0_isLatin1_aae02_17 (by decide) rfl ?_
      exact z_zret (ty := .boolean) dJ0_isLatin1_aae02_18 rfl (by decide) h
    · have h := h.2 hc
      refine z_iconst (x := 1) (pc' := 14) dJ0_isLatin1_aae02_13 (by decide) rfl ?_
      refine z_goto (pc' := 18) dJ0_isLatin1_aae02_14 (by decide) ?_
      exact z_zret (ty := .boolean) dJ0_isLatin1_aae02_18 rfl (by decide) h
def wp_J0_coder_7d493_0 (E : ZE) (l : Launch) (d b : Nat) (G0 : ZG) (Q : ZQ) (k : Nat) (q0 : Nat) (G : ZG) : Prop :=
  (((1 : Int32) = 0 →
    Q (.inl (some (.int 1))) G) ∧
  (¬ ((1 : Int32) = 0) →
    ∃ n1, n1 < 32 ∧ q0 = zp 1000 n1 ∧
    Q (.inl (some (.int 0))) G))
theorem wpt_J0_coder_7d493_0 {E : ZE} {l : Launch} {d b : Nat} {G0 : ZG} {Q : ZQ} {k : Nat} {q0 : Nat} {G : ZG} (h : wp_J0_coder_7d493_0 E l d b G0 Q k q0 G) : zW E l mJ0_coder_7d493 d b G0 Q k 0 [some (.ref q0)] [] G := by
  unfold wp_J0_coder_7d493_0 at h
  refine z_getsC (pc' := 3) dJ0_coder_7d493_0 kJ0_38 rfl ?_
  refine z_if_eq (pt := 13) (pc' := 6) dJ0_coder_7d493_3 (by decide) rfl (fun hc => ?_) (fun hc => ?_)
  · have h := h.1 hc
    refine z_iconst (x := 1) (pc' := 14) dJ0_coder_7d493_13 (by decide) rfl ?_
    exact z_zret (ty := .byte) dJ0_coder_7d493_14 rfl (by decide) h
  · have h := h.2 hc
    refine z_aload_n (pc' := 7) dJ0_coder_7d493_6 rfl rfl ?_
    obtain ⟨n1, h1, h2, h⟩ := h
    refine z_getSc (n := n1) (pc' := 10) dJ0_coder_7d493_7 kJ0_15 rfl h1 h2 ?_
    refine z_goto (pc' := 14) dJ0_coder_7d493_10 (by decide) ?_
    exact z_zret (ty := .byte) dJ0_coder_7d493_14 rfl (by decide) h
def wp_J0_length_8abf5_0 (E : ZE) (l : Launch) (d b : Nat) (G0 : ZG) (Q : ZQ) (k : Nat) (q0 : Nat) (G : ZG) : Prop :=
  ∃ n1, n1 < 32 ∧ q0 = zp 1000 n1 ∧
  (zar G (zp (3840 + n1) 0) 1 ∨ zrd G (zp (3840 + n1) 0) .byte) ∧
  ∃ n5, n5 < 32 ∧ q0 = zp 1000 n5 ∧
  xcI E l mJ0_coder_7d493 d [.ref q0] G k (fun X G9 => Q (.inr X) G9) (fun y2 G3 k4 =>
  Q (.inl (some (.int ((Int32.ofNat (zln G (zp (3840 + n1) 0))) >>> (y2 &&& 31))))) G3)
theorem wpt_J0_length_8abf5_0 {E : ZE} {l : Launch} {d b : Nat} {G0 : ZG} {Q : ZQ} {k : Nat} {q0 : Nat} {G : ZG} (h : wp_J0_length_8abf5_0 E l d b G0 Q k q0 G) : zW E l mJ0_length_8abf5 d b G0 Q k 0 [some (.ref q0)] [] G := by
  unfold wp_J0_length_8abf5_0 at h
  refine z_aload_n (pc' := 1) dJ0_length_8abf5_0 rfl rfl ?_
  obtain ⟨n1, h1, h2, h⟩ := h
  refine z_getSv (n := n1) (pc' := 4) dJ0_length_8abf5_1 kJ0_9 rfl h1 h2 ?_
  obtain ⟨h1, h⟩ := h
  refine z_alen (pc' := 5) dJ0_length_8abf5_4 rfl (h1.imp (fun h => ⟨1, by decide, h⟩) (fun h => ⟨_, h⟩)) rfl ?_
  refine z_aload_n (pc' := 6) dJ0_length_8abf5_5 rfl rfl ?_
  obtain ⟨n5, h1, h2, h⟩ := h
  obtain ⟨d1, b1, Qz, hm, hdd, hb, hkx, hk⟩ := h
  refine z_callT (Y := mJ0_coder_7d493) (n := 0) (as := []) (st := [.int (Int32.ofNat (zln G (zp (3840 + n1) 0)))]) (pc' := 9) (sn := n5) (q := q0) hm dJ0_length_8abf5_6 kJ0_335 vJ0_coder_7d493 rfl rfl rfl h1 h2 hdd hb (Nat.le_of_ble_eq_true rfl) (fun r G3 hz => ?_) hkx
  obtain ⟨y2, rfl, h⟩ := hk r G3 hz
  refine z_ishr (pc' := 10) dJ0_length_8abf5_9 rfl rfl ?_
  exact z_iret dJ0_length_8abf5_10 rfl h
def wp_J0_checkIndex_df160_0 (E : ZE) (l : Launch) (d b : Nat) (G0 : ZG) (Q : ZQ) (k : Nat) (x0 : Int32) (x1 : Int32) (G : ZG) : Prop :=
  ∀ r1, (r1 = 0 ∨ r1 = zp 1002 0) →
  xcI E l mJ3_checkIndex_8e157 d [.int x0, .int x1, .ref r1] G k (fun X G9 => Q (.inr X) G9) (fun y2 G3 k4 =>
  Q (.inl none) G3)
theorem wpt_J0_checkIndex_df160_0 {E : ZE} {l : Launch} {d b : Nat} {G0 : ZG} {Q : ZQ} {k : Nat} {x0 : Int32} {x1 : Int32} {G : ZG} (h : wp_J0_checkIndex_df160_0 E l d b G0 Q k x0 x1 G) : zW E l mJ0_checkIndex_df160 d b G0 Q k 0 [some (.int x0), some (.int x1)] [] G := by
  unfold wp_J0_checkIndex_df160_0 at h
  refine z_iload_n (pc' := 1) dJ0_checkIndex_df160_0 rfl rfl ?_
  refine z_iload_n (pc' := 2) dJ0_checkIndex_df160_1 rfl rfl ?_
  refine z_getsF (pc' := 5) dJ0_checkIndex_df160_2 kJ0_1053 rfl (fun r1 hr => ?_)
  have h := h r1 hr
  obtain ⟨d1, b1, Qz, hm, hdd, hb, hkx, hk⟩ := h
  refine z_callS (Y := mJ3_checkIndex_8e157) (n := 3) (as := [.int x0, .int x1, .ref r1]) (st := []) (pc' := 8) hm dJ0_checkIndex_df160_5 kJ0_1059 sJ3_checkIndex_8e157 rfl rfl hdd hb (Nat.le_of_ble_eq_true rfl) (fun r G3 hz => ?_) hkx
  obtain ⟨y2, rfl, h⟩ := hk r G3 hz
  refine z_pop (pc' := 9) dJ0_checkIndex_df160_8 rfl rfl ?_
  exact z_vret dJ0_checkIndex_df160_9 rfl h
def wp_J1_charAt_3b067_0 (E : ZE) (l : Launch) (d b : Nat) (G0 : ZG) (Q : ZQ) (k : Nat) (q0 : Nat) (x1 : Int32) (G : ZG) : Prop :=
  (zar G q0 1 ∨ zrd G q0 .byte) ∧
  xcV E l mJ0_checkIndex_df160 d [.int x1, .int (Int32.ofNat (zln G q0))] G k (fun X G9 => Q (.inr X) G9) (fun G1 k2 =>
  (zar G1 q0 1 ∨ zrd G1 q0 .byte) ∧ vp_in x1 (zln G1 q0) ∧
  narrow .char (.int ((((ziv G1 q0 x1.toNatClampNeg) &&& 255).toUInt32 % 65536).toInt32)) = .int ((((ziv G1 q0 x1.toNatClampNeg) &&& 255).toUInt32 % 65536).toInt32) ∧ Q (.inl (some (.int ((((ziv G1 q0 x1.toNatClampNeg) &&& 255).toUInt32 % 65536).toInt32)))) G1)
theorem wpt_J1_charAt_3b067_0 {E : ZE} {l : Launch} {d b : Nat} {G0 : ZG} {Q : ZQ} {k : Nat} {q0 : Nat} {x1 : Int32} {G : ZG} (h : wp_J1_charAt_3b067_0 E l d b G0 Q k q0 x1 G) : zW E l mJ1_charAt_3b067 d b G0 Q k 0 [some (.ref q0), some (.int x1)] [] G := by
  unfold wp_J1_charAt_3b067_0 at h
  refine z_iload_n (pc' := 1) dJ1_charAt_3b067_0 rfl rfl ?_
  refine z_aload_n (pc' := 2) dJ1_charAt_3b067_1 rfl rfl ?_
  obtain ⟨h1, h⟩ := h
  refine z_alen (pc' := 3) dJ1_charAt_3b067_2 rfl (h1.imp (fun h => ⟨1, by decide, h⟩) (fun h => ⟨_, h⟩)) rfl ?_
  obtain ⟨d1, b1, Qz, hm, hdd, hb, hkx, hk⟩ := h
  refine z_callS (Y := mJ0_checkIndex_df160) (n := 2) (as := [.int x1, .int (Int32.ofNat (zln G q0))]) (st := []) (pc' := 6) hm dJ1_charAt_3b067_3 kJ1_9 sJ0_checkIndex_df160 rfl rfl hdd hb (Nat.le_of_ble_eq_true rfl) (fun r G1 hz => ?_) hkx
  obtain ⟨rfl, h⟩ := hk r G1 hz
  refine z_aload_n (pc' := 7) dJ1_charAt_3b067_6 rfl rfl ?_
  refine z_iload_n (pc' := 8) dJ1_charAt_3b067_7 rfl rfl ?_
  obtain ⟨h1, h2, h⟩ := h
  refine z_bald (pc' := 9) dJ1_charAt_3b067_8 rfl h1 h2 ?_
  refine z_sipush (x := 255) (pc' := 12) dJ1_charAt_3b067_9 (by decide) rfl ?_
  refine z_iand (pc' := 13) dJ1_charAt_3b067_12 rfl rfl ?_
  refine z_i2c (pc' := 14) dJ1_charAt_3b067_13 rfl rfl ?_
  exact z_zret (ty := .char) dJ1_charAt_3b067_14 rfl h.1 h.2
def wp_J0_charAt_5068e_0 (E : ZE) (l : Launch) (d b : Nat) (G0 : ZG) (Q : ZQ) (k : Nat) (q0 : Nat) (x1 : Int32) (G : ZG) : Prop :=
  ∃ n4, n4 < 32 ∧ q0 = zp 1000 n4 ∧
  xcI E l mJ0_isLatin1_aae02 d [.ref q0] G k (fun X G9 => Q (.inr X) G9) (fun y1 G2 k3 =>
  ((y1 = 0 →
    ∃ n5, n5 < 32 ∧ q0 = zp 1000 n5 ∧
    xcI E l mJ2_charAt_3b067 d [.ref (zp (3840 + n5) 0), .int x1] G2 k3 (fun X G9 => Q (.inr X) G9) (fun y6 G7 k8 =>
    narrow .char (.int y6) = .int y6 ∧ Q (.inl (some (.int y6))) G7)) ∧
  (¬ (y1 = 0) →
    ∃ n9, n9 < 32 ∧ q0 = zp 1000 n9 ∧
    xcI E l mJ1_charAt_3b067 d [.ref (zp (3840 + n9) 0), .int x1] G2 k3 (fun X G9 => Q (.inr X) G9) (fun y10 G11 k12 =>
    narrow .char (.int y10) = .int y10 ∧ Q (.inl (some (.int y10))) G11))))
theorem wpt_J0_charAt_5068e_0 {E : ZE} {l : Launch} {d b : Nat} {G0 : ZG} {Q : ZQ} {k : Nat} {q0 : Nat} {x1 : Int32} {G : ZG} (h : wp_J0_charAt_5068e_0 E l d b G0 Q k q0 x1 G) : zW E l mJ0_charAt_5068e d b G0 Q k 0 [some (.ref q0), some (.int x1)] [] G := by
  unfold wp_J0_charAt_5068e_0 at h
  refine z_aload_n (pc' := 1) dJ0_charAt_5068e_0 rfl rfl ?_
  obtain ⟨n4, h1, h2, h⟩ := h
  obtain ⟨d1, b1, Qz, hm, hdd, hb, hkx, hk⟩ := h
  refine z_callT (Y := mJ0_isLatin1_aae02) (n := 0) (as := []) (st := []) (pc' := 4) (sn := n4) (q := q0) hm dJ0_charAt_5068e_1 kJ0_492 vJ0_isLatin1_aae02 rfl rfl rfl h1 h2 hdd hb (Nat.le_of_ble_eq_true rfl) (fun r G2 hz => ?_) hkx
  obtain ⟨y1, rfl, h⟩ := hk r G2 hz
  refine z_if_eq (pt := 16) (pc' := 7) dJ0_charAt_5068e_4 (by decide) rfl (fun hc => ?_) (fun hc => ?_)
  · have h := h.1 hc
    refine z_aload_n (pc' := 17) dJ0_charAt_5068e_16 rfl rfl ?_
    obtain ⟨n5, h1, h2, h⟩ := h
    refine z_getSv (n := n5) (pc' := 20) dJ0_charAt_5068e_17 kJ0_9 rfl h1 h2 ?_
    refine z_iload_n (pc' := 21) dJ0_charAt_5068e_20 rfl rfl ?_
    obtain ⟨d1, b1, Qz, hm, hdd, hb, hkx, hk⟩ := h
    refine z_callS (Y := mJ2_charAt_3b067) (n := 2) (as := [.ref (zp (3840 + n5) 0), .int x1]) (st := []) (pc' := 24) hm dJ0_charAt_5068e_21 kJ0_498 sJ2_charAt_3b067 rfl rfl hdd hb (Nat.le_of_ble_eq_true rfl) (fun r G7 hz => ?_) hkx
    obtain ⟨y6, rfl, h⟩ := hk r G7 hz
    exact z_zret (ty := .char) dJ0_charAt_5068e_24 rfl h.1 h.2
  · have h := h.2 hc
    refine z_aload_n (pc' := 8) dJ0_charAt_5068e_7 rfl rfl ?_
    obtain ⟨n9, h1, h2, h⟩ := h
    refine z_getSv (n := n9) (pc' := 11) dJ0_charAt_5068e_8 kJ0_9 rfl h1 h2 ?_
    refine z_iload_n (pc' := 12) dJ0_charAt_5068e_11 rfl rfl ?_
    obtain ⟨d1, b1, Qz, hm, hdd, hb, hkx, hk⟩ := h
    refine z_callS (Y := mJ1_charAt_3b067) (n := 2) (as := [.ref (zp (3840 + n9) 0), .int x1]) (st := []) (pc' := 15) hm dJ0_charAt_5068e_12 kJ0_495 sJ1_charAt_3b067 rfl rfl hdd hb (Nat.le_of_ble_eq_true rfl) (fun r G11 hz => ?_) hkx
    obtain ⟨y10, rfl, h⟩ := hk r G11 hz
    exact z_zret (ty := .char) dJ0_charAt_5068e_15 rfl h.1 h.2
def wp_J7_checkLength_df160_0 (E : ZE) (l : Launch) (d b : Nat) (G0 : ZG) (Q : ZQ) (k : Nat) (x0 : Int32) (x1 : Int32) (G : ZG) : Prop :=
  ((x0 ≤ x1 →
    Q (.inl none) G) ∧
  (¬ (x0 ≤ x1) →
    False))
theorem wpt_J7_checkLength_df160_0 {E : ZE} {l : Launch} {d b : Nat} {G0 : ZG} {Q : ZQ} {k : Nat} {x0 : Int32} {x1 : Int32} {G : ZG} (h : wp_J7_checkLength_df160_0 E l d b G0 Q k x0 x1 G) : zW E l mJ7_checkLength_df160 d b G0 Q k 0 [some (.int x0), some (.int x1)] [] G := by
  unfold wp_J7_checkLength_df160_0 at h
  refine z_iload_n (pc' := 1) dJ7_checkLength_df160_0 rfl rfl ?_
  refine z_iload_n (pc' := 2) dJ7_checkLength_df160_1 rfl rfl ?_
  refine z_icmp_ge (pt := 37) (pc' := 5) dJ7_checkLength_df160_2 (by decide) rfl (fun hc => ?_) (fun hc => ?_)
  · have h := h.1 hc
    exact z_vret dJ7_checkLength_df160_37 rfl h
  · have h := h.2 hc
    exact h.elim
def wp_J7_copyOfRangeInt_feecc_0 (E : ZE) (l : Launch) (d b : Nat) (G0 : ZG) (Q : ZQ) (k : Nat) (q0 : Nat) (x1 : Int32) (x2 : Int32) (G : ZG) : Prop :=
  xcV E l mJ7_checkLength_df160 d [.int x1, .int x2] G k (fun X G9 => Q (.inr X) G9) (fun G1 k2 =>
  ¬ (x2 - x1) < 0 ∧ (x2 - x1).toNatClampNeg ≤ 67108864 ∧ (x2 - x1).toNatClampNeg + 1 ≤ k2 ∧ ∃ t3, 1024 ≤ t3 ∧ t3 < 3584 ∧ (t3 - 1024) / 512 = 0 ∧
  ∀ q_4, q_4 = zp t3 (zcn G1 t3) → ∀ G5, G5 = znw G1 t3 (x2 - x1).toNatClampNeg → ∀ k6, k6 = k2 - ((x2 - x1).toNatClampNeg + 1) →
  (zar G5 q0 0 ∨ zrd G5 q0 .int) ∧
  xcI E l mJ9_min_7cf53 d [.int ((Int32.ofNat (zln G5 q0)) - x1), .int (x2 - x1)] G5 k6 (fun X G9 => Q (.inr X) G9) (fun y7 G8 k9 =>
  zar G8 q0 0 ∧ zar G8 q_4 0 ∧ ¬ x1 < 0 ∧ ¬ (0 : Int32) < 0 ∧ ¬ y7 < 0 ∧ x1.toNatClampNeg + y7.toNatClampNeg ≤ zln G8 q0 ∧ (0 : Int32).toNatClampNeg + y7.toNatClampNeg ≤ zln G8 q_4 ∧ 2 ≤ d ∧
  ∀ G10, G10 = zcpI G8 q0 q_4 x1.toNatClampNeg (0 : Int32).toNatClampNeg y7.toNatClampNeg →
  Q (.inl (some (.ref q_4))) G10))
theorem wpt_J7_copyOfRangeInt_feecc_0 {E : ZE} {l : Launch} {d b : Nat} {G0 : ZG} {Q : ZQ} {k : Nat} {q0 : Nat} {x1 : Int32} {x2 : Int32} {G : ZG} (h : wp_J7_copyOfRangeInt_feecc_0 E l d b G0 Q k q0 x1 x2 G) : zW E l mJ7_copyOfRangeInt_feecc d b G0 Q k 0 [some (.ref q0), some (.int x1), some (.int x2), none, none] [] G := by
  unfold wp_J7_copyOfRangeInt_feecc_0 at h
  refine z_iload_n (pc' := 1) dJ7_copyOfRangeInt_feecc_0 rfl rfl ?_
  refine z_iload_n (pc' := 2) dJ7_copyOfRangeInt_feecc_1 rfl rfl ?_
  obtain ⟨d1, b1, Qz, hm, hdd, hb, hkx, hk⟩ := h
  refine z_callS (Y := mJ7_checkLength_df160) (n := 2) (as := [.int x1, .int x2]) (st := []) (pc' := 5) hm dJ7_copyOfRangeInt_feecc_2 kJ7_343 sJ7_checkLength_df160 rfl rfl hdd hb (Nat.le_of_ble_eq_true rfl) (fun r G1 hz => ?_) hkx
  obtain ⟨rfl, h⟩ := hk r G1 hz
  refine z_iload_n (pc' := 6) dJ7_copyOfRangeInt_feecc_5 rfl rfl ?_
  refine z_iload_n (pc' := 7) dJ7_copyOfRangeInt_feecc_6 rfl rfl ?_
  refine z_isub (pc' := 8) dJ7_copyOfRangeInt_feecc_7 rfl rfl ?_
  refine z_istore_n (pc' := 9) dJ7_copyOfRangeInt_feecc_8 (by decide) rfl ?_
  refine z_iload_n (pc' := 10) dJ7_copyOfRangeInt_feecc_9 rfl rfl ?_
  obtain ⟨h1, h2, h3, t3, h4, h5, h6, h⟩ := h
  obtain ⟨q_4, hq⟩ : ∃ z, z = zp t3 (zcn G1 t3) := ⟨_, rfl⟩
  obtain ⟨G5, hG⟩ : ∃ z, z = znw G1 t3 (x2 - x1).toNatClampNeg := ⟨_, rfl⟩
  have h := h _ hq _ hG _ rfl
  refine z_newa (t := t3) (kd := 0) (pc' := 12) dJ7_copyOfRangeInt_feecc_10 rfl (by decide) a_int rfl h4 h5 h6 h1 rfl h2 h3 ?_
  refine z_mk hq hG ?_
  refine z_astore (pc' := 14) dJ7_copyOfRangeInt_feecc_12 (by decide) rfl ?_
  refine z_aload_n (pc' := 15) dJ7_copyOfRangeInt_feecc_14 rfl rfl ?_
  refine z_iload_n (pc' := 16) dJ7_copyOfRangeInt_feecc_15 rfl rfl ?_
  refine z_aload (pc' := 18) dJ7_copyOfRangeInt_feecc_16 rfl rfl ?_
  refine z_iconst (x := 0) (pc' := 19) dJ7_copyOfRangeInt_feecc_18 (by decide) rfl ?_
  refine z_aload_n (pc' := 20) dJ7_copyOfRangeInt_feecc_19 rfl rfl ?_
  obtain ⟨h1, h⟩ := h
  refine z_alen (pc' := 21) dJ7_copyOfRangeInt_feecc_20 rfl (h1.imp (fun h => ⟨0, by decide, h⟩) (fun h => ⟨_, h⟩)) rfl ?_
  refine z_iload_n (pc' := 22) dJ7_copyOfRangeInt_feecc_21 rfl rfl ?_
  refine z_isub (pc' := 23) dJ7_copyOfRangeInt_feecc_22 rfl rfl ?_
  refine z_iload_n (pc' := 24) dJ7_copyOfRangeInt_feecc_23 rfl rfl ?_
  obtain ⟨d1, b1, Qz, hm, hdd, hb, hkx, hk⟩ := h
  refine z_callS (Y := mJ9_min_7cf53) (n := 2) (as := [.int ((Int32.ofNat (zln G5 q0)) - x1), .int (x2 - x1)]) (st := [.int 0, .ref q_4, .int x1, .ref q0]) (pc' := 27) hm dJ7_copyOfRangeInt_feecc_24 kJ7_304 sJ9_min_7cf53 rfl rfl hdd hb (Nat.le_of_ble_eq_true rfl) (fun r G8 hz => ?_) hkx
  obtain ⟨y7, rfl, h⟩ := hk r G8 hz
  obtain ⟨h1, h2, h3, h4, h5, h6, h7, h8, h⟩ := h
  obtain ⟨G10, hG⟩ : ∃ z, z = zcpI G8 q0 q_4 x1.toNatClampNeg (0 : Int32).toNatClampNeg y7.toNatClampNeg := ⟨_, rfl⟩
  have h := h _ hG
  refine z_copyI (pc' := 30) dJ7_copyOfRangeInt_feecc_27 kJ7_150 ac_nat ac_stat ac_ini rfl h1 h2 h3 h4 h5 h6 h7 h8 (Nat.le_of_ble_eq_true rfl) ?_
  refine z_st hG ?_
  refine z_aload (pc' := 32) dJ7_copyOfRangeInt_feecc_30 rfl rfl ?_
  exact z_aret dJ7_copyOfRangeInt_feecc_32 rfl (Or.inr ⟨_, rfl⟩) h
def wp_J7_copyOfRange_feecc_0 (E : ZE) (l : Launch) (d b : Nat) (G0 : ZG) (Q : ZQ) (k : Nat) (q0 : Nat) (x1 : Int32) (x2 : Int32) (G : ZG) : Prop :=
  ((¬ x1 = 0 →
    xcR E l mJ7_copyOfRangeInt_feecc d [.ref q0, .int x1, .int x2] G k (fun X G9 => Q (.inr X) G9) (fun y1 G2 k3 =>
    Q (.inl (some (.ref y1))) G2)) ∧
  (¬ (¬ x1 = 0) →
    (zar G q0 0 ∨ zrd G q0 .int) ∧
    ((x2 = (Int32.ofNat (zln G q0)) →
      zar G q0 0 ∧ 2 ≤ d ∧ zln G q0 + 1 ≤ k ∧ ∃ t4, 1024 ≤ t4 ∧ t4 < 3584 ∧ (t4 - 1024) / 512 = 0 ∧
      ∀ q_5, q_5 = zp t4 (zcn G t4) → ∀ G6, G6 = zdup G q0 t4 → ∀ k7, k7 = k - (zln G q0 + 1) →
      zar G6 q_5 0 ∧
      Q (.inl (some (.ref q_5))) G6) ∧
    (¬ (x2 = (Int32.ofNat (zln G q0))) →
      xcR E l mJ7_copyOfRangeInt_feecc d [.ref q0, .int x1, .int x2] G k (fun X G9 => Q (.inr X) G9) (fun y8 G9 k10 =>
      Q (.inl (some (.ref y8))) G9)))))
theorem wpt_J7_copyOfRange_feecc_0 {E : ZE} {l : Launch} {d b : Nat} {G0 : ZG} {Q : ZQ} {k : Nat} {q0 : Nat} {x1 : Int32} {x2 : Int32} {G : ZG} (h : wp_J7_copyOfRange_feecc_0 E l d b G0 Q k q0 x1 x2 G) : zW E l mJ7_copyOfRange_feecc d b G0 Q k 0 [some (.ref q0), some (.int x1), some (.int x2)] [] G := by
  unfold wp_J7_copyOfRange_feecc_0 at h
  refine z_iload_n (pc' := 1) dJ7_copyOfRange_feecc_0 rfl rfl ?_
  refine z_if_ne (pt := 10) (pc' := 4) dJ7_copyOfRange_feecc_1 (by decide) rfl (fun hc => ?_) (fun hc => ?_)
  · have h := h.1 hc
    refine z_aload_n (pc' := 11) dJ7_copyOfRange_feecc_10 rfl rfl ?_
    refine z_iload_n (pc' := 12) dJ7_copyOfRange_feecc_11 rfl rfl ?_
    refine z_iload_n (pc' := 13) dJ7_copyOfRange_feecc_12 rfl rfl ?_
    obtain ⟨d1, b1, Qz, hm, hdd, hb, hkx, hk⟩ := h
    refine z_callS (Y := mJ7_copyOfRangeInt_feecc) (n := 3) (as := [.ref q0, .int x1, .int x2]) (st := []) (pc' := 16) hm dJ7_copyOfRange_feecc_13 kJ7_351 sJ7_copyOfRangeInt_feecc rfl rfl hdd hb (Nat.le_of_ble_eq_true rfl) (fun r G2 hz => ?_) hkx
    obtain ⟨y1, rfl, h⟩ := hk r G2 hz
    exact z_aret dJ7_copyOfRange_feecc_16 rfl (Or.inr ⟨_, rfl⟩) h
  · have h := h.2 hc
    refine z_iload_n (pc' := 5) dJ7_copyOfRange_feecc_4 rfl rfl ?_
    refine z_aload_n (pc' := 6) dJ7_copyOfRange_feecc_5 rfl rfl ?_
    obtain ⟨h1, h⟩ := h
    refine z_alen (pc' := 7) dJ7_copyOfRange_feecc_6 rfl (h1.imp (fun h => ⟨0, by decide, h⟩) (fun h => ⟨_, h⟩)) rfl ?_
    refine z_icmp_eq (pt := 17) (pc' := 10) dJ7_copyOfRange_feecc_7 (by decide) rfl (fun hc => ?_) (fun hc => ?_)
    · have h := h.1 hc
      refine z_aload_n (pc' := 18) dJ7_copyOfRange_feecc_17 rfl rfl ?_
      obtain ⟨h1, h2, h3, t4, h4, h5, h6, h⟩ := h
      obtain ⟨q_5, hq⟩ : ∃ z, z = zp t4 (zcn G t4) := ⟨_, rfl⟩
      obtain ⟨G6, hG⟩ : ∃ z, z = zdup G q0 t4 := ⟨_, rfl⟩
      have h := h _ hq _ hG _ rfl
      refine z_clone (t := t4) (pc' := 21) dJ7_copyOfRange_feecc_18 kJ7_316 cl_same cl_nat cl_inst cl_sel cl_cast rfl h1 h4 h5 h6 h2 (Nat.le_of_ble_eq_true rfl) h3 ?_
      refine z_mk hq hG ?_
      obtain ⟨h1, h⟩ := h
      refine z_castA (pc' := 24) dJ7_copyOfRange_feecc_21 kJ7_317 rfl h1 ?_
      exact z_aret dJ7_copyOfRange_feecc_24 rfl (Or.inr ⟨_, rfl⟩) h
    · have h := h.2 hc
      refine z_aload_n (pc' := 11) dJ7_copyOfRange_feecc_10 rfl rfl ?_
      refine z_iload_n (pc' := 12) dJ7_copyOfRange_feecc_11 rfl rfl ?_
      refine z_iload_n (pc' := 13) dJ7_copyOfRange_feecc_12 rfl rfl ?_
      obtain ⟨d1, b1, Qz, hm, hdd, hb, hkx, hk⟩ := h
      refine z_callS (Y := mJ7_copyOfRangeInt_feecc) (n := 3) (as := [.ref q0, .int x1, .int x2]) (st := []) (pc' := 16) hm dJ7_copyOfRange_feecc_13 kJ7_351 sJ7_copyOfRangeInt_feecc rfl rfl hdd hb (Nat.le_of_ble_eq_true rfl) (fun r G9 hz => ?_) hkx
      obtain ⟨y8, rfl, h⟩ := hk r G9 hz
      exact z_aret dJ7_copyOfRange_feecc_16 rfl (Or.inr ⟨_, rfl⟩) h
