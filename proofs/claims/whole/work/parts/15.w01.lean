/-! what the methods come to -/
def wp_X11_hands_0 (E : ZE) (l : Launch) (d b : Nat) (G0 : ZG) (Q : ZQ) (k : Nat) (q0 : Nat) (x1 : Int32) (x2 : Int32) (G : ZG) : Prop :=
  xcV E l mX11_checkDesk d [.int x1] G k (fun X G9 => Q (.inr X) G9) (fun G1 k2 =>
  ((x2 < 0 →
    xcV E l mX11_demand d [.int 0] G1 k2 (fun X G9 => Q (.inr X) G9) (fun G3 k4 =>
    zob G3 q0 12 ∧
    zob G3 (zrv G3 q0 5) 3 ∧
    xcV E l mX2_setHands d [.ref (zrv G3 q0 5), .int x1, .int x2] G3 k4 (fun X G9 => Q (.inr X) G9) (fun G5 k6 =>
    Q (.inl none) G5))) ∧
  (¬ (x2 < 0) →
    ((30 < x2 →
      xcV E l mX11_demand d [.int 0] G1 k2 (fun X G9 => Q (.inr X) G9) (fun G7 k8 =>
      zob G7 q0 12 ∧
      zob G7 (zrv G7 q0 5) 3 ∧
      xcV E l mX2_setHands d [.ref (zrv G7 q0 5), .int x1, .int x2] G7 k8 (fun X G9 => Q (.inr X) G9) (fun G9 k10 =>
      Q (.inl none) G9))) ∧
    (¬ (30 < x2) →
      xcV E l mX11_demand d [.int 1] G1 k2 (fun X G9 => Q (.inr X) G9) (fun G11 k12 =>
      zob G11 q0 12 ∧
      zob G11 (zrv G11 q0 5) 3 ∧
      xcV E l mX2_setHands d [.ref (zrv G11 q0 5), .int x1, .int x2] G11 k12 (fun X G9 => Q (.inr X) G9) (fun G13 k14 =>
      Q (.inl none) G13)))))))
theorem wpt_X11_hands_0 {E : ZE} {l : Launch} {d b : Nat} {G0 : ZG} {Q : ZQ} {k : Nat} {q0 : Nat} {x1 : Int32} {x2 : Int32} {G : ZG} (h : wp_X11_hands_0 E l d b G0 Q k q0 x1 x2 G) : zW E l mX11_hands d b G0 Q k 0 [some (.ref q0), some (.int x1), some (.int x2)] [] G := by
  unfold wp_X11_hands_0 at h
  refine z_iload_n (pc' := 1) dX11_hands_0 rfl rfl ?_
  obtain ⟨d1, b1, Qz, hm, hdd, hb, hkx, hk⟩ := h
  refine z_callS (Y := mX11_checkDesk) (n := 1) (as := [.int x1]) (st := []) (pc' := 4) hm dX11_hands_1 kX11_288 sX11_checkDesk rfl rfl hdd hb (Nat.le_of_ble_eq_true rfl) (fun r G1 hz => ?_) hkx
  obtain ⟨rfl, h⟩ := hk r G1 hz
  refine z_iload_n (pc' := 5) dX11_hands_4 rfl rfl ?_
  refine z_if_lt (pt := 18) (pc' := 8) dX11_hands_5 (by decide) rfl (fun hc => ?_) (fun hc => ?_)
  · have h := h.1 hc
    refine z_iconst (x := 0) (pc' := 19) dX11_hands_18 (by decide) rfl ?_
    obtain ⟨d1, b1, Qz, hm, hdd, hb, hkx, hk⟩ := h
    refine z_callS (Y := mX11_demand) (n := 1) (as := [.int 0]) (st := []) (pc' := 22) hm dX11_hands_19 kX11_77 sX11_demand rfl rfl hdd hb (Nat.le_of_ble_eq_true rfl) (fun r G3 hz => ?_) hkx
    obtain ⟨rfl, h⟩ := hk r G3 hz
    refine z_aload_n (pc' := 23) dX11_hands_22 rfl rfl ?_
    obtain ⟨h1, h⟩ := h
    refine z_getR (ci := 12) (kf := 5) (pc' := 26) dX11_hands_23 kX11_37 (Or.inl rfl) (by decide) (by decide) rfl rfl h1 ?_
    refine z_iload_n (pc' := 27) dX11_hands_26 rfl rfl ?_
    refine z_iload_n (pc' := 28) dX11_hands_27 rfl rfl ?_
    obtain ⟨h1, h⟩ := h
    obtain ⟨d1, b1, Qz, hm, hdd, hb, hkx, hk⟩ := h
    refine z_callV (Y := mX2_setHands) (n := 2) (as := [.int x1, .int x2]) (st := []) (pc' := 31) (ci := 3) (q := (zrv G3 q0 5)) hm dX11_hands_28 kX11_291 vX2_setHands rfl rfl (by decide) rfl h1 hdd hb (Nat.le_of_ble_eq_true rfl) (fun r G5 hz => ?_) hkx
    obtain ⟨rfl, h⟩ := hk r G5 hz
    exact z_vret dX11_hands_31 rfl h
  · have h := h.2 hc
    refine z_iload_n (pc' := 9) dX11_hands_8 rfl rfl ?_
    refine z_bipush (x := 30) (pc' := 11) dX11_hands_9 (by decide) rfl ?_
    refine z_icmp_gt (pt := 18) (pc' := 14) dX11_hands_11 (by decide) rfl (fun hc => ?_) (fun hc => ?_)
    · have h := h.1 hc
      refine z_iconst (x := 0) (pc' := 19) dX11_hands_18 (by decide) rfl ?_
      obtain ⟨d1, b1, Qz, hm, hdd, hb, hkx, hk⟩ := h
      refine z_callS (Y := mX11_demand) (n := 1) (as := [.int 0]) (st := []) (pc' := 22) hm dX11_hands_19 kX11_77 sX11_demand rfl rfl hdd hb (Nat.le_of_ble_eq_true rfl) (fun r G7 hz => ?_) hkx
      obtain ⟨rfl, h⟩ := hk r G7 hz
      refine z_aload_n (pc' := 23) dX11_hands_22 rfl rfl ?_
      obtain ⟨h1, h⟩ := h
      refine z_getR (ci := 12) (kf := 5) (pc' := 26) dX11_hands_23 kX11_37 (Or.inl rfl) (by decide) (by decide) rfl rfl h1 ?_
      refine z_iload_n (pc' := 27) dX11_hands_26 rfl rfl ?_
      refine z_iload_n (pc' := 28) dX11_hands_27 rfl rfl ?_
      obtain ⟨h1, h⟩ := h
      obtain ⟨d1, b1, Qz, hm, hdd, hb, hkx, hk⟩ := h
      refine z_callV (Y := mX2_setHands) (n := 2) (as := [.int x1, .int x2]) (st := []) (pc' := 31) (ci := 3) (q := (zrv G7 q0 5)) hm dX11_hands_28 kX11_291 vX2_setHands rfl rfl (by decide) rfl h1 hdd hb (Nat.le_of_ble_eq_true rfl) (fun r G9 hz => ?_) hkx
      obtain ⟨rfl, h⟩ := hk r G9 hz
      exact z_vret dX11_hands_31 rfl h
    · have h := h.2 hc
      refine z_iconst (x := 1) (pc' := 15) dX11_hands_14 (by decide) rfl ?_
      refine z_goto (pc' := 19) dX11_hands_15 (by decide) ?_
      obtain ⟨d1, b1, Qz, hm, hdd, hb, hkx, hk⟩ := h
      refine z_callS (Y := mX11_demand) (n := 1) (as := [.int 1]) (st := []) (pc' := 22) hm dX11_hands_19 kX11_77 sX11_demand rfl rfl hdd hb (Nat.le_of_ble_eq_true rfl) (fun r G11 hz => ?_) hkx
      obtain ⟨rfl, h⟩ := hk r G11 hz
      refine z_aload_n (pc' := 23) dX11_hands_22 rfl rfl ?_
      obtain ⟨h1, h⟩ := h
      refine z_getR (ci := 12) (kf := 5) (pc' := 26) dX11_hands_23 kX11_37 (Or.inl rfl) (by decide) (by decide) rfl rfl h1 ?_
      refine z_iload_n (pc' := 27) dX11_hands_26 rfl rfl ?_
      refine z_iload_n (pc' := 28) dX11_hands_27 rfl rfl ?_
      obtain ⟨h1, h⟩ := h
      obtain ⟨d1, b1, Qz, hm, hdd, hb, hkx, hk⟩ := h
      refine z_callV (Y := mX2_setHands) (n := 2) (as := [.int x1, .int x2]) (st := []) (pc' := 31) (ci := 3) (q := (zrv G11 q0 5)) hm dX11_hands_28 kX11_291 vX2_setHands rfl rfl (by decide) rfl h1 hdd hb (Nat.le_of_ble_eq_true rfl) (fun r G13 hz => ?_) hkx
      obtain ⟨rfl, h⟩ := hk r G13 hz
      exact z_vret dX11_hands_31 rfl h
def wp_X11_init_0 (E : ZE) (l : Launch) (d b : Nat) (G0 : ZG) (Q : ZQ) (k : Nat) (q0 : Nat) (G : ZG) : Prop :=
  zal G q0 ∧ 1 ≤ d ∧
  ¬ (400 : Int32) < 0 ∧ (400 : Int32).toNatClampNeg ≤ 67108864 ∧ (400 : Int32).toNatClampNeg + 1 ≤ k ∧ ∃ t1, 1024 ≤ t1 ∧ t1 < 3584 ∧ (t1 - 1024) / 512 = 0 ∧
  ∀ q_2, q_2 = zp t1 (zcn G t1) → ∀ G3, G3 = znw G t1 (400 : Int32).toNatClampNeg → ∀ k4, k4 = k - ((400 : Int32).toNatClampNeg + 1) →
  zob G3 q0 12 ∧
  ∀ G5, G5 = zsr G3 q0 0 q_2 →
  zob G5 q0 12 ∧
  ∀ G6, G6 = zsi G5 q0 1 0 →
  zob G6 q0 12 ∧
  ∀ G7, G7 = zsi G6 q0 2 (-1) →
  4 ≤ k4 ∧ ∃ t8, t8 ≠ 0 ∧ t8 < 448 ∧ t8 / 32 = 0 ∧
  ∀ q_9, q_9 = zp t8 (zcn G7 t8) → ∀ G10, G10 = znw G7 t8 0 → ∀ k11, k11 = k4 - 4 →
  zal G10 q_9 ∧
  xcV E l mJx4a65c_init_da8c8 d [.ref q_9] G10 k11 (fun X G9 => Q (.inr X) G9) (fun G12 k13 =>
  zob G12 q0 12 ∧
  ∀ G14, G14 = zsr G12 q0 3 q_9 →
  2 ≤ k13 ∧ ∃ t15, t15 ≠ 0 ∧ t15 < 448 ∧ t15 / 32 = 8 ∧
  ∀ q_16, q_16 = zp t15 (zcn G14 t15) → ∀ G17, G17 = znw G14 t15 0 → ∀ k18, k18 = k13 - 2 →
  zal G17 q_16 ∧
  xcV E l mX7_init d [.ref q_16] G17 k18 (fun X G9 => Q (.inr X) G9) (fun G19 k20 =>
  zob G19 q0 12 ∧
  ∀ G21, G21 = zsr G19 q0 4 q_16 →
  3 ≤ k20 ∧ ∃ t22, t22 ≠ 0 ∧ t22 < 448 ∧ t22 / 32 = 3 ∧
  ∀ q_23, q_23 = zp t22 (zcn G21 t22) → ∀ G24, G24 = znw G21 t22 0 → ∀ k25, k25 = k20 - 3 →
  zal G24 q_23 ∧
  xcV E l mX2_init d [.ref q_23] G24 k25 (fun X G9 => Q (.inr X) G9) (fun G26 k27 =>
  zob G26 q0 12 ∧
  ∀ G28, G28 = zsr G26 q0 5 q_23 →
  8 ≤ k27 ∧ ∃ t29, t29 ≠ 0 ∧ t29 < 448 ∧ t29 / 32 = 10 ∧
  ∀ q_30, q_30 = zp t29 (zcn G28 t29) → ∀ G31, G31 = znw G28 t29 0 → ∀ k32, k32 = k27 - 8 →
  zal G31 q_30 ∧
  xcV E l mX9_init d [.ref q_30] G31 k32 (fun X G9 => Q (.inr X) G9) (fun G33 k34 =>
  zob G33 q0 12 ∧
  ∀ G35, G35 = zsr G33 q0 6 q_30 →
  15 ≤ k34 ∧ ∃ t36, t36 ≠ 0 ∧ t36 < 448 ∧ t36 / 32 = 7 ∧
  ∀ q_37, q_37 = zp t36 (zcn G35 t36) → ∀ G38, G38 = znw G35 t36 0 → ∀ k39, k39 = k34 - 15 →
  zob G38 q0 12 ∧
  zob G38 q0 12 ∧
  zob G38 q0 12 ∧
  zal G38 q_37 ∧
  xcV E l mX6_init d [.ref q_37, .ref (zrv G38 q0 4), .ref (zrv G38 q0 5), .ref (zrv G38 q0 6)] G38 k39 (fun X G9 => Q (.inr X) G9) (fun G40 k41 =>
  zob G40 q0 12 ∧
  ∀ G42, G42 = zsr G40 q0 7 q_37 →
  15 ≤ k41 ∧ ∃ t43, t43 ≠ 0 ∧ t43 < 448 ∧ t43 / 32 = 7 ∧
  ∀ q_44, q_44 = zp t43 (zcn G42 t43) → ∀ G45, G45 = znw G42 t43 0 → ∀ k46, k46 = k41 - 15 →
  zob G45 q0 12 ∧
  zob G45 q0 12 ∧
  zob G45 q0 12 ∧
  zal G45 q_44 ∧
  xcV E l mX6_init d [.ref q_44, .ref (zrv G45 q0 4), .ref (zrv G45 q0 5), .ref (zrv G45 q0 6)] G45 k46 (fun X G9 => Q (.inr X) G9) (fun G47 k48 =>
  zob G47 q0 12 ∧
  ∀ G49, G49 = zsr G47 q0 8 q_44 →
  Q (.inl none) G49))))))
theorem wpt_X11_init_0 {E : ZE} {l : Launch} {d b : Nat} {G0 : ZG} {Q : ZQ} {k : Nat} {q0 : Nat} {G : ZG} (h : wp_X11_init_0 E l d b G0 Q k q0 G) : zW E l mX11_init d b G0 Q k 0 [some (.ref q0)] [] G := by
  unfold wp_X11_init_0 at h
  refine z_aload_n (pc' := 1) dX11_init_0 rfl rfl ?_
  obtain ⟨h1, h2, h⟩ := h
  refine z_objInit (pc' := 4) dX11_init_1 kX11_1 o_inst o_code rfl h2 h1 (Nat.le_of_ble_eq_true rfl) ?_
  refine z_aload_n (pc' := 5) dX11_init_4 rfl rfl ?_
  refine z_sipush (x := 400) (pc' := 8) dX11_init_5 (by decide) rfl ?_
  obtain ⟨h1, h2, h3, t1, h4, h5, h6, h⟩ := h
  obtain ⟨q_2, hq⟩ : ∃ z, z = zp t1 (zcn G t1) := ⟨_, rfl⟩
  obtain ⟨G3, hG⟩ : ∃ z, z = znw G t1 (400 : Int32).toNatClampNeg := ⟨_, rfl⟩
  have h := h _ hq _ hG _ rfl
  refine z_newa (t := t1) (kd := 0) (pc' := 10) dX11_init_8 rfl (by decide) a_int rfl h4 h5 h6 h1 rfl h2 h3 ?_
  refine z_mk hq hG ?_
  obtain ⟨h1, h⟩ := h
  obtain ⟨G5, hG⟩ : ∃ z, z = zsr G3 q0 0 q_2 := ⟨_, rfl⟩
  have h := h _ hG
  refine z_putR (ci := 12) (kf := 0) (pc' := 13) dX11_init_10 kX11_9 (Or.inl rfl) (by decide) (by decide) rfl (Or.inr ⟨rfl, rfl⟩) rfl h1 ?_
  refine z_st hG ?_
  refine z_aload_n (pc' := 14) dX11_init_13 rfl rfl ?_
  refine z_iconst (x := 0) (pc' := 15) dX11_init_14 (by decide) rfl ?_
  obtain ⟨h1, h⟩ := h
  obtain ⟨G6, hG⟩ : ∃ z, z = zsi G5 q0 1 0 := ⟨_, rfl⟩
  have h := h _ hG
  refine z_putI (ci := 12) (kf := 1) (pc' := 18) dX11_init_15 kX11_13 (Or.inl rfl) (by decide) (by decide) rfl (Or.inl rfl) rfl h1 (zok_int _) ?_
  refine z_st hG ?_
  refine z_aload_n (pc' := 19) dX11_init_18 rfl rfl ?_
  refine z_iconst (x := (-1)) (pc' := 20) dX11_init_19 (by decide) rfl ?_
  obtain ⟨h1, h⟩ := h
  obtain ⟨G7, hG⟩ : ∃ z, z = zsi G6 q0 2 (-1) := ⟨_, rfl⟩
  have h := h _ hG
  refine z_putI (ci := 12) (kf := 2) (pc' := 23) dX11_init_20 kX11_17 (Or.inl rfl) (by decide) (by decide) rfl (Or.inl rfl) rfl h1 (zok_int _) ?_
  refine z_st hG ?_
  refine z_aload_n (pc' := 24) dX11_init_23 rfl rfl ?_
  obtain ⟨h1, t8, h2, h3, h4, h⟩ := h
  obtain ⟨q_9, hq⟩ : ∃ z, z = zp t8 (zcn G7 t8) := ⟨_, rfl⟩
  obtain ⟨G10, hG⟩ : ∃ z, z = znw G7 t8 0 := ⟨_, rfl⟩
  have h := h _ hq _ hG _ rfl
  refine z_new (ci := 0) (t := t8) (pc' := 27) dX11_init_24 kX11_20 n0_inst n0_ini (by decide) rfl h2 h3 h4 h1 (z_df (by decide)) ?_
  refine z_mk hq hG ?_
  refine z_dup (pc' := 28) dX11_init_27 rfl rfl ?_
  obtain ⟨h1, h⟩ := h
  obtain ⟨d1, b1, Qz, hm, hdd, hb, hkx, hk⟩ := h
  refine z_callI (Y := mJx4a65c_init_da8c8) (n := 0) (as := []) (st := [.ref q_9, .ref q0]) (pc' := 31) (q := q_9) hm dX11_init_28 kX11_22 iJx4a65c_init_da8c8 rfl rfl h1 hdd hb (Nat.le_of_ble_eq_true rfl) (fun r G12 hz => ?_) hkx
  obtain ⟨rfl, h⟩ := hk r G12 hz
  obtain ⟨h1, h⟩ := h
  obtain ⟨G14, hG⟩ : ∃ z, z = zsr G12 q0 3 q_9 := ⟨_, rfl⟩
  have h := h _ hG
  refine z_putR (ci := 12) (kf := 3) (pc' := 34) dX11_init_31 kX11_23 (Or.inl rfl) (by decide) (by decide) rfl (Or.inr ⟨rfl, rfl⟩) rfl h1 ?_
  refine z_st hG ?_
  refine z_aload_n (pc' := 35) dX11_init_34 rfl rfl ?_
  obtain ⟨h1, t15, h2, h3, h4, h⟩ := h
  obtain ⟨q_16, hq⟩ : ∃ z, z = zp t15 (zcn G14 t15) := ⟨_, rfl⟩
  obtain ⟨G17, hG⟩ : ∃ z, z = znw G14 t15 0 := ⟨_, rfl⟩
  have h := h _ hq _ hG _ rfl
  refine z_new (ci := 8) (t := t15) (pc' := 38) dX11_init_35 kX11_27 n8_inst n8_ini (by decide) rfl h2 h3 h4 h1 (z_df (by decide)) ?_
  refine z_mk hq hG ?_
  refine z_dup (pc' := 39) dX11_init_38 rfl rfl ?_
  obtain ⟨h1, h⟩ := h
  obtain ⟨d1, b1, Qz, hm, hdd, hb, hkx, hk⟩ := h
  refine z_callN (host := RX11) (Y := mX7_init) (n := 0) (as := []) (st := [.ref q_16, .ref q0]) (pc' := 42) (q := q_16) hm dX11_init_39 zne_X11_29 iX7_init rfl rfl h1 hdd hb (Nat.le_of_ble_eq_true rfl) (fun r G19 hz => ?_) hkx
  obtain ⟨rfl, h⟩ := hk r G19 hz
  obtain ⟨h1, h⟩ := h
  obtain ⟨G21, hG⟩ : ∃ z, z = zsr G19 q0 4 q_16 := ⟨_, rfl⟩
  have h := h _ hG
  refine z_putR (ci := 12) (kf := 4) (pc' := 45) dX11_init_42 kX11_30 (Or.inl rfl) (by decide) (by decide) rfl (Or.inr ⟨rfl, rfl⟩) rfl h1 ?_
  refine z_st hG ?_
  refine z_aload_n (pc' := 46) dX11_init_45 rfl rfl ?_
  obtain ⟨h1, t22, h2, h3, h4, h⟩ := h
  obtain ⟨q_23, hq⟩ : ∃ z, z = zp t22 (zcn G21 t22) := ⟨_, rfl⟩
  obtain ⟨G24, hG⟩ : ∃ z, z = znw G21 t22 0 := ⟨_, rfl⟩
  have h := h _ hq _ hG _ rfl
  refine z_new (ci := 3) (t := t22) (pc' := 49) dX11_init_46 kX11_34 n3_inst n3_ini (by decide) rfl h2 h3 h4 h1 (z_df (by decide)) ?_
  refine z_mk hq hG ?_
  refine z_dup (pc' := 50) dX11_init_49 rfl rfl ?_
  obtain ⟨h1, h⟩ := h
  obtain ⟨d1, b1, Qz, hm, hdd, hb, hkx, hk⟩ := h
  refine z_callN (host := RX11) (Y := mX2_init) (n := 0) (as := []) (st := [.ref q_23, .ref q0]) (pc' := 53) (q := q_23) hm dX11_init_50 zne_X11_36 iX2_init rfl rfl h1 hdd hb (Nat.le_of_ble_eq_true rfl) (fun r G26 hz => ?_) hkx
  obtain ⟨rfl, h⟩ := hk r G26 hz
  obtain ⟨h1, h⟩ := h
  obtain ⟨G28, hG⟩ : ∃ z, z = zsr G26 q0 5 q_23 := ⟨_, rfl⟩
  have h := h _ hG
  refine z_putR (ci := 12) (kf := 5) (pc' := 56) dX11_init_53 kX11_37 (Or.inl rfl) (by decide) (by decide) rfl (Or.inr ⟨rfl, rfl⟩) rfl h1 ?_
  refine z_st hG ?_
  refine z_aload_n (pc' := 57) dX11_init_56 rfl rfl ?_
  obtain ⟨h1, t29, h2, h3, h4, h⟩ := h
  obtain ⟨q_30, hq⟩ : ∃ z, z = zp t29 (zcn G28 t29) := ⟨_, rfl⟩
  obtain ⟨G31, hG⟩ : ∃ z, z = znw G28 t29 0 := ⟨_, rfl⟩
  have h := h _ hq _ hG _ rfl
  refine z_new (ci := 10) (t := t29) (pc' := 60) dX11_init_57 kX11_41 n10_inst n10_ini (by decide) rfl h2 h3 h4 h1 (z_df (by decide)) ?_
  refine z_mk hq hG ?_
  refine z_dup (pc' := 61) dX11_init_60 rfl rfl ?_
  obtain ⟨h1, h⟩ := h
  obtain ⟨d1, b1, Qz, hm, hdd, hb, hkx, hk⟩ := h
  refine z_callN (host := RX11) (Y := mX9_init) (n := 0) (as := []) (st := [.ref q_30, .ref q0]) (pc' := 64) (q := q_30) hm dX11_init_61 zne_X11_43 iX9_init rfl rfl h1 hdd hb (Nat.le_of_ble_eq_true rfl) (fun r G33 hz => ?_) hkx
  obtain ⟨rfl, h⟩ := hk r G33 hz
  obtain ⟨h1, h⟩ := h
  obtain ⟨G35, hG⟩ : ∃ z, z = zsr G33 q0 6 q_30 := ⟨_, rfl⟩
  have h := h _ hG
  refine z_putR (ci := 12) (kf := 6) (pc' := 67) dX11_init_64 kX11_44 (Or.inl rfl) (by decide) (by decide) rfl (Or.inr ⟨rfl, rfl⟩) rfl h1 ?_
  refine z_st hG ?_
  refine z_aload_n (pc' := 68) dX11_init_67 rfl rfl ?_
  obtain ⟨h1, t36, h2, h3, h4, h⟩ := h
  obtain ⟨q_37, hq⟩ : ∃ z, z = zp t36 (zcn G35 t36) := ⟨_, rfl⟩
  obtain ⟨G38, hG⟩ : ∃ z, z = znw G35 t36 0 := ⟨_, rfl⟩
  have h := h _ hq _ hG _ rfl
  refine z_new (ci := 7) (t := t36) (pc' := 71) dX11_init_68 kX11_48 n7_inst n7_ini (by decide) rfl h2 h3 h4 h1 (z_df (by decide)) ?_
  refine z_mk hq hG ?_
  refine z_dup (pc' := 72) dX11_init_71 rfl rfl ?_
  refine z_aload_n (pc' := 73) dX11_init_72 rfl rfl ?_
  obtain ⟨h1, h⟩ := h
  refine z_getR (ci := 12) (kf := 4) (pc' := 76) dX11_init_73 kX11_30 (Or.inl rfl) (by decide) (by decide) rfl rfl h1 ?_
  refine z_aload_n (pc' := 77) dX11_init_76 rfl rfl ?_
  obtain ⟨h1, h⟩ := h
  refine z_getR (ci := 12) (kf := 5) (pc' := 80) dX11_init_77 kX11_37 (Or.inl rfl) (by decide) (by decide) rfl rfl h1 ?_
  refine z_aload_n (pc' := 81) dX11_init_80 rfl rfl ?_
  obtain ⟨h1, h⟩ := h
  refine z_getR (ci := 12) (kf := 6) (pc' := 84) dX11_init_81 kX11_44 (Or.inl rfl) (by decide) (by decide) rfl rfl h1 ?_
  obtain ⟨h1, h⟩ := h
  obtain ⟨d1, b1, Qz, hm, hdd, hb, hkx, hk⟩ := h
  refine z_callI (Y := mX6_init) (n := 3) (as := [.ref (zrv G38 q0 4), .ref (zrv G38 q0 5), .ref (zrv G38 q0 6)]) (st := [.ref q_37, .ref q0]) (pc' := 87) (q := q_37) hm dX11_init_84 kX11_50 iX6_init rfl rfl h1 hdd hb (Nat.le_of_ble_eq_true rfl) (fun r G40 hz => ?_) hkx
  obtain ⟨rfl, h⟩ := hk r G40 hz
  obtain ⟨h1, h⟩ := h
  obtain ⟨G42, hG⟩ : ∃ z, z = zsr G40 q0 7 q_37 := ⟨_, rfl⟩
  have h := h _ hG
  refine z_putR (ci := 12) (kf := 7) (pc' := 90) dX11_init_87 kX11_53 (Or.inl rfl) (by decide) (by decide) rfl (Or.inr ⟨rfl, rfl⟩) rfl h1 ?_
  refine z_st hG ?_
  refine z_aload_n (pc' := 91) dX11_init_90 rfl rfl ?_
  obtain ⟨h1, t43, h2, h3, h4, h⟩ := h
  obtain ⟨q_44, hq⟩ : ∃ z, z = zp t43 (zcn G42 t43) := ⟨_, rfl⟩
  obtain ⟨G45, hG⟩ : ∃ z, z = znw G42 t43 0 := ⟨_, rfl⟩
  have h := h _ hq _ hG _ rfl
  refine z_new (ci := 7) (t := t43) (pc' := 94) dX11_init_91 kX11_48 n7_inst n7_ini (by decide) rfl h2 h3 h4 h1 (z_df (by decide)) ?_
  refine z_mk hq hG ?_
  refine z_dup (pc' := 95) dX11_init_94 rfl rfl ?_
  refine z_aload_n (pc' := 96) dX11_init_95 rfl rfl ?_
  obtain ⟨h1, h⟩ := h
  refine z_getR (ci := 12) (kf := 4) (pc' := 99) dX11_init_96 kX11_30 (Or.inl rfl) (by decide) (by decide) rfl rfl h1 ?_
  refine z_aload_n (pc' := 100) dX11_init_99 rfl rfl ?_
  obtain ⟨h1, h⟩ := h
  refine z_getR (ci := 12) (kf := 5) (pc' := 103) dX11_init_100 kX11_37 (Or.inl rfl) (by decide) (by decide) rfl rfl h1 ?_
  refine z_aload_n (pc' := 104) dX11_init_103 rfl rfl ?_
  obtain ⟨h1, h⟩ := h
  refine z_getR (ci := 12) (kf := 6) (pc' := 107) dX11_init_104 kX11_44 (Or.inl rfl) (by decide) (by decide) rfl rfl h1 ?_
  obtain ⟨h1, h⟩ := h
  obtain ⟨d1, b1, Qz, hm, hdd, hb, hkx, hk⟩ := h
  refine z_callI (Y := mX6_init) (n := 3) (as := [.ref (zrv G45 q0 4), .ref (zrv G45 q0 5), .ref (zrv G45 q0 6)]) (st := [.ref q_44, .ref q0]) (pc' := 110) (q := q_44) hm dX11_init_107 kX11_50 iX6_init rfl rfl h1 hdd hb (Nat.le_of_ble_eq_true rfl) (fun r G47 hz => ?_) hkx
  obtain ⟨rfl, h⟩ := hk r G47 hz
  obtain ⟨h1, h⟩ := h
  obtain ⟨G49, hG⟩ : ∃ z, z = zsr G47 q0 8 q_44 := ⟨_, rfl⟩
  have h := h _ hG
  refine z_putR (ci := 12) (kf := 8) (pc' := 113) dX11_init_110 kX11_57 (Or.inl rfl) (by decide) (by decide) rfl (Or.inr ⟨rfl, rfl⟩) rfl h1 ?_
  refine z_st hG ?_
  exact z_vret dX11_init_113 rfl h
def wp_X11_isFace_0 (E : ZE) (l : Launch) (d b : Nat) (G0 : ZG) (Q : ZQ) (k : Nat) (x0 : Int32) (G : ZG) : Prop :=
  ((x0 < 0 →
    Q (.inl (some (.int 0))) G) ∧
  (¬ (x0 < 0) →
    ((99 < x0 →
      Q (.inl (some (.int 0))) G) ∧
    (¬ (99 < x0) →
      Q (.inl (some (.int 1))) G))))
theorem wpt_X11_isFace_0 {E : ZE} {l : Launch} {d b : Nat} {G0 : ZG} {Q : ZQ} {k : Nat} {x0 : Int32} {G : ZG} (h : wp_X11_isFace_0 E l d b G0 Q k x0 G) : zW E l mX11_isFace d b G0 Q k 0 [some (.int x0)] [] G := by
  unfold wp_X11_isFace_0 at h
  refine z_iload_n (pc' := 1) dX11_isFace_0 rfl rfl ?_
  refine z_if_lt (pt := 14) (pc' := 4) dX11_isFace_1 (by decide) rfl (fun hc => ?_) (fun hc => ?_)
  · have h := h.1 hc
    refine z_iconst (x := 0) (pc' := 15) dX11_isFace_14 (by decide) rfl ?_
    exact z_zret (ty := .boolean) dX11_isFace_15 rfl (by decide) h
  · have h := h.2 hc
    refine z_iload_n (pc' := 5) dX11_isFace_4 rfl rfl ?_
    refine z_bipush (x := 99) (pc' := 7) dX11_isFace_5 (by decide) rfl ?_
    refine z_icmp_gt (pt := 14) (pc' := 10) dX11_isFace_7 (by decide) rfl (fun hc => ?_) (fun hc => ?_)
    · have h := h.1 hc
      refine z_iconst (x := 0) (pc' := 15) dX11_isFace_14 (by decide) rfl ?_
      exact z_zret (ty := .boolean) dX11_isFace_15 rfl (by decide) h
    · have h := h.2 hc
      refine z_iconst (x := 1) (pc' := 11) dX11_isFace_10 (by decide) rfl ?_
      refine z_goto (pc' := 15) dX11_isFace_11 (by decide) ?_
      exact z_zret (ty := .boolean) dX11_isFace_15 rfl (by decide) h
def wp_X11_isItems_0 (E : ZE) (l : Launch) (d b : Nat) (G0 : ZG) (Q : ZQ) (k : Nat) (x0 : Int32) (G : ZG) : Prop :=
  ((x0 < 0 →
    Q (.inl (some (.int 0))) G) ∧
  (¬ (x0 < 0) →
    ((255 < x0 →
      Q (.inl (some (.int 0))) G) ∧
    (¬ (255 < x0) →
      Q (.inl (some (.int 1))) G))))
theorem wpt_X11_isItems_0 {E : ZE} {l : Launch} {d b : Nat} {G0 : ZG} {Q : ZQ} {k : Nat} {x0 : Int32} {G : ZG} (h : wp_X11_isItems_0 E l d b G0 Q k x0 G) : zW E l mX11_isItems d b G0 Q k 0 [some (.int x0)] [] G := by
  unfold wp_X11_isItems_0 at h
  refine z_iload_n (pc' := 1) dX11_isItems_0 rfl rfl ?_
  refine z_if_lt (pt := 15) (pc' := 4) dX11_isItems_1 (by decide) rfl (fun hc => ?_) (fun hc => ?_)
  · have h := h.1 hc
    refine z_iconst (x := 0) (pc' := 16) dX11_isItems_15 (by decide) rfl ?_
    exact z_zret (ty := .boolean) dX11_isItems_16 rfl (by decide) h
  · have h := h.2 hc
    refine z_iload_n (pc' := 5) dX11_isItems_4 rfl rfl ?_
    refine z_sipush (x := 255) (pc' := 8) dX11_isItems_5 (by decide) rfl ?_
    refine z_icmp_gt (pt := 15) (pc' := 11) dX11_isItems_8 (by decide) rfl (fun hc => ?_) (fun hc => ?_)
    · have h := h.1 hc
      refine z_iconst (x := 0) (pc' := 16) dX11_isItems_15 (by decide) rfl ?_
      exact z_zret (ty := .boolean) dX11_isItems_16 rfl (by decide) h
    · have h := h.2 hc
      refine z_iconst (x := 1) (pc' := 12) dX11_isItems_11 (by decide) rfl ?_
      refine z_goto (pc' := 16) dX11_isItems_12 (by decide) ?_
      exact z_zret (ty := .boolean) dX11_isItems_16 rfl (by decide) h
def wp_X11_isKind_0 (E : ZE) (l : Launch) (d b : Nat) (G0 : ZG) (Q : ZQ) (k : Nat) (x0 : Int32) (G : ZG) : Prop :=
  ((x0 < 0 →
    Q (.inl (some (.int 0))) G) ∧
  (¬ (x0 < 0) →
    ((4 ≤ x0 →
      Q (.inl (some (.int 0))) G) ∧
    (¬ (4 ≤ x0) →
      Q (.inl (some (.int 1))) G))))
theorem wpt_X11_isKind_0 {E : ZE} {l : Launch} {d b : Nat} {G0 : ZG} {Q : ZQ} {k : Nat} {x0 : Int32} {G : ZG} (h : wp_X11_isKind_0 E l d b G0 Q k x0 G) : zW E l mX11_isKind d b G0 Q k 0 [some (.int x0)] [] G := by
  unfold wp_X11_isKind_0 at h
  refine z_iload_n (pc' := 1) dX11_isKind_0 rfl rfl ?_
  refine z_if_lt (pt := 13) (pc' := 4) dX11_isKind_1 (by decide) rfl (fun hc => ?_) (fun hc => ?_)
  · have h := h.1 hc
    refine z_iconst (x := 0) (pc' := 14) dX11_isKind_13 (by decide) rfl ?_
    exact z_zret (ty := .boolean) dX11_isKind_14 rfl (by decide) h
  · have h := h.2 hc
    refine z_iload_n (pc' := 5) dX11_isKind_4 rfl rfl ?_
    refine z_iconst (x := 4) (pc' := 6) dX11_isKind_5 (by decide) rfl ?_
    refine z_icmp_ge (pt := 13) (pc' := 9) dX11_isKind_6 (by decide) rfl (fun hc => ?_) (fun hc => ?_)
    · have h := h.1 hc
      refine z_iconst (x := 0) (pc' := 14) dX11_isKind_13 (by decide) rfl ?_
      exact z_zret (ty := .boolean) dX11_isKind_14 rfl (by decide) h
    · have h := h.2 hc
      refine z_iconst (x := 1) (pc' := 10) dX11_isKind_9 (by decide) rfl ?_
      refine z_goto (pc' := 14) dX11_isKind_10 (by decide) ?_
      exact z_zret (ty := .boolean) dX11_isKind_14 rfl (by decide) h
def wp_X11_isOrder_0 (E : ZE) (l : Launch) (d b : Nat) (G0 : ZG) (Q : ZQ) (k : Nat) (x0 : Int32) (G : ZG) : Prop :=
  ((x0 < 0 →
    Q (.inl (some (.int 0))) G) ∧
  (¬ (x0 < 0) →
    ((3 ≤ x0 →
      Q (.inl (some (.int 0))) G) ∧
    (¬ (3 ≤ x0) →
      Q (.inl (some (.int 1))) G))))
theorem wpt_X11_isOrder_0 {E : ZE} {l : Launch} {d b : Nat} {G0 : ZG} {Q : ZQ} {k : Nat} {x0 : Int32} {G : ZG} (h : wp_X11_isOrder_0 E l d b G0 Q k x0 G) : zW E l mX11_isOrder d b G0 Q k 0 [some (.int x0)] [] G := by
  unfold wp_X11_isOrder_0 at h
  refine z_iload_n (pc' := 1) dX11_isOrder_0 rfl rfl ?_
  refine z_if_lt (pt := 13) (pc' := 4) dX11_isOrder_1 (by decide) rfl (fun hc => ?_) (fun hc => ?_)
  · have h := h.1 hc
    refine z_iconst (x := 0) (pc' := 14) dX11_isOrder_13 (by decide) rfl ?_
    exact z_zret (ty := .boolean) dX11_isOrder_14 rfl (by decide) h
  · have h := h.2 hc
    refine z_iload_n (pc' := 5) dX11_isOrder_4 rfl rfl ?_
    refine z_iconst (x := 3) (pc' := 6) dX11_isOrder_5 (by decide) rfl ?_
    refine z_icmp_ge (pt := 13) (pc' := 9) dX11_isOrder_6 (by decide) rfl (fun hc => ?_) (fun hc => ?_)
    · have h := h.1 hc
      refine z_iconst (x := 0) (pc' := 14) dX11_isOrder_13 (by decide) rfl ?_
      exact z_zret (ty := .boolean) dX11_isOrder_14 rfl (by decide) h
    · have h := h.2 hc
      refine z_iconst (x := 1) (pc' := 10) dX11_isOrder_9 (by decide) rfl ?_
      refine z_goto (pc' := 14) dX11_isOrder_10 (by decide) ?_
      exact z_zret (ty := .boolean) dX11_isOrder_14 rfl (by decide) h
def wp_X11_isWanted_0 (E : ZE) (l : Launch) (d b : Nat) (G0 : ZG) (Q : ZQ) (k : Nat) (q0 : Nat) (x1 : Int32) (G : ZG) : Prop :=
  zob G q0 12 ∧
  zob G (zrv G q0 7) 7 ∧
  ((x1 < (ziv G (zrv G q0 7) 6) →
    Q (.inl (some (.int 0))) G) ∧
  (¬ (x1 < (ziv G (zrv G q0 7) 6)) →
    ((1000 < x1 →
      Q (.inl (some (.int 0))) G) ∧
    (¬ (1000 < x1) →
      Q (.inl (some (.int 1))) G))))
theorem wpt_X11_isWanted_0 {E : ZE} {l : Launch} {d b : Nat} {G0 : ZG} {Q : ZQ} {k : Nat} {q0 : Nat} {x1 : Int32} {G : ZG} (h : wp_X11_isWanted_0 E l d b G0 Q k q0 x1 G) : zW E l mX11_isWanted d b G0 Q k 0 [some (.ref q0), some (.int x1)] [] G := by
  unfold wp_X11_isWanted_0 at h
  refine z_iload_n (pc' := 1) dX11_isWanted_0 rfl rfl ?_
  refine z_aload_n (pc' := 2) dX11_isWanted_1 rfl rfl ?_
  obtain ⟨h1, h⟩ := h
  refine z_getR (ci := 12) (kf := 7) (pc' := 5) dX11_isWanted_2 kX11_53 (Or.inl rfl) (by decide) (by decide) rfl rfl h1 ?_
  obtain ⟨h1, h⟩ := h
  refine z_getI (ci := 7) (kf := 6) (pc' := 8) dX11_isWanted_5 kX11_74 (Or.inl rfl) (by decide) (by decide) rfl rfl h1 ?_
  refine z_icmp_lt (pt := 22) (pc' := 11) dX11_isWanted_8 (by decide) rfl (fun hc => ?_) (fun hc => ?_)
  · have h := h.1 hc
    refine z_iconst (x := 0) (pc' := 23) dX11_isWanted_22 (by decide) rfl ?_
    exact z_zret (ty := .boolean) dX11_isWanted_23 rfl (by decide) h
  · have h := h.2 hc
    refine z_iload_n (pc' := 12) dX11_isWanted_11 rfl rfl ?_
    refine z_sipush (x := 1000) (pc' := 15) dX11_isWanted_12 (by decide) rfl ?_
    refine z_icmp_gt (pt := 22) (pc' := 18) dX11_isWanted_15 (by decide) rfl (fun hc => ?_) (fun hc => ?_)
    · have h := h.1 hc
      refine z_iconst (x := 0) (pc' := 23) dX11_isWanted_22 (by decide) rfl ?_
      exact z_zret (ty := .boolean) dX11_isWanted_23 rfl (by decide) h
    · have h := h.2 hc
      refine z_iconst (x := 1) (pc' := 19) dX11_isWanted_18 (by decide) rfl ?_
      refine z_goto (pc' := 23) dX11_isWanted_19 (by decide) ?_
      exact z_zret (ty := .boolean) dX11_isWanted_23 rfl (by decide) h
def wp_X11_judge_0 (E : ZE) (l : Launch) (d b : Nat) (G0 : ZG) (Q : ZQ) (k : Nat) (q0 : Nat) (x1 : Int32) (x2 : Int32) (x3 : Int32) (x4 : Int32) (x5 : Int32) (G : ZG) : Prop :=
  zob G q0 12 ∧
  xcR E l mX11_personAt d [.ref q0, .int x1] G k (fun X G9 => Q (.inr X) G9) (fun y1 G2 k3 =>
  xcI E l mX11_isKind d [.int x2] G2 k3 (fun X G9 => Q (.inr X) G9) (fun y4 G5 k6 =>
  ((y4 = 0 →
    zW E l mX11_judge d b G0 Q k6 27 [some (.ref q0), none, some (.int x2), some (.int x3), some (.int x4), some (.int x5), some (.ref y1), none] [.int 0] G5) ∧
  (¬ (y4 = 0) →
    zob G5 q0 12 ∧
    xcI E l mX11_isWanted d [.ref q0, .int x3] G5 k6 (fun X G9 => Q (.inr X) G9) (fun y7 G8 k9 =>
    ((y7 = 0 →
      zW E l mX11_judge d b G0 Q k9 27 [some (.ref q0), none, some (.int x2), some (.int x3), some (.int x4), some (.int x5), some (.ref y1), none] [.int 0] G8) ∧
    (¬ (y7 = 0) →
      zW E l mX11_judge d b G0 Q k9 27 [some (.ref q0), none, some (.int x2), some (.int x3), some (.int x4), some (.int x5), some (.ref y1), none] [.int 1] G8)))))))
theorem wpt_X11_judge_0 {E : ZE} {l : Launch} {d b : Nat} {G0 : ZG} {Q : ZQ} {k : Nat} {q0 : Nat} {x1 : Int32} {x2 : Int32} {x3 : Int32} {x4 : Int32} {x5 : Int32} {G : ZG} (htr : l.stackTraces = false) (h : wp_X11_judge_0 E l d b G0 Q k q0 x1 x2 x3 x4 x5 G) : zW E l mX11_judge d b G0 Q k 0 [some (.ref q0), some (.int x1), some (.int x2), some (.int x3), some (.int x4), some (.int x5), none, none] [] G := by
  unfold wp_X11_judge_0 at h
  refine z_aload_n (pc' := 1) dX11_judge_0 rfl rfl ?_
  refine z_iload_n (pc' := 2) dX11_judge_1 rfl rfl ?_
  obtain ⟨h1, h⟩ := h
  obtain ⟨d1, b1, Qz, hm, hdd, hb, hkx, hk⟩ := h
  refine z_callV (Y := mX11_personAt) (n := 1) (as := [.int x1]) (st := []) (pc' := 5) (ci := 12) (q := q0) hm dX11_judge_2 kX11_130 vX11_personAt rfl rfl (by decide) rfl h1 hdd hb (Nat.le_of_ble_eq_true rfl) (fun r G2 hz => ?_) hkx
  obtain ⟨y1, rfl, h⟩ := hk r G2 hz
  refine z_astore (pc' := 7) dX11_judge_5 (by decide) rfl ?_
  refine z_iload_n (pc' := 8) dX11_judge_7 rfl rfl ?_
  obtain ⟨d1, b1, Qz, hm, hdd, hb, hkx, hk⟩ := h
  refine z_callS (Y := mX11_isKind) (n := 1) (as := [.int x2]) (st := []) (pc' := 11) hm dX11_judge_8 kX11_166 sX11_isKind rfl rfl hdd hb (Nat.le_of_ble_eq_true rfl) (fun r G5 hz => ?_) hkx
  obtain ⟨y4, rfl, h⟩ := hk r G5 hz
  refine z_if_eq (pt := 26) (pc' := 14) dX11_judge_11 (by decide) rfl (fun hc => ?_) (fun hc => ?_)
  · have h := h.1 hc
    refine z_iconst (x := 0) (pc' := 27) dX11_judge_26 (by decide) rfl ?_
    exact z_dr (ls' := [some (.ref q0), none, some (.int x2), some (.int x3), some (.int x4), some (.int x5), some (.ref y1), none]) ⟨rfl, rfl, rfl, rfl, rfl, rfl, trivial⟩ h
  · have h := h.2 hc
    refine z_aload_n (pc' := 15) dX11_judge_14 rfl rfl ?_
    refine z_iload_n (pc' := 16) dX11_judge_15 rfl rfl ?_
    obtain ⟨h1, h⟩ := h
    obtain ⟨d1, b1, Qz, hm, hdd, hb, hkx, hk⟩ := h
    refine z_callV (Y := mX11_isWanted) (n := 1) (as := [.int x3]) (st := []) (pc' := 19) (ci := 12) (q := q0) hm dX11_judge_16 kX11_169 vX11_isWanted rfl rfl (by decide) rfl h1 hdd hb (Nat.le_of_ble_eq_true rfl) (fun r G8 hz => ?_) hkx
    obtain ⟨y7, rfl, h⟩ := hk r G8 hz
    refine z_if_eq (pt := 26) (pc' := 22) dX11_judge_19 (by decide) rfl (fun hc => ?_) (fun hc => ?_)
    · have h := h.1 hc
      refine z_iconst (x := 0) (pc' := 27) dX11_judge_26 (by decide) rfl ?_
      exact z_dr (ls' := [some (.ref q0), none, some (.int x2), some (.int x3), some (.int x4), some (.int x5), some (.ref y1), none]) ⟨rfl, rfl, rfl, rfl, rfl, rfl, trivial⟩ h
    · have h := h.2 hc
      refine z_iconst (x := 1) (pc' := 23) dX11_judge_22 (by decide) rfl ?_
      refine z_goto (pc' := 27) dX11_judge_23 (by decide) ?_
      exact z_dr (ls' := [some (.ref q0), none, some (.int x2), some (.int x3), some (.int x4), some (.int x5), some (.ref y1), none]) ⟨rfl, rfl, rfl, rfl, rfl, rfl, trivial⟩ h
def wp_X11_judge_27 (E : ZE) (l : Launch) (d b : Nat) (G0 : ZG) (Q : ZQ) (k : Nat) (q0 : Nat) (x2 : Int32) (x3 : Int32) (x4 : Int32) (x5 : Int32) (q6 : Nat) (s0 : Int32) (G : ZG) : Prop :=
  xcV E l mX11_demand d [.int s0] G k (fun X G9 => Q (.inr X) G9) (fun G1 k2 =>
  zob G1 q0 12 ∧
  xcR E l mX11_verdictOf d [.ref q0, .ref q6, .int x2, .int x3, .int x4] G1 k2 (fun X G9 => Q (.inr X) G9) (fun y3 G4 k5 =>
  ((x5 = 0 →
    zob G4 y3 11 ∧
    Q (.inl (some (.int (ziv G4 y3 0)))) G4) ∧
  ((x5 = 1 →
    zob G4 y3 11 ∧
    Q (.inl (some (.int (ziv G4 y3 1)))) G4) ∧
  ((x5 = 2 →
    zob G4 y3 11 ∧
    xcI E l mX10_validYears d [.ref y3] G4 k5 (fun X G9 => Q (.inr X) G9) (fun y6 G7 k8 =>
    Q (.inl (some (.int y6))) G7)) ∧
  ((x5 = 3 →
    zob G4 y3 11 ∧
    Q (.inl (some (.int (ziv G4 y3 2)))) G4) ∧
  ((x5 = 4 →
    zob G4 y3 11 ∧
    (((ziv G4 y3 4) = 0 →
      Q (.inl (some (.int 0))) G4) ∧
    (¬ ((ziv G4 y3 4) = 0) →
      Q (.inl (some (.int 1))) G4))) ∧
  ((x5 = 5 →
    zob G4 y3 11 ∧
    Q (.inl (some (.int (ziv G4 y3 3)))) G4) ∧
  (¬ x5 = 0 → ¬ x5 = 1 → ¬ x5 = 2 → ¬ x5 = 3 → ¬ x5 = 4 → ¬ x5 = 5 →
    7 ≤ k5 ∧ 6 ≤ d ∧ Q (.inr "java/util/NoSuchElementException") G4)))))))))
theorem wpt_X11_judge_27 {E : ZE} {l : Launch} {d b : Nat} {G0 : ZG} {Q : ZQ} {k : Nat} {q0 : Nat} {x2 : Int32} {x3 : Int32} {x4 : Int32} {x5 : Int32} {q6 : Nat} {s0 : Int32} {G : ZG} (htr : l.stackTraces = false) (h : wp_X11_judge_27 E l d b G0 Q k q0 x2 x3 x4 x5 q6 s0 G) : zW E l mX11_judge d b G0 Q k 27 [some (.ref q0), none, some (.int x2), some (.int x3), some (.int x4), some (.int x5), some (.ref q6), none] [.int s0] G := by
  unfold wp_X11_judge_27 at h
  obtain ⟨d1, b1, Qz, hm, hdd, hb, hkx, hk⟩ := h
  refine z_callS (Y := mX11_demand) (n := 1) (as := [.int s0]) (st := []) (pc' := 30) hm dX11_judge_27 kX11_77 sX11_demand rfl rfl hdd hb (Nat.le_of_ble_eq_true rfl) (fun r G1 hz => ?_) hkx
  obtain ⟨rfl, h⟩ := hk r G1 hz
  refine z_aload_n (pc' := 31) dX11_judge_30 rfl rfl ?_
  refine z_aload (pc' := 33) dX11_judge_31 rfl rfl ?_
  refine z_iload_n (pc' := 34) dX11_judge_33 rfl rfl ?_
  refine z_iload_n (pc' := 35) dX11_judge_34 rfl rfl ?_
  refine z_iload (pc' := 37) dX11_judge_35 rfl rfl ?_
  obtain ⟨h1, h⟩ := h
  obtain ⟨d1, b1, Qz, hm, hdd, hb, hkx, hk⟩ := h
  refine z_callV (Y := mX11_verdictOf) (n := 4) (as := [.ref q6, .int x2, .int x3, .int x4]) (st := []) (pc' := 40) (ci := 12) (q := q0) hm dX11_judge_37 kX11_172 vX11_verdictOf rfl rfl (by decide) rfl h1 hdd hb (Nat.le_of_ble_eq_true rfl) (fun r G4 hz => ?_) hkx
  obtain ⟨y3, rfl, h⟩ := hk r G4 hz
  refine z_astore (pc' := 42) dX11_judge_40 (by decide) rfl ?_
  refine z_iload (pc' := 44) dX11_judge_42 rfl rfl ?_
  by_cases hc0 : x5 = 0
  · have h := h.1 hc0
    refine z_tableIn (off := 40) (pt := 84) dX11_judge_44 (by rw [hc0]; decide) (by rw [hc0]; decide) (by rw [hc0]; decide) (by decide) ?_
    refine z_aload (pc' := 86) dX11_judge_84 rfl rfl ?_
    obtain ⟨h1, h⟩ := h
    refine z_getI (ci := 11) (kf := 0) (pc' := 89) dX11_judge_86 kX11_176 (Or.inl rfl) (by decide) (by decide) rfl rfl h1 ?_
    exact z_iret dX11_judge_89 rfl h
  have h := h.2
  by_cases hc1 : x5 = 1
  · have h := h.1 hc1
    refine z_tableIn (off := 46) (pt := 90) dX11_judge_44 (by rw [hc1]; decide) (by rw [hc1]; decide) (by rw [hc1]; decide) (by decide) ?_
    refine z_aload (pc' := 92) dX11_judge_90 rfl rfl ?_
    obtain ⟨h1, h⟩ := h
    refine z_getI (ci := 11) (kf := 1) (pc' := 95) dX11_judge_92 kX11_181 (Or.inl rfl) (by decide) (by decide) rfl rfl h1 ?_
    exact z_iret dX11_judge_95 rfl h
  have h := h.2
  by_cases hc2 : x5 = 2
  · have h := h.1 hc2
    refine z_tableIn (off := 52) (pt := 96) dX11_judge_44 (by rw [hc2]; decide) (by rw [hc2]; decide) (by rw [hc2]; decide) (by decide) ?_
    refine z_aload (pc' := 98) dX11_judge_96 rfl rfl ?_
    obtain ⟨h1, h⟩ := h
    obtain ⟨d1, b1, Qz, hm, hdd, hb, hkx, hk⟩ := h
    refine z_callV (Y := mX10_validYears) (n := 0) (as := []) (st := []) (pc' := 101) (ci := 11) (q := y3) hm dX11_judge_98 kX11_184 vX10_validYears rfl rfl (by decide) rfl h1 hdd hb (Nat.le_of_ble_eq_true rfl) (fun r G7 hz => ?_) hkx
    obtain ⟨y6, rfl, h⟩ := hk r G7 hz
    exact z_iret dX11_judge_101 rfl h
  have h := h.2
  by_cases hc3 : x5 = 3
  · have h := h.1 hc3
    refine z_tableIn (off := 58) (pt := 102) dX11_judge_44 (by rw [hc3]; decide) (by rw [hc3]; decide) (by rw [hc3]; decide) (by decide) ?_
    refine z_aload (pc' := 104) dX11_judge_102 rfl rfl ?_
    obtain ⟨h1, h⟩ := h
    refine z_getI (ci := 11) (kf := 2) (pc' := 107) dX11_judge_104 kX11_187 (Or.inl rfl) (by decide) (by decide) rfl rfl h1 ?_
    exact z_iret dX11_judge_107 rfl h
  have h := h.2
  by_cases hc4 : x5 = 4
  · have h := h.1 hc4
    refine z_tableIn (off := 64) (pt := 108) dX11_judge_44 (by rw [hc4]; decide) (by rw [hc4]; decide) (by rw [hc4]; decide) (by decide) ?_
    refine z_aload (pc' := 110) dX11_judge_108 rfl rfl ?_
    obtain ⟨h1, h⟩ := h
    refine z_getI (ci := 11) (kf := 4) (pc' := 113) dX11_judge_110 kX11_190 (Or.inl rfl) (by decide) (by decide) rfl rfl h1 ?_
    refine z_if_eq (pt := 120) (pc' := 116) dX11_judge_113 (by decide) rfl (fun hc => ?_) (fun hc => ?_)
    · have h := h.1 hc
      refine z_iconst (x := 0) (pc' := 121) dX11_judge_120 (by decide) rfl ?_
      exact z_iret dX11_judge_121 rfl h
    · have h := h.2 hc
      refine z_iconst (x := 1) (pc' := 117) dX11_judge_116 (by decide) rfl ?_
      refine z_goto (pc' := 121) dX11_judge_117 (by decide) ?_
      exact z_iret dX11_judge_121 rfl h
  have h := h.2
  by_cases hc5 : x5 = 5
  · have h := h.1 hc5
    refine z_tableIn (off := 78) (pt := 122) dX11_judge_44 (by rw [hc5]; decide) (by rw [hc5]; decide) (by rw [hc5]; decide) (by decide) ?_
    refine z_aload (pc' := 124) dX11_judge_122 rfl rfl ?_
    obtain ⟨h1, h⟩ := h
    refine z_getI (ci := 11) (kf := 3) (pc' := 127) dX11_judge_124 kX11_194 (Or.inl rfl) (by decide) (by decide) rfl rfl h1 ?_
    exact z_iret dX11_judge_127 rfl h
  have h := h.2
  have h := h hc0 hc1 hc2 hc3 hc4 hc5
  refine z_tableOut (pt := 128) dX11_judge_44 (by have e0 := lv_neT (a := 0) hc0 (by decide); have e1 := lv_neT (a := 1) hc1 (by decide); have e2 := lv_neT (a := 2) hc2 (by decide); have e3 := lv_neT (a := 3) hc3 (by decide); have e4 := lv_neT (a := 4) hc4 (by decide); have e5 := lv_neT (a := 5) hc5 (by decide); omega) (by decide) ?_
  exact z_throw (names := ["java/lang/RuntimeException", "java/lang/Exception"]) htr dX11_judge_128 dX11_judge_131 dX11_judge_132 dX11_judge_135 rfl (by decide) kX11_197 x_NoSuchElementException h.2.1 (by decide) (Nat.le_of_ble_eq_true rfl) h.1 tX11_199 h.2.2
def wp_X11_latestWaits_0 (E : ZE) (l : Launch) (d b : Nat) (G0 : ZG) (Q : ZQ) (k : Nat) (q0 : Nat) (x1 : Int32) (G : ZG) : Prop :=
  zob G q0 12 ∧
  zob G (zrv G q0 7) 7 ∧
  zob G (zrv G (zrv G q0 7) 3) 0 ∧
  xcI E l mJx4a65c_size_8abf5 d [.ref (zrv G (zrv G q0 7) 3)] G k (fun X G9 => Q (.inr X) G9) (fun y1 G2 k3 =>
  ¬ y1 < 0 ∧ y1.toNatClampNeg ≤ 67108864 ∧ y1.toNatClampNeg + 1 ≤ k3 ∧ ∃ t4, 1024 ≤ t4 ∧ t4 < 3584 ∧ (t4 - 1024) / 512 = 0 ∧
  ∀ q_5, q_5 = zp t4 (zcn G2 t4) → ∀ G6, G6 = znw G2 t4 y1.toNatClampNeg → ∀ k7, k7 = k3 - (y1.toNatClampNeg + 1) →
  zW E l mX11_latestWaits d b G0 Q k7 18 [some (.ref q0), some (.int x1), some (.ref q_5), some (.int 0), some (.int 0), none] [] G6)
theorem wpt_X11_latestWaits_0 {E : ZE} {l : Launch} {d b : Nat} {G0 : ZG} {Q : ZQ} {k : Nat} {q0 : Nat} {x1 : Int32} {G : ZG} (h : wp_X11_latestWaits_0 E l d b G0 Q k q0 x1 G) : zW E l mX11_latestWaits d b G0 Q k 0 [some (.ref q0), some (.int x1), none, none, none, none] [] G := by
  unfold wp_X11_latestWaits_0 at h
  refine z_aload_n (pc' := 1) dX11_latestWaits_0 rfl rfl ?_
  obtain ⟨h1, h⟩ := h
  refine z_getR (ci := 12) (kf := 7) (pc' := 4) dX11_latestWaits_1 kX11_53 (Or.inl rfl) (by decide) (by decide) rfl rfl h1 ?_
  obtain ⟨h1, h⟩ := h
  refine z_getR (ci := 7) (kf := 3) (pc' := 7) dX11_latestWaits_4 kX11_220 (Or.inl rfl) (by decide) (by decide) rfl rfl h1 ?_
  obtain ⟨h1, h⟩ := h
  obtain ⟨d1, b1, Qz, hm, hdd, hb, hkx, hk⟩ := h
  refine z_callV (Y := mJx4a65c_size_8abf5) (n := 0) (as := []) (st := []) (pc' := 10) (ci := 0) (q := (zrv G (zrv G q0 7) 3)) hm dX11_latestWaits_7 kX11_93 vJx4a65c_size_8abf5 rfl rfl (by decide) rfl h1 hdd hb (Nat.le_of_ble_eq_true rfl) (fun r G2 hz => ?_) hkx
  obtain ⟨y1, rfl, h⟩ := hk r G2 hz
  obtain ⟨h1, h2, h3, t4, h4, h5, h6, h⟩ := h
  obtain ⟨q_5, hq⟩ : ∃ z, z = zp t4 (zcn G2 t4) := ⟨_, rfl⟩
  obtain ⟨G6, hG⟩ : ∃ z, z = znw G2 t4 y1.toNatClampNeg := ⟨_, rfl⟩
  have h := h _ hq _ hG _ rfl
  refine z_newa (t := t4) (kd := 0) (pc' := 12) dX11_latestWaits_10 rfl (by decide) a_int rfl h4 h5 h6 h1 rfl h2 h3 ?_
  refine z_mk hq hG ?_
  refine z_astore_n (pc' := 13) dX11_latestWaits_12 (by decide) rfl ?_
  refine z_iconst (x := 0) (pc' := 14) dX11_latestWaits_13 (by decide) rfl ?_
  refine z_istore_n (pc' := 15) dX11_latestWaits_14 (by decide) rfl ?_
  refine z_iconst (x := 0) (pc' := 16) dX11_latestWaits_15 (by decide) rfl ?_
  refine z_istore (pc' := 18) dX11_latestWaits_16 (by decide) rfl ?_
  exact z_dr (ls' := [some (.ref q0), some (.int x1), some (.ref q_5), some (.int 0), some (.int 0), none]) ⟨rfl, rfl, rfl, rfl, rfl, trivial⟩ h
def wp_X11_latestWaits_18 (E : ZE) (l : Launch) (d b : Nat) (G0 : ZG) (Q : ZQ) (k : Nat) (q0 : Nat) (x1 : Int32) (q2 : Nat) (x3 : Int32) (x4 : Int32) (G : ZG) : Prop :=
  (zar G q2 0 ∨ zrd G q2 .int) ∧
  (((Int32.ofNat (zln G q2)) ≤ x4 →
    xcV E l mX11_sort d [.ref q2, .int x3] G k (fun X G9 => Q (.inr X) G9) (fun G1 k2 =>
    xcI E l mJ9_min_7cf53 d [.int x3, .int 20] G1 k2 (fun X G9 => Q (.inr X) G9) (fun y3 G4 k5 =>
    ¬ y3 < 0 ∧ y3.toNatClampNeg ≤ 67108864 ∧ y3.toNatClampNeg + 1 ≤ k5 ∧ ∃ t6, 1024 ≤ t6 ∧ t6 < 3584 ∧ (t6 - 1024) / 512 = 0 ∧
    ∀ q_7, q_7 = zp t6 (zcn G4 t6) → ∀ G8, G8 = znw G4 t6 y3.toNatClampNeg → ∀ k9, k9 = k5 - (y3.toNatClampNeg + 1) →
    zW E l mX11_latestWaits d b G0 Q k9 102 [some (.ref q0), none, some (.ref q2), some (.int x3), some (.ref q_7), some (.int 0)] [] G8))) ∧
  (¬ ((Int32.ofNat (zln G q2)) ≤ x4) →
    zob G q0 12 ∧
    zob G (zrv G q0 7) 7 ∧
    zob G (zrv G (zrv G q0 7) 3) 0 ∧
    xcR E l mJx4a65c_get_915e3 d [.ref (zrv G (zrv G q0 7) 3), .int x4] G k (fun X G9 => Q (.inr X) G9) (fun y10 G11 k12 =>
    zob G11 y10 1 ∧
    zob G11 y10 1 ∧
    ((¬ (ziv G11 y10 2) = x1 →
      zW E l mX11_latestWaits d b G0 Q k12 18 [some (.ref q0), some (.int x1), some (.ref q2), some (.int x3), some (.int (x4 + 1)), none] [] G11) ∧
    (¬ (¬ (ziv G11 y10 2) = x1) →
      zob G11 y10 1 ∧
      ((¬ (ziv G11 y10 7) = 7 →
        zW E l mX11_latestWaits d b G0 Q k12 18 [some (.ref q0), some (.int x1), some (.ref q2), some (.int x3), some (.int (x4 + 1)), none] [] G11) ∧
      (¬ (¬ (ziv G11 y10 7) = 7) →
        zob G11 y10 1 ∧
        zar G11 q2 0 ∧ vp_in x3 (zln G11 q2) ∧
        ∀ G13, G13 = zsi G11 q2 x3.toNatClampNeg (((ziv G11 y10 12) * 120) + x4) →
        zW E l mX11_latestWaits d b G0 Q k12 18 [some (.ref q0), some (.int x1), some (.ref q2), some (.int (x3 + 1)), some (.int (x4 + 1)), none] [] G13)))))))
theorem wpt_X11_latestWaits_18 {E : ZE} {l : Launch} {d b : Nat} {G0 : ZG} {Q : ZQ} {k : Nat} {q0 : Nat} {x1 : Int32} {q2 : Nat} {x3 : Int32} {x4 : Int32} {G : ZG} (h : wp_X11_latestWaits_18 E l d b G0 Q k q0 x1 q2 x3 x4 G) : zW E l mX11_latestWaits d b G0 Q k 18 [some (.ref q0), some (.int x1), some (.ref q2), some (.int x3), some (.int x4), none] [] G := by
  unfold wp_X11_latestWaits_18 at h
  refine z_iload (pc' := 20) dX11_latestWaits_18 rfl rfl ?_
  refine z_aload_n (pc' := 21) dX11_latestWaits_20 rfl rfl ?_
  obtain ⟨h1, h⟩ := h
  refine z_alen (pc' := 22) dX11_latestWaits_21 rfl (h1.imp (fun h => ⟨0, by decide, h⟩) (fun h => ⟨_, h⟩)) rfl ?_
  refine z_icmp_ge (pt := 84) (pc' := 25) dX11_latestWaits_22 (by decide) rfl (fun hc => ?_) (fun hc => ?_)
  · have h := h.1 hc
    refine z_aload_n (pc' := 85) dX11_latestWaits_84 rfl rfl ?_
    refine z_iload_n (pc' := 86) dX11_latestWaits_85 rfl rfl ?_
    obtain ⟨d1, b1, Qz, hm, hdd, hb, hkx, hk⟩ := h
    refine z_callS (Y := mX11_sort) (n := 2) (as := [.ref q2, .int x3]) (st := []) (pc' := 89) hm dX11_latestWaits_86 kX11_381 sX11_sort rfl rfl hdd hb (Nat.le_of_ble_eq_true rfl) (fun r G1 hz => ?_) hkx
    obtain ⟨rfl, h⟩ := hk r G1 hz
    refine z_iload_n (pc' := 90) dX11_latestWaits_89 rfl rfl ?_
    refine z_bipush (x := 20) (pc' := 92) dX11_latestWaits_90 (by decide) rfl ?_
    obtain ⟨d1, b1, Qz, hm, hdd, hb, hkx, hk⟩ := h
    refine z_callS (Y := mJ9_min_7cf53) (n := 2) (as := [.int x3, .int 20]) (st := []) (pc' := 95) hm dX11_latestWaits_92 kX11_385 sJ9_min_7cf53 rfl rfl hdd hb (Nat.le_of_ble_eq_true rfl) (fun r G4 hz => ?_) hkx
    obtain ⟨y3, rfl, h⟩ := hk r G4 hz
    obtain ⟨h1, h2, h3, t6, h4, h5, h6, h⟩ := h
    obtain ⟨q_7, hq⟩ : ∃ z, z = zp t6 (zcn G4 t6) := ⟨_, rfl⟩
    obtain ⟨G8, hG⟩ : ∃ z, z = znw G4 t6 y3.toNatClampNeg := ⟨_, rfl⟩
    have h := h _ hq _ hG _ rfl
    refine z_newa (t := t6) (kd := 0) (pc' := 97) dX11_latestWaits_95 rfl (by decide) a_int rfl h4 h5 h6 h1 rfl h2 h3 ?_
    refine z_mk hq hG ?_
    refine z_astore (pc' := 99) dX11_latestWaits_97 (by decide) rfl ?_
    refine z_iconst (x := 0) (pc' := 100) dX11_latestWaits_99 (by decide) rfl ?_
    refine z_istore (pc' := 102) dX11_latestWaits_100 (by decide) rfl ?_
    exact z_dr (ls' := [some (.ref q0), none, some (.ref q2), some (.int x3), some (.ref q_7), some (.int 0)]) ⟨rfl, rfl, rfl, rfl, rfl, trivial⟩ h
  · have h := h.2 hc
    refine z_aload_n (pc' := 26) dX11_latestWaits_25 rfl rfl ?_
    obtain ⟨h1, h⟩ := h
    refine z_getR (ci := 12) (kf := 7) (pc' := 29) dX11_latestWaits_26 kX11_53 (Or.inl rfl) (by decide) (by decide) rfl rfl h1 ?_
    obtain ⟨h1, h⟩ := h
    refine z_getR (ci := 7) (kf := 3) (pc' := 32) dX11_latestWaits_29 kX11_220 (Or.inl rfl) (by decide) (by decide) rfl rfl h1 ?_
    refine z_iload (pc' := 34) dX11_latestWaits_32 rfl rfl ?_
    obtain ⟨h1, h⟩ := h
    obtain ⟨d1, b1, Qz, hm, hdd, hb, hkx, hk⟩ := h
    refine z_callV (Y := mJx4a65c_get_915e3) (n := 1) (as := [.int x4]) (st := []) (pc' := 37) (ci := 0) (q := (zrv G (zrv G q0 7) 3)) hm dX11_latestWaits_34 kX11_107 vJx4a65c_get_915e3 rfl rfl (by decide) rfl h1 hdd hb (Nat.le_of_ble_eq_true rfl) (fun r G11 hz => ?_) hkx
    obtain ⟨y10, rfl, h⟩ := hk r G11 hz
    obtain ⟨h1, h⟩ := h
    refine z_castO (ci := 1) (pc' := 40) dX11_latestWaits_37 kX11_215 (by decide) rfl h1 ?_
    refine z_astore (pc' := 42) dX11_latestWaits_40 (by decide) rfl ?_
    refine z_aload (pc' := 44) dX11_latestWaits_42 rfl rfl ?_
    obtain ⟨h1, h⟩ := h
    refine z_getI (ci := 1) (kf := 2) (pc' := 47) dX11_latestWaits_44 kX11_267 (Or.inl rfl) (by decide) (by decide) rfl rfl h1 ?_
    refine z_iload_n (pc' := 48) dX11_latestWaits_47 rfl rfl ?_
    refine z_icmp_ne (pt := 78) (pc' := 51) dX11_latestWaits_48 (by decide) rfl (fun hc => ?_) (fun hc => ?_)
    · have h := h.1 hc
      refine z_iinc (y := x4 + 1) (pc' := 81) dX11_latestWaits_78 rfl (zinc_1 _) (by decide) rfl ?_
      refine z_goto (pc' := 18) dX11_latestWaits_81 (by decide) ?_
      exact z_dr (ls' := [some (.ref q0), some (.int x1), some (.ref q2), some (.int x3), some (.int (x4 + 1)), none]) ⟨rfl, rfl, rfl, rfl, rfl, trivial⟩ h
    · have h := h.2 hc
      refine z_aload (pc' := 53) dX11_latestWaits_51 rfl rfl ?_
      obtain ⟨h1, h⟩ := h
      refine z_getI (ci := 1) (kf := 7) (pc' := 56) dX11_latestWaits_53 kX11_241 (Or.inl rfl) (by decide) (by decide) rfl rfl h1 ?_
      refine z_bipush (x := 7) (pc' := 58) dX11_latestWaits_56 (by decide) rfl ?_
      refine z_icmp_ne (pt := 78) (pc' := 61) dX11_latestWaits_58 (by decide) rfl (fun hc => ?_) (fun hc => ?_)
      · have h := h.1 hc
        refine z_iinc (y := x4 + 1) (pc' := 81) dX11_latestWaits_78 rfl (zinc_1 _) (by decide) rfl ?_
        refine z_goto (pc' := 18) dX11_latestWaits_81 (by decide) ?_
        exact z_dr (ls' := [some (.ref q0), some (.int x1), some (.ref q2), some (.int x3), some (.int (x4 + 1)), none]) ⟨rfl, rfl, rfl, rfl, rfl, trivial⟩ h
      · have h := h.2 hc
        refine z_aload_n (pc' := 62) dX11_latestWaits_61 rfl rfl ?_
        refine z_iload_n (pc' := 63) dX11_latestWaits_62 rfl rfl ?_
        refine z_aload (pc' := 65) dX11_latestWaits_63 rfl rfl ?_
        obtain ⟨h1, h⟩ := h
        refine z_getI (ci := 1) (kf := 12) (pc' := 68) dX11_latestWaits_65 kX11_282 (Or.inl rfl) (by decide) (by decide) rfl rfl h1 ?_
        refine z_bipush (x := 120) (pc' := 70) dX11_latestWaits_68 (by decide) rfl ?_
        refine z_imul (pc' := 71) dX11_latestWaits_70 rfl rfl ?_
        refine z_iload (pc' := 73) dX11_latestWaits_71 rfl rfl ?_
        refine z_iadd (pc' := 74) dX11_latestWaits_73 rfl rfl ?_
        obtain ⟨h1, h2, h⟩ := h
        obtain ⟨G13, hG⟩ : ∃ z, z = zsi G11 q2 x3.toNatClampNeg (((ziv G11 y10 12) * 120) + x4) := ⟨_, rfl⟩
        have h := h _ hG
        refine z_iast (pc' := 75) dX11_latestWaits_74 rfl h1 h2  ?_
        refine z_st hG ?_
        refine z_iinc (y := x3 + 1) (pc' := 78) dX11_latestWaits_75 rfl (zinc_1 _) (by decide) rfl ?_
        refine z_iinc (y := x4 + 1) (pc' := 81) dX11_latestWaits_78 rfl (zinc_1 _) (by decide) rfl ?_
        refine z_goto (pc' := 18) dX11_latestWaits_81 (by decide) ?_
        exact z_dr (ls' := [some (.ref q0), some (.int x1), some (.ref q2), some (.int (x3 + 1)), some (.int (x4 + 1)), none]) ⟨rfl, rfl, rfl, rfl, rfl, trivial⟩ h
def wp_X11_latestWaits_102 (E : ZE) (l : Launch) (d b : Nat) (G0 : ZG) (Q : ZQ) (k : Nat) (q0 : Nat) (q2 : Nat) (x3 : Int32) (q4 : Nat) (x5 : Int32) (G : ZG) : Prop :=
  (zar G q4 0 ∨ zrd G q4 .int) ∧
  (((Int32.ofNat (zln G q4)) ≤ x5 →
    (zar G q4 0 ∨ zrd G q4 .int) ∧
    xcV E l mX11_sort d [.ref q4, .int (Int32.ofNat (zln G q4))] G k (fun X G9 => Q (.inr X) G9) (fun G1 k2 =>
    Q (.inl (some (.ref q4))) G1)) ∧
  (¬ ((Int32.ofNat (zln G q4)) ≤ x5) →
    zob G q0 12 ∧
    zob G (zrv G q0 7) 7 ∧
    (zar G q4 0 ∨ zrd G q4 .int) ∧
    (zar G q2 0 ∨ zrd G q2 .int) ∧ vp_in ((x3 - (Int32.ofNat (zln G q4))) + x5) (zln G q2) ∧
    zob G (zrv G (zrv G q0 7) 3) 0 ∧
    xcR E l mJx4a65c_get_915e3 d [.ref (zrv G (zrv G q0 7) 3), .int ((ziv G q2 ((x3 - (Int32.ofNat (zln G q4))) + x5).toNatClampNeg) - (ziv G q2 ((x3 - (Int32.ofNat (zln G q4))) + x5).toNatClampNeg) / 120 * 120)] G k (fun X G9 => Q (.inr X) G9) (fun y3 G4 k5 =>
    zob G4 y3 1 ∧
    zob G4 y3 1 ∧
    xcI E l mX0_waitedDays d [.ref y3] G4 k5 (fun X G9 => Q (.inr X) G9) (fun y6 G7 k8 =>
    zar G7 q4 0 ∧ vp_in x5 (zln G7 q4) ∧
    ∀ G9, G9 = zsi G7 q4 x5.toNatClampNeg y6 →
    zW E l mX11_latestWaits d b G0 Q k8 102 [some (.ref q0), none, some (.ref q2), some (.int x3), some (.ref q4), some (.int (x5 + 1))] [] G9))))
theorem wpt_X11_latestWaits_102 {E : ZE} {l : Launch} {d b : Nat} {G0 : ZG} {Q : ZQ} {k : Nat} {q0 : Nat} {q2 : Nat} {x3 : Int32} {q4 : Nat} {x5 : Int32} {G : ZG} (h : wp_X11_latestWaits_102 E l d b G0 Q k q0 q2 x3 q4 x5 G) : zW E l mX11_latestWaits d b G0 Q k 102 [some (.ref q0), none, some (.ref q2), some (.int x3), some (.ref q4), some (.int x5)] [] G := by
  unfold wp_X11_latestWaits_102 at h
  refine z_iload (pc' := 104) dX11_latestWaits_102 rfl rfl ?_
  refine z_aload (pc' := 106) dX11_latestWaits_104 rfl rfl ?_
  obtain ⟨h1, h⟩ := h
  refine z_alen (pc' := 107) dX11_latestWaits_106 rfl (h1.imp (fun h => ⟨0, by decide, h⟩) (fun h => ⟨_, h⟩)) rfl ?_
  refine z_icmp_ge (pt := 150) (pc' := 110) dX11_latestWaits_107 (by decide) rfl (fun hc => ?_) (fun hc => ?_)
  · have h := h.1 hc
    refine z_aload (pc' := 152) dX11_latestWaits_150 rfl rfl ?_
    refine z_aload (pc' := 154) dX11_latestWaits_152 rfl rfl ?_
    obtain ⟨h1, h⟩ := h
    refine z_alen (pc' := 155) dX11_latestWaits_154 rfl (h1.imp (fun h => ⟨0, by decide, h⟩) (fun h => ⟨_, h⟩)) rfl ?_
    obtain ⟨d1, b1, Qz, hm, hdd, hb, hkx, hk⟩ := h
    refine z_callS (Y := mX11_sort) (n := 2) (as := [.ref q4, .int (Int32.ofNat (zln G q4))]) (st := []) (pc' := 158) hm dX11_latestWaits_155 kX11_381 sX11_sort rfl rfl hdd hb (Nat.le_of_ble_eq_true rfl) (fun r G1 hz => ?_) hkx
    obtain ⟨rfl, h⟩ := hk r G1 hz
    refine z_aload (pc' := 160) dX11_latestWaits_158 rfl rfl ?_
    exact z_aret dX11_latestWaits_160 rfl (Or.inr ⟨_, rfl⟩) h
  · have h := h.2 hc
    refine z_aload (pc' := 112) dX11_latestWaits_110 rfl rfl ?_
    refine z_iload (pc' := 114) dX11_latestWaits_112 rfl rfl ?_
    refine z_aload_n (pc' := 115) dX11_latestWaits_114 rfl rfl ?_
    obtain ⟨h1, h⟩ := h
    refine z_getR (ci := 12) (kf := 7) (pc' := 118) dX11_latestWaits_115 kX11_53 (Or.inl rfl) (by decide) (by decide) rfl rfl h1 ?_
    obtain ⟨h1, h⟩ := h
    refine z_getR (ci := 7) (kf := 3) (pc' := 121) dX11_latestWaits_118 kX11_220 (Or.inl rfl) (by decide) (by decide) rfl rfl h1 ?_
    refine z_aload_n (pc' := 122) dX11_latestWaits_121 rfl rfl ?_
    refine z_iload_n (pc' := 123) dX11_latestWaits_122 rfl rfl ?_
    refine z_aload (pc' := 125) dX11_latestWaits_123 rfl rfl ?_
    obtain ⟨h1, h⟩ := h
    refine z_alen (pc' := 126) dX11_latestWaits_125 rfl (h1.imp (fun h => ⟨0, by decide, h⟩) (fun h => ⟨_, h⟩)) rfl ?_
    refine z_isub (pc' := 127) dX11_latestWaits_126 rfl rfl ?_
    refine z_iload (pc' := 129) dX11_latestWaits_127 rfl rfl ?_
    refine z_iadd (pc' := 130) dX11_latestWaits_129 rfl rfl ?_
    obtain ⟨h1, h2, h⟩ := h
    refine z_iald (pc' := 131) dX11_latestWaits_130 rfl h1 h2 ?_
    refine z_bipush (x := 120) (pc' := 133) dX11_latestWaits_131 (by decide) rfl ?_
    refine z_irem (pc' := 134) dX11_latestWaits_133 (by decide) rfl rfl ?_
    obtain ⟨h1, h⟩ := h
    obtain ⟨d1, b1, Qz, hm, hdd, hb, hkx, hk⟩ := h
    refine z_callV (Y := mJx4a65c_get_915e3) (n := 1) (as := [.int ((ziv G q2 ((x3 - (Int32.ofNat (zln G q4))) + x5).toNatClampNeg) - (ziv G q2 ((x3 - (Int32.ofNat (zln G q4))) + x5).toNatClampNeg) / 120 * 120)]) (st := [.int x5, .ref q4]) (pc' := 137) (ci := 0) (q := (zrv G (zrv G q0 7) 3)) hm dX11_latestWaits_134 kX11_107 vJx4a65c_get_915e3 rfl rfl (by decide) rfl h1 hdd hb (Nat.le_of_ble_eq_true rfl) (fun r G4 hz => ?_) hkx
    obtain ⟨y3, rfl, h⟩ := hk r G4 hz
    obtain ⟨h1, h⟩ := h
    refine z_castO (ci := 1) (pc' := 140) dX11_latestWaits_137 kX11_215 (by decide) rfl h1 ?_
    obtain ⟨h1, h⟩ := h
    obtain ⟨d1, b1, Qz, hm, hdd, hb, hkx, hk⟩ := h
    refine z_callV (Y := mX0_waitedDays) (n := 0) (as := []) (st := [.int x5, .ref q4]) (pc' := 143) (ci := 1) (q := y3) hm dX11_latestWaits_140 kX11_390 vX0_waitedDays rfl rfl (by decide) rfl h1 hdd hb (Nat.le_of_ble_eq_true rfl) (fun r G7 hz => ?_) hkx
    obtain ⟨y6, rfl, h⟩ := hk r G7 hz
    obtain ⟨h1, h2, h⟩ := h
    obtain ⟨G9, hG⟩ : ∃ z, z = zsi G7 q4 x5.toNatClampNeg y6 := ⟨_, rfl⟩
    have h := h _ hG
    refine z_iast (pc' := 144) dX11_latestWaits_143 rfl h1 h2  ?_
    refine z_st hG ?_
    refine z_iinc (y := x5 + 1) (pc' := 147) dX11_latestWaits_144 rfl (zinc_1 _) (by decide) rfl ?_
    refine z_goto (pc' := 102) dX11_latestWaits_147 (by decide) ?_
    exact z_dr (ls' := [some (.ref q0), none, some (.ref q2), some (.int x3), some (.ref q4), some (.int (x5 + 1))]) ⟨rfl, rfl, rfl, rfl, rfl, trivial⟩ h
def wp_X11_law_0 (E : ZE) (l : Launch) (d b : Nat) (G0 : ZG) (Q : ZQ) (k : Nat) (q0 : Nat) (x1 : Int32) (G : ZG) : Prop :=
  zob G q0 12 ∧
  xcR E l mX11_useTapeUp d [.ref q0] G k (fun X G9 => Q (.inr X) G9) (fun y1 G2 k3 =>
  zob G2 q0 12 ∧
  zob G2 (zrv G2 q0 7) 7 ∧
  ((x1 < (ziv G2 (zrv G2 q0 7) 6) →
    zW E l mX11_law d b G0 Q k3 28 [some (.ref q0), some (.int x1), some (.ref y1), none] [.int 0] G2) ∧
  (¬ (x1 < (ziv G2 (zrv G2 q0 7) 6)) →
    ((1000 < x1 →
      zW E l mX11_law d b G0 Q k3 28 [some (.ref q0), some (.int x1), some (.ref y1), none] [.int 0] G2) ∧
    (¬ (1000 < x1) →
      zW E l mX11_law d b G0 Q k3 28 [some (.ref q0), some (.int x1), some (.ref y1), none] [.int 1] G2)))))
theorem wpt_X11_law_0 {E : ZE} {l : Launch} {d b : Nat} {G0 : ZG} {Q : ZQ} {k : Nat} {q0 : Nat} {x1 : Int32} {G : ZG} (htr : l.stackTraces = false) (h : wp_X11_law_0 E l d b G0 Q k q0 x1 G) : zW E l mX11_law d b G0 Q k 0 [some (.ref q0), some (.int x1), none, none] [] G := by
  unfold wp_X11_law_0 at h
  refine z_aload_n (pc' := 1) dX11_law_0 rfl rfl ?_
  obtain ⟨h1, h⟩ := h
  obtain ⟨d1, b1, Qz, hm, hdd, hb, hkx, hk⟩ := h
  refine z_callV (Y := mX11_useTapeUp) (n := 0) (as := []) (st := []) (pc' := 4) (ci := 12) (q := q0) hm dX11_law_1 kX11_70 vX11_useTapeUp rfl rfl (by decide) rfl h1 hdd hb (Nat.le_of_ble_eq_true rfl) (fun r G2 hz => ?_) hkx
  obtain ⟨y1, rfl, h⟩ := hk r G2 hz
  refine z_astore_n (pc' := 5) dX11_law_4 (by decide) rfl ?_
  refine z_iload_n (pc' := 6) dX11_law_5 rfl rfl ?_
  refine z_aload_n (pc' := 7) dX11_law_6 rfl rfl ?_
  obtain ⟨h1, h⟩ := h
  refine z_getR (ci := 12) (kf := 7) (pc' := 10) dX11_law_7 kX11_53 (Or.inl rfl) (by decide) (by decide) rfl rfl h1 ?_
  obtain ⟨h1, h⟩ := h
  refine z_getI (ci := 7) (kf := 6) (pc' := 13) dX11_law_10 kX11_74 (Or.inl rfl) (by decide) (by decide) rfl rfl h1 ?_
  refine z_icmp_lt (pt := 27) (pc' := 16) dX11_law_13 (by decide) rfl (fun hc => ?_) (fun hc => ?_)
  · have h := h.1 hc
    refine z_iconst (x := 0) (pc' := 28) dX11_law_27 (by decide) rfl ?_
    exact z_dr (ls' := [some (.ref q0), some (.int x1), some (.ref y1), none]) ⟨rfl, rfl, rfl, trivial⟩ h
  · have h := h.2 hc
    refine z_iload_n (pc' := 17) dX11_law_16 rfl rfl ?_
    refine z_sipush (x := 1000) (pc' := 20) dX11_law_17 (by decide) rfl ?_
    refine z_icmp_gt (pt := 27) (pc' := 23) dX11_law_20 (by decide) rfl (fun hc => ?_) (fun hc => ?_)
    · have h := h.1 hc
      refine z_iconst (x := 0) (pc' := 28) dX11_law_27 (by decide) rfl ?_
      exact z_dr (ls' := [some (.ref q0), some (.int x1), some (.ref y1), none]) ⟨rfl, rfl, rfl, trivial⟩ h
    · have h := h.2 hc
      refine z_iconst (x := 1) (pc' := 24) dX11_law_23 (by decide) rfl ?_
      refine z_goto (pc' := 28) dX11_law_24 (by decide) ?_
      exact z_dr (ls' := [some (.ref q0), some (.int x1), some (.ref y1), none]) ⟨rfl, rfl, rfl, trivial⟩ h
def wp_X11_law_28 (E : ZE) (l : Launch) (d b : Nat) (G0 : ZG) (Q : ZQ) (k : Nat) (q0 : Nat) (x1 : Int32) (q2 : Nat) (s0 : Int32) (G : ZG) : Prop :=
  xcV E l mX11_demand d [.int s0] G k (fun X G9 => Q (.inr X) G9) (fun G1 k2 =>
  10 ≤ k2 ∧ ∃ t3, t3 ≠ 0 ∧ t3 < 448 ∧ t3 / 32 = 4 ∧
  ∀ q_4, q_4 = zp t3 (zcn G1 t3) → ∀ G5, G5 = znw G1 t3 0 → ∀ k6, k6 = k2 - 10 →
  zal G5 q_4 ∧
  xcV E l mX3_init d [.ref q_4, .int x1, .ref q2] G5 k6 (fun X G9 => Q (.inr X) G9) (fun G7 k8 =>
  ¬ (9 : Int32) < 0 ∧ (9 : Int32).toNatClampNeg ≤ 67108864 ∧ (9 : Int32).toNatClampNeg + 1 ≤ k8 ∧ ∃ t9, 1024 ≤ t9 ∧ t9 < 3584 ∧ (t9 - 1024) / 512 = 0 ∧
  ∀ q_10, q_10 = zp t9 (zcn G7 t9) → ∀ G11, G11 = znw G7 t9 (9 : Int32).toNatClampNeg → ∀ k12, k12 = k8 - ((9 : Int32).toNatClampNeg + 1) →
  zob G11 q_4 4 ∧
  xcR E l mX3_verdictOn d [.ref q_4, .ref q_10] G11 k12 (fun X G9 => Q (.inr X) G9) (fun y13 G14 k15 =>
  zob G14 q_4 4 ∧
  zob G14 q0 12 ∧
  ∀ G16, G16 = zsi G14 q0 2 (ziv G14 q_4 2) →
  zob G16 q0 12 ∧
  ((¬ (ziv G16 q0 2) = (-1) →
    zW E l mX11_law d b G0 Q k15 71 [some (.ref q0), none, none, some (.ref q_4)] [.int 0] G16) ∧
  (¬ (¬ (ziv G16 q0 2) = (-1)) →
    zW E l mX11_law d b G0 Q k15 71 [some (.ref q0), none, none, some (.ref q_4)] [.int 1] G16)))))
theorem wpt_X11_law_28 {E : ZE} {l : Launch} {d b : Nat} {G0 : ZG} {Q : ZQ} {k : Nat} {q0 : Nat} {x1 : Int32} {q2 : Nat} {s0 : Int32} {G : ZG} (htr : l.stackTraces = false) (h : wp_X11_law_28 E l d b G0 Q k q0 x1 q2 s0 G) : zW E l mX11_law d b G0 Q k 28 [some (.ref q0), some (.int x1), some (.ref q2), none] [.int s0] G := by
  unfold wp_X11_law_28 at h
  obtain ⟨d1, b1, Qz, hm, hdd, hb, hkx, hk⟩ := h
  refine z_callS (Y := mX11_demand) (n := 1) (as := [.int s0]) (st := []) (pc' := 31) hm dX11_law_28 kX11_77 sX11_demand rfl rfl hdd hb (Nat.le_of_ble_eq_true rfl) (fun r G1 hz => ?_) hkx
  obtain ⟨rfl, h⟩ := hk r G1 hz
  obtain ⟨h1, t3, h2, h3, h4, h⟩ := h
  obtain ⟨q_4, hq⟩ : ∃ z, z = zp t3 (zcn G1 t3) := ⟨_, rfl⟩
  obtain ⟨G5, hG⟩ : ∃ z, z = znw G1 t3 0 := ⟨_, rfl⟩
  have h := h _ hq _ hG _ rfl
  refine z_new (ci := 4) (t := t3) (pc' := 34) dX11_law_31 kX11_81 n4_inst n4_ini (by decide) rfl h2 h3 h4 h1 (z_df (by decide)) ?_
  refine z_mk hq hG ?_
  refine z_dup (pc' := 35) dX11_law_34 rfl rfl ?_
  refine z_iload_n (pc' := 36) dX11_law_35 rfl rfl ?_
  refine z_aload_n (pc' := 37) dX11_law_36 rfl rfl ?_
  obtain ⟨h1, h⟩ := h
  obtain ⟨d1, b1, Qz, hm, hdd, hb, hkx, hk⟩ := h
  refine z_callI (Y := mX3_init) (n := 2) (as := [.int x1, .ref q2]) (st := [.ref q_4]) (pc' := 40) (q := q_4) hm dX11_law_37 kX11_83 iX3_init rfl rfl h1 hdd hb (Nat.le_of_ble_eq_true rfl) (fun r G7 hz => ?_) hkx
  obtain ⟨rfl, h⟩ := hk r G7 hz
  refine z_astore_n (pc' := 41) dX11_law_40 (by decide) rfl ?_
  refine z_aload_n (pc' := 42) dX11_law_41 rfl rfl ?_
  refine z_bipush (x := 9) (pc' := 44) dX11_law_42 (by decide) rfl ?_
  obtain ⟨h1, h2, h3, t9, h4, h5, h6, h⟩ := h
  obtain ⟨q_10, hq⟩ : ∃ z, z = zp t9 (zcn G7 t9) := ⟨_, rfl⟩
  obtain ⟨G11, hG⟩ : ∃ z, z = znw G7 t9 (9 : Int32).toNatClampNeg := ⟨_, rfl⟩
  have h := h _ hq _ hG _ rfl
  refine z_newa (t := t9) (kd := 0) (pc' := 46) dX11_law_44 rfl (by decide) a_int rfl h4 h5 h6 h1 rfl h2 h3 ?_
  refine z_mk hq hG ?_
  obtain ⟨h1, h⟩ := h
  obtain ⟨d1, b1, Qz, hm, hdd, hb, hkx, hk⟩ := h
  refine z_callV (Y := mX3_verdictOn) (n := 1) (as := [.ref q_10]) (st := []) (pc' := 49) (ci := 4) (q := q_4) hm dX11_law_46 kX11_86 vX3_verdictOn rfl rfl (by decide) rfl h1 hdd hb (Nat.le_of_ble_eq_true rfl) (fun r G14 hz => ?_) hkx
  obtain ⟨y13, rfl, h⟩ := hk r G14 hz
  refine z_pop (pc' := 50) dX11_law_49 rfl rfl ?_
  refine z_aload_n (pc' := 51) dX11_law_50 rfl rfl ?_
  refine z_aload_n (pc' := 52) dX11_law_51 rfl rfl ?_
  obtain ⟨h1, h⟩ := h
  refine z_getI (ci := 4) (kf := 2) (pc' := 55) dX11_law_52 kX11_90 (Or.inl rfl) (by decide) (by decide) rfl rfl h1 ?_
  obtain ⟨h1, h⟩ := h
  obtain ⟨G16, hG⟩ : ∃ z, z = zsi G14 q0 2 (ziv G14 q_4 2) := ⟨_, rfl⟩
  have h := h _ hG
  refine z_putI (ci := 12) (kf := 2) (pc' := 58) dX11_law_55 kX11_17 (Or.inl rfl) (by decide) (by decide) rfl (Or.inl rfl) rfl h1 (zok_int _) ?_
  refine z_st hG ?_
  refine z_aload_n (pc' := 59) dX11_law_58 rfl rfl ?_
  obtain ⟨h1, h⟩ := h
  refine z_getI (ci := 12) (kf := 2) (pc' := 62) dX11_law_59 kX11_17 (Or.inl rfl) (by decide) (by decide) rfl rfl h1 ?_
  refine z_iconst (x := (-1)) (pc' := 63) dX11_law_62 (by decide) rfl ?_
  refine z_icmp_ne (pt := 70) (pc' := 66) dX11_law_63 (by decide) rfl (fun hc => ?_) (fun hc => ?_)
  · have h := h.1 hc
    refine z_iconst (x := 0) (pc' := 71) dX11_law_70 (by decide) rfl ?_
    exact z_dr (ls' := [some (.ref q0), none, none, some (.ref q_4)]) ⟨rfl, rfl, trivial⟩ h
  · have h := h.2 hc
    refine z_iconst (x := 1) (pc' := 67) dX11_law_66 (by decide) rfl ?_
    refine z_goto (pc' := 71) dX11_law_67 (by decide) ?_
    exact z_dr (ls' := [some (.ref q0), none, none, some (.ref q_4)]) ⟨rfl, rfl, trivial⟩ h
def wp_X11_law_71 (E : ZE) (l : Launch) (d b : Nat) (G0 : ZG) (Q : ZQ) (k : Nat) (q0 : Nat) (q3 : Nat) (s0 : Int32) (G : ZG) : Prop :=
  xcV E l mX11_demand d [.int s0] G k (fun X G9 => Q (.inr X) G9) (fun G1 k2 =>
  zob G1 q0 12 ∧
  zob G1 (zrv G1 q0 3) 0 ∧
  xcI E l mJx4a65c_size_8abf5 d [.ref (zrv G1 q0 3)] G1 k2 (fun X G9 => Q (.inr X) G9) (fun y3 G4 k5 =>
  ((y3 < 12 →
    zob G4 q0 12 ∧
    zob G4 (zrv G4 q0 3) 0 ∧
    xcI E l mJx4a65c_add_9ea2d d [.ref (zrv G4 q0 3), .ref q3] G4 k5 (fun X G9 => Q (.inr X) G9) (fun y6 G7 k8 =>
    zob G7 q3 4 ∧
    Q (.inl (some (.int (ziv G7 q3 1)))) G7)) ∧
  (¬ (y3 < 12) →
    7 ≤ k5 ∧ 6 ≤ d ∧ Q (.inr "java/lang/UnsupportedOperationException") G4))))
theorem wpt_X11_law_71 {E : ZE} {l : Launch} {d b : Nat} {G0 : ZG} {Q : ZQ} {k : Nat} {q0 : Nat} {q3 : Nat} {s0 : Int32} {G : ZG} (htr : l.stackTraces = false) (h : wp_X11_law_71 E l d b G0 Q k q0 q3 s0 G) : zW E l mX11_law d b G0 Q k 71 [some (.ref q0), none, none, some (.ref q3)] [.int s0] G := by
  unfold wp_X11_law_71 at h
  obtain ⟨d1, b1, Qz, hm, hdd, hb, hkx, hk⟩ := h
  refine z_callS (Y := mX11_demand) (n := 1) (as := [.int s0]) (st := []) (pc' := 74) hm dX11_law_71 kX11_77 sX11_demand rfl rfl hdd hb (Nat.le_of_ble_eq_true rfl) (fun r G1 hz => ?_) hkx
  obtain ⟨rfl, h⟩ := hk r G1 hz
  refine z_aload_n (pc' := 75) dX11_law_74 rfl rfl ?_
  obtain ⟨h1, h⟩ := h
  refine z_getR (ci := 12) (kf := 3) (pc' := 78) dX11_law_75 kX11_23 (Or.inl rfl) (by decide) (by decide) rfl rfl h1 ?_
  obtain ⟨h1, h⟩ := h
  obtain ⟨d1, b1, Qz, hm, hdd, hb, hkx, hk⟩ := h
  refine z_callV (Y := mJx4a65c_size_8abf5) (n := 0) (as := []) (st := []) (pc' := 81) (ci := 0) (q := (zrv G1 q0 3)) hm dX11_law_78 kX11_93 vJx4a65c_size_8abf5 rfl rfl (by decide) rfl h1 hdd hb (Nat.le_of_ble_eq_true rfl) (fun r G4 hz => ?_) hkx
  obtain ⟨y3, rfl, h⟩ := hk r G4 hz
  refine z_bipush (x := 12) (pc' := 83) dX11_law_81 (by decide) rfl ?_
  refine z_icmp_lt (pt := 94) (pc' := 86) dX11_law_83 (by decide) rfl (fun hc => ?_) (fun hc => ?_)
  · have h := h.1 hc
    refine z_aload_n (pc' := 95) dX11_law_94 rfl rfl ?_
    obtain ⟨h1, h⟩ := h
    refine z_getR (ci := 12) (kf := 3) (pc' := 98) dX11_law_95 kX11_23 (Or.inl rfl) (by decide) (by decide) rfl rfl h1 ?_
    refine z_aload_n (pc' := 99) dX11_law_98 rfl rfl ?_
    obtain ⟨h1, h⟩ := h
    obtain ⟨d1, b1, Qz, hm, hdd, hb, hkx, hk⟩ := h
    refine z_callV (Y := mJx4a65c_add_9ea2d) (n := 1) (as := [.ref q3]) (st := []) (pc' := 102) (ci := 0) (q := (zrv G4 q0 3)) hm dX11_law_99 kX11_100 vJx4a65c_add_9ea2d rfl rfl (by decide) rfl h1 hdd hb (Nat.le_of_ble_eq_true rfl) (fun r G7 hz => ?_) hkx
    obtain ⟨y6, rfl, h⟩ := hk r G7 hz
    refine z_pop (pc' := 103) dX11_law_102 rfl rfl ?_
    refine z_aload_n (pc' := 104) dX11_law_103 rfl rfl ?_
    obtain ⟨h1, h⟩ := h
    refine z_getI (ci := 4) (kf := 1) (pc' := 107) dX11_law_104 kX11_104 (Or.inl rfl) (by decide) (by decide) rfl rfl h1 ?_
    exact z_iret dX11_law_107 rfl h
  · have h := h.2 hc
    exact z_throw (names := ["java/lang/RuntimeException", "java/lang/Exception"]) htr dX11_law_86 dX11_law_89 dX11_law_90 dX11_law_93 rfl (by decide) kX11_97 x_UnsupportedOperationException h.2.1 (by decide) (Nat.le_of_ble_eq_true rfl) h.1 tX11_99 h.2.2
def wp_X11_lawOf_0 (E : ZE) (l : Launch) (d b : Nat) (G0 : ZG) (Q : ZQ) (k : Nat) (q0 : Nat) (x1 : Int32) (G : ZG) : Prop :=
  zW E l mX11_lawOf d b G0 Q k 4 [some (.ref q0), some (.int x1), some (.ref 0), some (.int 0), none] [] G
theorem wpt_X11_lawOf_0 {E : ZE} {l : Launch} {d b : Nat} {G0 : ZG} {Q : ZQ} {k : Nat} {q0 : Nat} {x1 : Int32} {G : ZG} (h : wp_X11_lawOf_0 E l d b G0 Q k q0 x1 G) : zW E l mX11_lawOf d b G0 Q k 0 [some (.ref q0), some (.int x1), none, none, none] [] G := by
  unfold wp_X11_lawOf_0 at h
  refine z_null (pc' := 1) dX11_lawOf_0 rfl ?_
  refine z_astore_n (pc' := 2) dX11_lawOf_1 (by decide) rfl ?_
  refine z_iconst (x := 0) (pc' := 3) dX11_lawOf_2 (by decide) rfl ?_
  refine z_istore_n (pc' := 4) dX11_lawOf_3 (by decide) rfl ?_
  exact z_dr (ls' := [some (.ref q0), some (.int x1), some (.ref 0), some (.int 0), none]) ⟨rfl, rfl, rfl, rfl, trivial⟩ h
def wp_X11_lawOf_4 (E : ZE) (l : Launch) (d b : Nat) (G0 : ZG) (Q : ZQ) (k : Nat) (q0 : Nat) (x1 : Int32) (q2 : Nat) (x3 : Int32) (G : ZG) : Prop :=
  zob G q0 12 ∧
  zob G (zrv G q0 3) 0 ∧
  xcI E l mJx4a65c_size_8abf5 d [.ref (zrv G q0 3)] G k (fun X G9 => Q (.inr X) G9) (fun y1 G2 k3 =>
  ((y1 ≤ x3 →
    Q (.inl (some (.ref q2))) G2) ∧
  (¬ (y1 ≤ x3) →
    zob G2 q0 12 ∧
    zob G2 (zrv G2 q0 3) 0 ∧
    xcR E l mJx4a65c_get_915e3 d [.ref (zrv G2 q0 3), .int x3] G2 k3 (fun X G9 => Q (.inr X) G9) (fun y4 G5 k6 =>
    zob G5 y4 4 ∧
    zob G5 y4 4 ∧
    ((x1 < (ziv G5 y4 0) →
      zW E l mX11_lawOf d b G0 Q k6 4 [some (.ref q0), some (.int x1), some (.ref q2), some (.int (x3 + 1)), none] [] G5) ∧
    (¬ (x1 < (ziv G5 y4 0)) →
      ((q2 = 0 →
        zW E l mX11_lawOf d b G0 Q k6 4 [some (.ref q0), some (.int x1), some (.ref y4), some (.int (x3 + 1)), none] [] G5) ∧
      (¬ (q2 = 0) →
        zob G5 y4 4 ∧
        zob G5 q2 4 ∧
        (((ziv G5 y4 0) < (ziv G5 q2 0) →
          zW E l mX11_lawOf d b G0 Q k6 4 [some (.ref q0), some (.int x1), some (.ref q2), some (.int (x3 + 1)), none] [] G5) ∧
        (¬ ((ziv G5 y4 0) < (ziv G5 q2 0)) →
          zW E l mX11_lawOf d b G0 Q k6 4 [some (.ref q0), some (.int x1), some (.ref y4), some (.int (x3 + 1)), none] [] G5))))))))))
theorem wpt_X11_lawOf_4 {E : ZE} {l : Launch} {d b : Nat} {G0 : ZG} {Q : ZQ} {k : Nat} {q0 : Nat} {x1 : Int32} {q2 : Nat} {x3 : Int32} {G : ZG} (h : wp_X11_lawOf_4 E l d b G0 Q k q0 x1 q2 x3 G) : zW E l mX11_lawOf d b G0 Q k 4 [some (.ref q0), some (.int x1), some (.ref q2), some (.int x3), none] [] G := by
  unfold wp_X11_lawOf_4 at h
  refine z_iload_n (pc' := 5) dX11_lawOf_4 rfl rfl ?_
  refine z_aload_n (pc' := 6) dX11_lawOf_5 rfl rfl ?_
  obtain ⟨h1, h⟩ := h
  refine z_getR (ci := 12) (kf := 3) (pc' := 9) dX11_lawOf_6 kX11_23 (Or.inl rfl) (by decide) (by decide) rfl rfl h1 ?_
  obtain ⟨h1, h⟩ := h
  obtain ⟨d1, b1, Qz, hm, hdd, hb, hkx, hk⟩ := h
  refine z_callV (Y := mJx4a65c_size_8abf5) (n := 0) (as := []) (st := [.int x3]) (pc' := 12) (ci := 0) (q := (zrv G q0 3)) hm dX11_lawOf_9 kX11_93 vJx4a65c_size_8abf5 rfl rfl (by decide) rfl h1 hdd hb (Nat.le_of_ble_eq_true rfl) (fun r G2 hz => ?_) hkx
  obtain ⟨y1, rfl, h⟩ := hk r G2 hz
  refine z_icmp_ge (pt := 62) (pc' := 15) dX11_lawOf_12 (by decide) rfl (fun hc => ?_) (fun hc => ?_)
  · have h := h.1 hc
    refine z_aload_n (pc' := 63) dX11_lawOf_62 rfl rfl ?_
    exact z_aret dX11_lawOf_63 rfl (Or.inl ⟨_, rfl⟩) h
  · have h := h.2 hc
    refine z_aload_n (pc' := 16) dX11_lawOf_15 rfl rfl ?_
    obtain ⟨h1, h⟩ := h
    refine z_getR (ci := 12) (kf := 3) (pc' := 19) dX11_lawOf_16 kX11_23 (Or.inl rfl) (by decide) (by decide) rfl rfl h1 ?_
    refine z_iload_n (pc' := 20) dX11_lawOf_19 rfl rfl ?_
    obtain ⟨h1, h⟩ := h
    obtain ⟨d1, b1, Qz, hm, hdd, hb, hkx, hk⟩ := h
    refine z_callV (Y := mJx4a65c_get_915e3) (n := 1) (as := [.int x3]) (st := []) (pc' := 23) (ci := 0) (q := (zrv G2 q0 3)) hm dX11_lawOf_20 kX11_107 vJx4a65c_get_915e3 rfl rfl (by decide) rfl h1 hdd hb (Nat.le_of_ble_eq_true rfl) (fun r G5 hz => ?_) hkx
    obtain ⟨y4, rfl, h⟩ := hk r G5 hz
    obtain ⟨h1, h⟩ := h
    refine z_castO (ci := 4) (pc' := 26) dX11_lawOf_23 kX11_81 (by decide) rfl h1 ?_
    refine z_astore (pc' := 28) dX11_lawOf_26 (by decide) rfl ?_
    refine z_aload (pc' := 30) dX11_lawOf_28 rfl rfl ?_
    obtain ⟨h1, h⟩ := h
    refine z_getI (ci := 4) (kf := 0) (pc' := 33) dX11_lawOf_30 kX11_111 (Or.inl rfl) (by decide) (by decide) rfl rfl h1 ?_
    refine z_iload_n (pc' := 34) dX11_lawOf_33 rfl rfl ?_
    refine z_icmp_gt (pt := 56) (pc' := 37) dX11_lawOf_34 (by decide) rfl (fun hc => ?_) (fun hc => ?_)
    · have h := h.1 hc
      refine z_iinc (y := x3 + 1) (pc' := 59) dX11_lawOf_56 rfl (zinc_1 _) (by decide) rfl ?_
      refine z_goto (pc' := 4) dX11_lawOf_59 (by decide) ?_
      exact z_dr (ls' := [some (.ref q0), some (.int x1), some (.ref q2), some (.int (x3 + 1)), none]) ⟨rfl, rfl, rfl, rfl, trivial⟩ h
    · have h := h.2 hc
      refine z_aload_n (pc' := 38) dX11_lawOf_37 rfl rfl ?_
      refine z_ifnull (pt := 53) (pc' := 41) dX11_lawOf_38 (by decide) rfl (fun hc => ?_) (fun hc => ?_)
      · have h := h.1 hc
        refine z_aload (pc' := 55) dX11_lawOf_53 rfl rfl ?_
        refine z_astore_n (pc' := 56) dX11_lawOf_55 (by decide) rfl ?_
        refine z_iinc (y := x3 + 1) (pc' := 59) dX11_lawOf_56 rfl (zinc_1 _) (by decide) rfl ?_
        refine z_goto (pc' := 4) dX11_lawOf_59 (by decide) ?_
        exact z_dr (ls' := [some (.ref q0), some (.int x1), some (.ref y4), some (.int (x3 + 1)), none]) ⟨rfl, rfl, rfl, rfl, trivial⟩ h
      · have h := h.2 hc
        refine z_aload (pc' := 43) dX11_lawOf_41 rfl rfl ?_
        obtain ⟨h1, h⟩ := h
        refine z_getI (ci := 4) (kf := 0) (pc' := 46) dX11_lawOf_43 kX11_111 (Or.inl rfl) (by decide) (by decide) rfl rfl h1 ?_
        refine z_aload_n (pc' := 47) dX11_lawOf_46 rfl rfl ?_
        obtain ⟨h1, h⟩ := h
        refine z_getI (ci := 4) (kf := 0) (pc' := 50) dX11_lawOf_47 kX11_111 (Or.inl rfl) (by decide) (by decide) rfl rfl h1 ?_
        refine z_icmp_lt (pt := 56) (pc' := 53) dX11_lawOf_50 (by decide) rfl (fun hc => ?_) (fun hc => ?_)
        · have h := h.1 hc
          refine z_iinc (y := x3 + 1) (pc' := 59) dX11_lawOf_56 rfl (zinc_1 _) (by decide) rfl ?_
          refine z_goto (pc' := 4) dX11_lawOf_59 (by decide) ?_
          exact z_dr (ls' := [some (.ref q0), some (.int x1), some (.ref q2), some (.int (x3 + 1)), none]) ⟨rfl, rfl, rfl, rfl, trivial⟩ h
        · have h := h.2 hc
          refine z_aload (pc' := 55) dX11_lawOf_53 rfl rfl ?_
          refine z_astore_n (pc' := 56) dX11_lawOf_55 (by decide) rfl ?_
          refine z_iinc (y := x3 + 1) (pc' := 59) dX11_lawOf_56 rfl (zinc_1 _) (by decide) rfl ?_
          refine z_goto (pc' := 4) dX11_lawOf_59 (by decide) ?_
          exact z_dr (ls' := [some (.ref q0), some (.int x1), some (.ref y4), some (.int (x3 + 1)), none]) ⟨rfl, rfl, rfl, rfl, trivial⟩ h
def wp_X11_led_0 (E : ZE) (l : Launch) (d b : Nat) (G0 : ZG) (Q : ZQ) (k : Nat) (q0 : Nat) (x1 : Int32) (x2 : Int32) (G : ZG) : Prop :=
  zob G q0 12 ∧
  xcR E l mX11_askingAt d [.ref q0, .int x1] G k (fun X G9 => Q (.inr X) G9) (fun y1 G2 k3 =>
  ((x2 = 0 →
    zob G2 y1 1 ∧
    Q (.inl (some (.int (ziv G2 y1 7)))) G2) ∧
  ((x2 = 1 →
    zob G2 y1 1 ∧
    zob G2 (zrv G2 y1 1) 9 ∧
    Q (.inl (some (.int (ziv G2 (zrv G2 y1 1) 0)))) G2) ∧
  ((x2 = 2 →
    zob G2 y1 1 ∧
    Q (.inl (some (.int (ziv G2 y1 2)))) G2) ∧
  ((x2 = 3 →
    zob G2 y1 1 ∧
    Q (.inl (some (.int (ziv G2 y1 3)))) G2) ∧
  ((x2 = 4 →
    zob G2 y1 1 ∧
    Q (.inl (some (.int (ziv G2 y1 4)))) G2) ∧
  ((x2 = 5 →
    zob G2 y1 1 ∧
    Q (.inl (some (.int (ziv G2 y1 8)))) G2) ∧
  ((x2 = 6 →
    zob G2 y1 1 ∧
    xcI E l mX0_lackingItems d [.ref y1] G2 k3 (fun X G9 => Q (.inr X) G9) (fun y4 G5 k6 =>
    Q (.inl (some (.int y4))) G5)) ∧
  ((x2 = 7 →
    zob G2 y1 1 ∧
    zob G2 (zrv G2 y1 6) 11 ∧
    Q (.inl (some (.int (ziv G2 (zrv G2 y1 6) 1)))) G2) ∧
  ((x2 = 8 →
    zob G2 y1 1 ∧
    (((ziv G2 y1 9) = 0 →
      Q (.inl (some (.int 0))) G2) ∧
    (¬ ((ziv G2 y1 9) = 0) →
      Q (.inl (some (.int 1))) G2))) ∧
  ((x2 = 9 →
    zob G2 y1 1 ∧
    zob G2 (zrv G2 y1 6) 11 ∧
    Q (.inl (some (.int (ziv G2 (zrv G2 y1 6) 2)))) G2) ∧
  ((x2 = 10 →
    zob G2 y1 1 ∧
    zob G2 (zrv G2 y1 6) 11 ∧
    xcI E l mX10_validYears d [.ref (zrv G2 y1 6)] G2 k3 (fun X G9 => Q (.inr X) G9) (fun y7 G8 k9 =>
    Q (.inl (some (.int y7))) G8)) ∧
  ((x2 = 11 →
    zob G2 y1 1 ∧
    Q (.inl (some (.int (ziv G2 y1 10)))) G2) ∧
  ((x2 = 12 →
    zob G2 y1 1 ∧
    Q (.inl (some (.int (ziv G2 y1 11)))) G2) ∧
  ((x2 = 13 →
    zob G2 y1 1 ∧
    Q (.inl (some (.int (ziv G2 y1 12)))) G2) ∧
  ((x2 = 14 →
    zob G2 y1 1 ∧
    Q (.inl (some (.int (ziv G2 y1 13)))) G2) ∧
  ((x2 = 15 →
    zob G2 y1 1 ∧
    Q (.inl (some (.int (ziv G2 y1 14)))) G2) ∧
  (¬ x2 = 0 → ¬ x2 = 1 → ¬ x2 = 2 → ¬ x2 = 3 → ¬ x2 = 4 → ¬ x2 = 5 → ¬ x2 = 6 → ¬ x2 = 7 → ¬ x2 = 8 → ¬ x2 = 9 → ¬ x2 = 10 → ¬ x2 = 11 → ¬ x2 = 12 → ¬ x2 = 13 → ¬ x2 = 14 → ¬ x2 = 15 →
    7 ≤ k3 ∧ 6 ≤ d ∧ Q (.inr "java/util/NoSuchElementException") G2))))))))))))))))))
theorem wpt_X11_led_0 {E : ZE} {l : Launch} {d b : Nat} {G0 : ZG} {Q : ZQ} {k : Nat} {q0 : Nat} {x1 : Int32} {x2 : Int32} {G : ZG} (htr : l.stackTraces = false) (h : wp_X11_led_0 E l d b G0 Q k q0 x1 x2 G) : zW E l mX11_led d b G0 Q k 0 [some (.ref q0), some (.int x1), some (.int x2), none] [] G := by
  unfold wp_X11_led_0 at h
  refine z_aload_n (pc' := 1) dX11_led_0 rfl rfl ?_
  refine z_iload_n (pc' := 2) dX11_led_1 rfl rfl ?_
  obtain ⟨h1, h⟩ := h
  obtain ⟨d1, b1, Qz, hm, hdd, hb, hkx, hk⟩ := h
  refine z_callV (Y := mX11_askingAt) (n := 1) (as := [.int x1]) (st := []) (pc' := 5) (ci := 12) (q := q0) hm dX11_led_2 kX11_237 vX11_askingAt rfl rfl (by decide) rfl h1 hdd hb (Nat.le_of_ble_eq_true rfl) (fun r G2 hz => ?_) hkx
  obtain ⟨y1, rfl, h⟩ := hk r G2 hz
  refine z_astore_n (pc' := 6) dX11_led_5 (by decide) rfl ?_
  refine z_iload_n (pc' := 7) dX11_led_6 rfl rfl ?_
  by_cases hc0 : x2 = 0
  · have h := h.1 hc0
    refine z_tableIn (off := 77) (pt := 84) dX11_led_7 (by rw [hc0]; decide) (by rw [hc0]; decide) (by rw [hc0]; decide) (by decide) ?_
    refine z_aload_n (pc' := 85) dX11_led_84 rfl rfl ?_
    obtain ⟨h1, h⟩ := h
    refine z_getI (ci := 1) (kf := 7) (pc' := 88) dX11_led_85 kX11_241 (Or.inl rfl) (by decide) (by decide) rfl rfl h1 ?_
    exact z_iret dX11_led_88 rfl h
  have h := h.2
  by_cases hc1 : x2 = 1
  · have h := h.1 hc1
    refine z_tableIn (off := 82) (pt := 89) dX11_led_7 (by rw [hc1]; decide) (by rw [hc1]; decide) (by rw [hc1]; decide) (by decide) ?_
    refine z_aload_n (pc' := 90) dX11_led_89 rfl rfl ?_
    obtain ⟨h1, h⟩ := h
    refine z_getR (ci := 1) (kf := 1) (pc' := 93) dX11_led_90 kX11_263 (Or.inl rfl) (by decide) (by decide) rfl rfl h1 ?_
    obtain ⟨h1, h⟩ := h
    refine z_getI (ci := 9) (kf := 0) (pc' := 96) dX11_led_93 kX11_127 (Or.inl rfl) (by decide) (by decide) rfl rfl h1 ?_
    exact z_iret dX11_led_96 rfl h
  have h := h.2
  by_cases hc2 : x2 = 2
  · have h := h.1 hc2
    refine z_tableIn (off := 90) (pt := 97) dX11_led_7 (by rw [hc2]; decide) (by rw [hc2]; decide) (by rw [hc2]; decide) (by decide) ?_
    refine z_aload_n (pc' := 98) dX11_led_97 rfl rfl ?_
    obtain ⟨h1, h⟩ := h
    refine z_getI (ci := 1) (kf := 2) (pc' := 101) dX11_led_98 kX11_267 (Or.inl rfl) (by decide) (by decide) rfl rfl h1 ?_
    exact z_iret dX11_led_101 rfl h
  have h := h.2
  by_cases hc3 : x2 = 3
  · have h := h.1 hc3
    refine z_tableIn (off := 95) (pt := 102) dX11_led_7 (by rw [hc3]; decide) (by rw [hc3]; decide) (by rw [hc3]; decide) (by decide) ?_
    refine z_aload_n (pc' := 103) dX11_led_102 rfl rfl ?_
    obtain ⟨h1, h⟩ := h
    refine z_getI (ci := 1) (kf := 3) (pc' := 106) dX11_led_103 kX11_270 (Or.inl rfl) (by decide) (by decide) rfl rfl h1 ?_
    exact z_iret dX11_led_106 rfl h
  have h := h.2
  by_cases hc4 : x2 = 4
  · have h := h.1 hc4
    refine z_tableIn (off := 100) (pt := 107) dX11_led_7 (by rw [hc4]; decide) (by rw [hc4]; decide) (by rw [hc4]; decide) (by decide) ?_
    refine z_aload_n (pc' := 108) dX11_led_107 rfl rfl ?_
    obtain ⟨h1, h⟩ := h
    refine z_getI (ci := 1) (kf := 4) (pc' := 111) dX11_led_108 kX11_273 (Or.inl rfl) (by decide) (by decide) rfl rfl h1 ?_
    exact z_iret dX11_led_111 rfl h
  have h := h.2
  by_cases hc5 : x2 = 5
  · have h := h.1 hc5
    refine z_tableIn (off := 105) (pt := 112) dX11_led_7 (by rw [hc5]; decide) (by rw [hc5]; decide) (by rw [hc5]; decide) (by decide) ?_
    refine z_aload_n (pc' := 113) dX11_led_112 rfl rfl ?_
    obtain ⟨h1, h⟩ := h
    refine z_getI (ci := 1) (kf := 8) (pc' := 116) dX11_led_113 kX11_226 (Or.inl rfl) (by decide) (by decide) rfl rfl h1 ?_
    exact z_iret dX11_led_116 rfl h
  have h := h.2
  by_cases hc6 : x2 = 6
  · have h := h.1 hc6
    refine z_tableIn (off := 110) (pt := 117) dX11_led_7 (by rw [hc6]; decide) (by rw [hc6]; decide) (by rw [hc6]; decide) (by decide) ?_
    refine z_aload_n (pc' := 118) dX11_led_117 rfl rfl ?_
    obtain ⟨h1, h⟩ := h
    obtain ⟨d1, b1, Qz, hm, hdd, hb, hkx, hk⟩ := h
    refine z_callV (Y := mX0_lackingItems) (n := 0) (as := []) (st := []) (pc' := 121) (ci := 1) (q := y1) hm dX11_led_118 kX11_247 vX0_lackingItems rfl rfl (by decide) rfl h1 hdd hb (Nat.le_of_ble_eq_true rfl) (fun r G5 hz => ?_) hkx
    obtain ⟨y4, rfl, h⟩ := hk r G5 hz
    exact z_iret dX11_led_121 rfl h
  have h := h.2
  by_cases hc7 : x2 = 7
  · have h := h.1 hc7
    refine z_tableIn (off := 115) (pt := 122) dX11_led_7 (by rw [hc7]; decide) (by rw [hc7]; decide) (by rw [hc7]; decide) (by decide) ?_
    refine z_aload_n (pc' := 123) dX11_led_122 rfl rfl ?_
    obtain ⟨h1, h⟩ := h
    refine z_getR (ci := 1) (kf := 6) (pc' := 126) dX11_led_123 kX11_232 (Or.inl rfl) (by decide) (by decide) rfl rfl h1 ?_
    obtain ⟨h1, h⟩ := h
    refine z_getI (ci := 11) (kf := 1) (pc' := 129) dX11_led_126 kX11_181 (Or.inl rfl) (by decide) (by decide) rfl rfl h1 ?_
    exact z_iret dX11_led_129 rfl h
  have h := h.2
  by_cases hc8 : x2 = 8
  · have h := h.1 hc8
    refine z_tableIn (off := 123) (pt := 130) dX11_led_7 (by rw [hc8]; decide) (by rw [hc8]; decide) (by rw [hc8]; decide) (by decide) ?_
    refine z_aload_n (pc' := 131) dX11_led_130 rfl rfl ?_
    obtain ⟨h1, h⟩ := h
    refine z_getI (ci := 1) (kf := 9) (pc' := 134) dX11_led_131 kX11_276 (Or.inl rfl) (by decide) (by decide) rfl rfl h1 ?_
    refine z_if_eq (pt := 141) (pc' := 137) dX11_led_134 (by decide) rfl (fun hc => ?_) (fun hc => ?_)
    · have h := h.1 hc
      refine z_iconst (x := 0) (pc' := 142) dX11_led_141 (by decide) rfl ?_
      exact z_iret dX11_led_142 rfl h
    · have h := h.2 hc
      refine z_iconst (x := 1) (pc' := 138) dX11_led_137 (by decide) rfl ?_
      refine z_goto (pc' := 142) dX11_led_138 (by decide) ?_
      exact z_iret dX11_led_142 rfl h
  have h := h.2
  by_cases hc9 : x2 = 9
  · have h := h.1 hc9
    refine z_tableIn (off := 136) (pt := 143) dX11_led_7 (by rw [hc9]; decide) (by rw [hc9]; decide) (by rw [hc9]; decide) (by decide) ?_
    refine z_aload_n (pc' := 144) dX11_led_143 rfl rfl ?_
    obtain ⟨h1, h⟩ := h
    refine z_getR (ci := 1) (kf := 6) (pc' := 147) dX11_led_144 kX11_232 (Or.inl rfl) (by decide) (by decide) rfl rfl h1 ?_
    obtain ⟨h1, h⟩ := h
    refine z_getI (ci := 11) (kf := 2) (pc' := 150) dX11_led_147 kX11_187 (Or.inl rfl) (by decide) (by decide) rfl rfl h1 ?_
    exact z_iret dX11_led_150 rfl h
  have h := h.2
  by_cases hc10 : x2 = 10
  · have h := h.1 hc10
    refine z_tableIn (off := 144) (pt := 151) dX11_led_7 (by rw [hc10]; decide) (by rw [hc10]; decide) (by rw [hc10]; decide) (by decide) ?_
    refine z_aload_n (pc' := 152) dX11_led_151 rfl rfl ?_
    obtain ⟨h1, h⟩ := h
    refine z_getR (ci := 1) (kf := 6) (pc' := 155) dX11_led_152 kX11_232 (Or.inl rfl) (by decide) (by decide) rfl rfl h1 ?_
    obtain ⟨h1, h⟩ := h
    obtain ⟨d1, b1, Qz, hm, hdd, hb, hkx, hk⟩ := h
    refine z_callV (Y := mX10_validYears) (n := 0) (as := []) (st := []) (pc' := 158) (ci := 11) (q := (zrv G2 y1 6)) hm dX11_led_155 kX11_184 vX10_validYears rfl rfl (by decide) rfl h1 hdd hb (Nat.le_of_ble_eq_true rfl) (fun r G8 hz => ?_) hkx
    obtain ⟨y7, rfl, h⟩ := hk r G8 hz
    exact z_iret dX11_led_158 rfl h
  have h := h.2
  by_cases hc11 : x2 = 11
  · have h := h.1 hc11
    refine z_tableIn (off := 152) (pt := 159) dX11_led_7 (by rw [hc11]; decide) (by rw [hc11]; decide) (by rw [hc11]; decide) (by decide) ?_
    refine z_aload_n (pc' := 160) dX11_led_159 rfl rfl ?_
    obtain ⟨h1, h⟩ := h
    refine z_getI (ci := 1) (kf := 10) (pc' := 163) dX11_led_160 kX11_254 (Or.inl rfl) (by decide) (by decide) rfl rfl h1 ?_
    exact z_iret dX11_led_163 rfl h
  have h := h.2
  by_cases hc12 : x2 = 12
  · have h := h.1 hc12
    refine z_tableIn (off := 157) (pt := 164) dX11_led_7 (by rw [hc12]; decide) (by rw [hc12]; decide) (by rw [hc12]; decide) (by decide) ?_
    refine z_aload_n (pc' := 165) dX11_led_164 rfl rfl ?_
    obtain ⟨h1, h⟩ := h
    refine z_getI (ci := 1) (kf := 11) (pc' := 168) dX11_led_165 kX11_279 (Or.inl rfl) (by decide) (by decide) rfl rfl h1 ?_
    exact z_iret dX11_led_168 rfl h
  have h := h.2
  by_cases hc13 : x2 = 13
  · have h := h.1 hc13
    refine z_tableIn (off := 162) (pt := 169) dX11_led_7 (by rw [hc13]; decide) (by rw [hc13]; decide) (by rw [hc13]; decide) (by decide) ?_
    refine z_aload_n (pc' := 170) dX11_led_169 rfl rfl ?_
    obtain ⟨h1, h⟩ := h
    refine z_getI (ci := 1) (kf := 12) (pc' := 173) dX11_led_170 kX11_282 (Or.inl rfl) (by decide) (by decide) rfl rfl h1 ?_
    exact z_iret dX11_led_173 rfl h
  have h := h.2
  by_cases hc14 : x2 = 14
  · have h := h.1 hc14
    refine z_tableIn (off := 167) (pt := 174) dX11_led_7 (by rw [hc14]; decide) (by rw [hc14]; decide) (by rw [hc14]; decide) (by decide) ?_
    refine z_aload_n (pc' := 175) dX11_led_174 rfl rfl ?_
    obtain ⟨h1, h⟩ := h
    refine z_getI (ci := 1) (kf := 13) (pc' := 178) dX11_led_175 kX11_260 (Or.inl rfl) (by decide) (by decide) rfl rfl h1 ?_
    exact z_iret dX11_led_178 rfl h
  have h := h.2
  by_cases hc15 : x2 = 15
  · have h := h.1 hc15
    refine z_tableIn (off := 172) (pt := 179) dX11_led_7 (by rw [hc15]; decide) (by rw [hc15]; decide) (by rw [hc15]; decide) (by decide) ?_
    refine z_aload_n (pc' := 180) dX11_led_179 rfl rfl ?_
    obtain ⟨h1, h⟩ := h
    refine z_getI (ci := 1) (kf := 14) (pc' := 183) dX11_led_180 kX11_285 (Or.inl rfl) (by decide) (by decide) rfl rfl h1 ?_
    exact z_iret dX11_led_183 rfl h
  have h := h.2
  have h := h hc0 hc1 hc2 hc3 hc4 hc5 hc6 hc7 hc8 hc9 hc10 hc11 hc12 hc13 hc14 hc15
  refine z_tableOut (pt := 184) dX11_led_7 (by have e0 := lv_neT (a := 0) hc0 (by decide); have e1 := lv_neT (a := 1) hc1 (by decide); have e2 := lv_neT (a := 2) hc2 (by decide); have e3 := lv_neT (a := 3) hc3 (by decide); have e4 := lv_neT (a := 4) hc4 (by decide); have e5 := lv_neT (a := 5) hc5 (by decide); have e6 := lv_neT (a := 6) hc6 (by decide); have e7 := lv_neT (a := 7) hc7 (by decide); have e8 := lv_neT (a := 8) hc8 (by decide); have e9 := lv_neT (a := 9) hc9 (by decide); have e10 := lv_neT (a := 10) hc10 (by decide); have e11 := lv_neT (a := 11) hc11 (by decide); have e12 := lv_neT (a := 12) hc12 (by decide); have e13 := lv_neT (a := 13) hc13 (by decide); have e14 := lv_neT (a := 14) hc14 (by decide); have e15 := lv_neT (a := 15) hc15 (by decide); omega) (by decide) ?_
  exact z_throw (names := ["java/lang/RuntimeException", "java/lang/Exception"]) htr dX11_led_184 dX11_led_187 dX11_led_188 dX11_led_191 rfl (by decide) kX11_197 x_NoSuchElementException h.2.1 (by decide) (Nat.le_of_ble_eq_true rfl) h.1 tX11_199 h.2.2
def wp_X11_lend_0 (E : ZE) (l : Launch) (d b : Nat) (G0 : ZG) (Q : ZQ) (k : Nat) (q0 : Nat) (x1 : Int32) (x2 : Int32) (x3 : Int32) (x4 : Int32) (x5 : Int32) (G : ZG) : Prop :=
  xcV E l mX11_checkDesk d [.int x1] G k (fun X G9 => Q (.inr X) G9) (fun G1 k2 =>
  ((x2 < 1 →
    zW E l mX11_lend d b G0 Q k2 20 [some (.ref q0), some (.int x1), some (.int x2), some (.int x3), some (.int x4), some (.int x5)] [.int 0] G1) ∧
  (¬ (x2 < 1) →
    ((30 < x2 →
      zW E l mX11_lend d b G0 Q k2 20 [some (.ref q0), some (.int x1), some (.int x2), some (.int x3), some (.int x4), some (.int x5)] [.int 0] G1) ∧
    (¬ (30 < x2) →
      zW E l mX11_lend d b G0 Q k2 20 [some (.ref q0), some (.int x1), some (.int x2), some (.int x3), some (.int x4), some (.int x5)] [.int 1] G1)))))
theorem wpt_X11_lend_0 {E : ZE} {l : Launch} {d b : Nat} {G0 : ZG} {Q : ZQ} {k : Nat} {q0 : Nat} {x1 : Int32} {x2 : Int32} {x3 : Int32} {x4 : Int32} {x5 : Int32} {G : ZG} (h : wp_X11_lend_0 E l d b G0 Q k q0 x1 x2 x3 x4 x5 G) : zW E l mX11_lend d b G0 Q k 0 [some (.ref q0), some (.int x1), some (.int x2), some (.int x3), some (.int x4), some (.int x5)] [] G := by
  unfold wp_X11_lend_0 at h
  refine z_iload_n (pc' := 1) dX11_lend_0 rfl rfl ?_
  obtain ⟨d1, b1, Qz, hm, hdd, hb, hkx, hk⟩ := h
  refine z_callS (Y := mX11_checkDesk) (n := 1) (as := [.int x1]) (st := []) (pc' := 4) hm dX11_lend_1 kX11_288 sX11_checkDesk rfl rfl hdd hb (Nat.le_of_ble_eq_true rfl) (fun r G1 hz => ?_) hkx
  obtain ⟨rfl, h⟩ := hk r G1 hz
  refine z_iload_n (pc' := 5) dX11_lend_4 rfl rfl ?_
  refine z_iconst (x := 1) (pc' := 6) dX11_lend_5 (by decide) rfl ?_
  refine z_icmp_lt (pt := 19) (pc' := 9) dX11_lend_6 (by decide) rfl (fun hc => ?_) (fun hc => ?_)
  · have h := h.1 hc
    refine z_iconst (x := 0) (pc' := 20) dX11_lend_19 (by decide) rfl ?_
    exact z_dr (ls' := [some (.ref q0), some (.int x1), some (.int x2), some (.int x3), some (.int x4), some (.int x5)]) ⟨rfl, rfl, rfl, rfl, rfl, rfl, trivial⟩ h
  · have h := h.2 hc
    refine z_iload_n (pc' := 10) dX11_lend_9 rfl rfl ?_
    refine z_bipush (x := 30) (pc' := 12) dX11_lend_10 (by decide) rfl ?_
    refine z_icmp_gt (pt := 19) (pc' := 15) dX11_lend_12 (by decide) rfl (fun hc => ?_) (fun hc => ?_)
    · have h := h.1 hc
      refine z_iconst (x := 0) (pc' := 20) dX11_lend_19 (by decide) rfl ?_
      exact z_dr (ls' := [some (.ref q0), some (.int x1), some (.int x2), some (.int x3), some (.int x4), some (.int x5)]) ⟨rfl, rfl, rfl, rfl, rfl, rfl, trivial⟩ h
    · have h := h.2 hc
      refine z_iconst (x := 1) (pc' := 16) dX11_lend_15 (by decide) rfl ?_
      refine z_goto (pc' := 20) dX11_lend_16 (by decide) ?_
      exact z_dr (ls' := [some (.ref q0), some (.int x1), some (.int x2), some (.int x3), some (.int x4), some (.int x5)]) ⟨rfl, rfl, rfl, rfl, rfl, rfl, trivial⟩ h
def wp_X11_lend_20 (E : ZE) (l : Launch) (d b : Nat) (G0 : ZG) (Q : ZQ) (k : Nat) (q0 : Nat) (x1 : Int32) (x2 : Int32) (x3 : Int32) (x4 : Int32) (x5 : Int32) (s0 : Int32) (G : ZG) : Prop :=
  xcV E l mX11_demand d [.int s0] G k (fun X G9 => Q (.inr X) G9) (fun G1 k2 =>
  zob G1 q0 12 ∧
  zob G1 (zrv G1 q0 7) 7 ∧
  ((x3 < (ziv G1 (zrv G1 q0 7) 6) →
    xcV E l mX11_demand d [.int 0] G1 k2 (fun X G9 => Q (.inr X) G9) (fun G3 k4 =>
    ((x5 < 0 →
      zW E l mX11_lend d b G0 Q k4 73 [some (.ref q0), some (.int x1), some (.int x2), some (.int x3), some (.int x4), some (.int x5)] [.int 0] G3) ∧
    (¬ (x5 < 0) →
      ((30 < x5 →
        zW E l mX11_lend d b G0 Q k4 73 [some (.ref q0), some (.int x1), some (.int x2), some (.int x3), some (.int x4), some (.int x5)] [.int 0] G3) ∧
      (¬ (30 < x5) →
        zW E l mX11_lend d b G0 Q k4 73 [some (.ref q0), some (.int x1), some (.int x2), some (.int x3), some (.int x4), some (.int x5)] [.int 1] G3)))))) ∧
  (¬ (x3 < (ziv G1 (zrv G1 q0 7) 6)) →
    ((x4 < x3 →
      xcV E l mX11_demand d [.int 0] G1 k2 (fun X G9 => Q (.inr X) G9) (fun G5 k6 =>
      ((x5 < 0 →
        zW E l mX11_lend d b G0 Q k6 73 [some (.ref q0), some (.int x1), some (.int x2), some (.int x3), some (.int x4), some (.int x5)] [.int 0] G5) ∧
      (¬ (x5 < 0) →
        ((30 < x5 →
          zW E l mX11_lend d b G0 Q k6 73 [some (.ref q0), some (.int x1), some (.int x2), some (.int x3), some (.int x4), some (.int x5)] [.int 0] G5) ∧
        (¬ (30 < x5) →
          zW E l mX11_lend d b G0 Q k6 73 [some (.ref q0), some (.int x1), some (.int x2), some (.int x3), some (.int x4), some (.int x5)] [.int 1] G5)))))) ∧
    (¬ (x4 < x3) →
      ((1000 < x4 →
        xcV E l mX11_demand d [.int 0] G1 k2 (fun X G9 => Q (.inr X) G9) (fun G7 k8 =>
        ((x5 < 0 →
          zW E l mX11_lend d b G0 Q k8 73 [some (.ref q0), some (.int x1), some (.int x2), some (.int x3), some (.int x4), some (.int x5)] [.int 0] G7) ∧
        (¬ (x5 < 0) →
          ((30 < x5 →
            zW E l mX11_lend d b G0 Q k8 73 [some (.ref q0), some (.int x1), some (.int x2), some (.int x3), some (.int x4), some (.int x5)] [.int 0] G7) ∧
          (¬ (30 < x5) →
            zW E l mX11_lend d b G0 Q k8 73 [some (.ref q0), some (.int x1), some (.int x2), some (.int x3), some (.int x4), some (.int x5)] [.int 1] G7)))))) ∧
      (¬ (1000 < x4) →
        xcV E l mX11_demand d [.int 1] G1 k2 (fun X G9 => Q (.inr X) G9) (fun G9 k10 =>
        ((x5 < 0 →
          zW E l mX11_lend d b G0 Q k10 73 [some (.ref q0), some (.int x1), some (.int x2), some (.int x3), some (.int x4), some (.int x5)] [.int 0] G9) ∧
        (¬ (x5 < 0) →
          ((30 < x5 →
            zW E l mX11_lend d b G0 Q k10 73 [some (.ref q0), some (.int x1), some (.int x2), some (.int x3), some (.int x4), some (.int x5)] [.int 0] G9) ∧
          (¬ (30 < x5) →
            zW E l mX11_lend d b G0 Q k10 73 [some (.ref q0), some (.int x1), some (.int x2), some (.int x3), some (.int x4), some (.int x5)] [.int 1] G9))))))))))))
theorem wpt_X11_lend_20 {E : ZE} {l : Launch} {d b : Nat} {G0 : ZG} {Q : ZQ} {k : Nat} {q0 : Nat} {x1 : Int32} {x2 : Int32} {x3 : Int32} {x4 : Int32} {x5 : Int32} {s0 : Int32} {G : ZG} (h : wp_X11_lend_20 E l d b G0 Q k q0 x1 x2 x3 x4 x5 s0 G) : zW E l mX11_lend d b G0 Q k 20 [some (.ref q0), some (.int x1), some (.int x2), some (.int x3), some (.int x4), some (.int x5)] [.int s0] G := by
  unfold wp_X11_lend_20 at h
  obtain ⟨d1, b1, Qz, hm, hdd, hb, hkx, hk⟩ := h
  refine z_callS (Y := mX11_demand) (n := 1) (as := [.int s0]) (st := []) (pc' := 23) hm dX11_lend_20 kX11_77 sX11_demand rfl rfl hdd hb (Nat.le_of_ble_eq_true rfl) (fun r G1 hz => ?_) hkx
  obtain ⟨rfl, h⟩ := hk r G1 hz
  refine z_iload_n (pc' := 24) dX11_lend_23 rfl rfl ?_
  refine z_aload_n (pc' := 25) dX11_lend_24 rfl rfl ?_
  obtain ⟨h1, h⟩ := h
  refine z_getR (ci := 12) (kf := 7) (pc' := 28) dX11_lend_25 kX11_53 (Or.inl rfl) (by decide) (by decide) rfl rfl h1 ?_
  obtain ⟨h1, h⟩ := h
  refine z_getI (ci := 7) (kf := 6) (pc' := 31) dX11_lend_28 kX11_74 (Or.inl rfl) (by decide) (by decide) rfl rfl h1 ?_
  refine z_icmp_lt (pt := 52) (pc' := 34) dX11_lend_31 (by decide) rfl (fun hc => ?_) (fun hc => ?_)
  · have h := h.1 hc
    refine z_iconst (x := 0) (pc' := 53) dX11_lend_52 (by decide) rfl ?_
    obtain ⟨d1, b1, Qz, hm, hdd, hb, hkx, hk⟩ := h
    refine z_callS (Y := mX11_demand) (n := 1) (as := [.int 0]) (st := []) (pc' := 56) hm dX11_lend_53 kX11_77 sX11_demand rfl rfl hdd hb (Nat.le_of_ble_eq_true rfl) (fun r G3 hz => ?_) hkx
    obtain ⟨rfl, h⟩ := hk r G3 hz
    refine z_iload (pc' := 58) dX11_lend_56 rfl rfl ?_
    refine z_if_lt (pt := 72) (pc' := 61) dX11_lend_58 (by decide) rfl (fun hc => ?_) (fun hc => ?_)
    · have h := h.1 hc
      refine z_iconst (x := 0) (pc' := 73) dX11_lend_72 (by decide) rfl ?_
      exact z_dr (ls' := [some (.ref q0), some (.int x1), some (.int x2), some (.int x3), some (.int x4), some (.int x5)]) ⟨rfl, rfl, rfl, rfl, rfl, rfl, trivial⟩ h
    · have h := h.2 hc
      refine z_iload (pc' := 63) dX11_lend_61 rfl rfl ?_
      refine z_bipush (x := 30) (pc' := 65) dX11_lend_63 (by decide) rfl ?_
      refine z_icmp_gt (pt := 72) (pc' := 68) dX11_lend_65 (by decide) rfl (fun hc => ?_) (fun hc => ?_)
      · have h := h.1 hc
        refine z_iconst (x := 0) (pc' := 73) dX11_lend_72 (by decide) rfl ?_
        exact z_dr (ls' := [some (.ref q0), some (.int x1), some (.int x2), some (.int x3), some (.int x4), some (.int x5)]) ⟨rfl, rfl, rfl, rfl, rfl, rfl, trivial⟩ h
      · have h := h.2 hc
        refine z_iconst (x := 1) (pc' := 69) dX11_lend_68 (by decide) rfl ?_
        refine z_goto (pc' := 73) dX11_lend_69 (by decide) ?_
        exact z_dr (ls' := [some (.ref q0), some (.int x1), some (.int x2), some (.int x3), some (.int x4), some (.int x5)]) ⟨rfl, rfl, rfl, rfl, rfl, rfl, trivial⟩ h
  · have h := h.2 hc
    refine z_iload (pc' := 36) dX11_lend_34 rfl rfl ?_
    refine z_iload_n (pc' := 37) dX11_lend_36 rfl rfl ?_
    refine z_icmp_lt (pt := 52) (pc' := 40) dX11_lend_37 (by decide) rfl (fun hc => ?_) (fun hc => ?_)
    · have h := h.1 hc
      refine z_iconst (x := 0) (pc' := 53) dX11_lend_52 (by decide) rfl ?_
      obtain ⟨d1, b1, Qz, hm, hdd, hb, hkx, hk⟩ := h
      refine z_callS (Y := mX11_demand) (n := 1) (as := [.int 0]) (st := []) (pc' := 56) hm dX11_lend_53 kX11_77 sX11_demand rfl rfl hdd hb (Nat.le_of_ble_eq_true rfl) (fun r G5 hz => ?_) hkx
      obtain ⟨rfl, h⟩ := hk r G5 hz
      refine z_iload (pc' := 58) dX11_lend_56 rfl rfl ?_
      refine z_if_lt (pt := 72) (pc' := 61) dX11_lend_58 (by decide) rfl (fun hc => ?_) (fun hc => ?_)
      · have h := h.1 hc
        refine z_iconst (x := 0) (pc' := 73) dX11_lend_72 (by decide) rfl ?_
        exact z_dr (ls' := [some (.ref q0), some (.int x1), some (.int x2), some (.int x3), some (.int x4), some (.int x5)]) ⟨rfl, rfl, rfl, rfl, rfl, rfl, trivial⟩ h
      · have h := h.2 hc
        refine z_iload (pc' := 63) dX11_lend_61 rfl rfl ?_
        refine z_bipush (x := 30) (pc' := 65) dX11_lend_63 (by decide) rfl ?_
        refine z_icmp_gt (pt := 72) (pc' := 68) dX11_lend_65 (by decide) rfl (fun hc => ?_) (fun hc => ?_)
        · have h := h.1 hc
          refine z_iconst (x := 0) (pc' := 73) dX11_lend_72 (by decide) rfl ?_
          exact z_dr (ls' := [some (.ref q0), some (.int x1), some (.int x2), some (.int x3), some (.int x4), some (.int x5)]) ⟨rfl, rfl, rfl, rfl, rfl, rfl, trivial⟩ h
        · have h := h.2 hc
          refine z_iconst (x := 1) (pc' := 69) dX11_lend_68 (by decide) rfl ?_
          refine z_goto (pc' := 73) dX11_lend_69 (by decide) ?_
          exact z_dr (ls' := [some (.ref q0), some (.int x1), some (.int x2), some (.int x3), some (.int x4), some (.int x5)]) ⟨rfl, rfl, rfl, rfl, rfl, rfl, trivial⟩ h
    · have h := h.2 hc
      refine z_iload (pc' := 42) dX11_lend_40 rfl rfl ?_
      refine z_sipush (x := 1000) (pc' := 45) dX11_lend_42 (by decide) rfl ?_
      refine z_icmp_gt (pt := 52) (pc' := 48) dX11_lend_45 (by decide) rfl (fun hc => ?_) (fun hc => ?_)
      · have h := h.1 hc
        refine z_iconst (x := 0) (pc' := 53) dX11_lend_52 (by decide) rfl ?_
        obtain ⟨d1, b1, Qz, hm, hdd, hb, hkx, hk⟩ := h
        refine z_callS (Y := mX11_demand) (n := 1) (as := [.int 0]) (st := []) (pc' := 56) hm dX11_lend_53 kX11_77 sX11_demand rfl rfl hdd hb (Nat.le_of_ble_eq_true rfl) (fun r G7 hz => ?_) hkx
        obtain ⟨rfl, h⟩ := hk r G7 hz
        refine z_iload (pc' := 58) dX11_lend_56 rfl rfl ?_
        refine z_if_lt (pt := 72) (pc' := 61) dX11_lend_58 (by decide) rfl (fun hc => ?_) (fun hc => ?_)
        · have h := h.1 hc
          refine z_iconst (x := 0) (pc' := 73) dX11_lend_72 (by decide) rfl ?_
          exact z_dr (ls' := [some (.ref q0), some (.int x1), some (.int x2), some (.int x3), some (.int x4), some (.int x5)]) ⟨rfl, rfl, rfl, rfl, rfl, rfl, trivial⟩ h
        · have h := h.2 hc
          refine z_iload (pc' := 63) dX11_lend_61 rfl rfl ?_
          refine z_bipush (x := 30) (pc' := 65) dX11_lend_63 (by decide) rfl ?_
          refine z_icmp_gt (pt := 72) (pc' := 68) dX11_lend_65 (by decide) rfl (fun hc => ?_) (fun hc => ?_)
          · have h := h.1 hc
            refine z_iconst (x := 0) (pc' := 73) dX11_lend_72 (by decide) rfl ?_
            exact z_dr (ls' := [some (.ref q0), some (.int x1), some (.int x2), some (.int x3), some (.int x4), some (.int x5)]) ⟨rfl, rfl, rfl, rfl, rfl, rfl, trivial⟩ h
          · have h := h.2 hc
            refine z_iconst (x := 1) (pc' := 69) dX11_lend_68 (by decide) rfl ?_
            refine z_goto (pc' := 73) dX11_lend_69 (by decide) ?_
            exact z_dr (ls' := [some (.ref q0), some (.int x1), some (.int x2), some (.int x3), some (.int x4), some (.int x5)]) ⟨rfl, rfl, rfl, rfl, rfl, rfl, trivial⟩ h
      · have h := h.2 hc
        refine z_iconst (x := 1) (pc' := 49) dX11_lend_48 (by decide) rfl ?_
        refine z_goto (pc' := 53) dX11_lend_49 (by decide) ?_
        obtain ⟨d1, b1, Qz, hm, hdd, hb, hkx, hk⟩ := h
        refine z_callS (Y := mX11_demand) (n := 1) (as := [.int 1]) (st := []) (pc' := 56) hm dX11_lend_53 kX11_77 sX11_demand rfl rfl hdd hb (Nat.le_of_ble_eq_true rfl) (fun r G9 hz => ?_) hkx
        obtain ⟨rfl, h⟩ := hk r G9 hz
        refine z_iload (pc' := 58) dX11_lend_56 rfl rfl ?_
        refine z_if_lt (pt := 72) (pc' := 61) dX11_lend_58 (by decide) rfl (fun hc => ?_) (fun hc => ?_)
        · have h := h.1 hc
          refine z_iconst (x := 0) (pc' := 73) dX11_lend_72 (by decide) rfl ?_
          exact z_dr (ls' := [some (.ref q0), some (.int x1), some (.int x2), some (.int x3), some (.int x4), some (.int x5)]) ⟨rfl, rfl, rfl, rfl, rfl, rfl, trivial⟩ h
        · have h := h.2 hc
          refine z_iload (pc' := 63) dX11_lend_61 rfl rfl ?_
          refine z_bipush (x := 30) (pc' := 65) dX11_lend_63 (by decide) rfl ?_
          refine z_icmp_gt (pt := 72) (pc' := 68) dX11_lend_65 (by decide) rfl (fun hc => ?_) (fun hc => ?_)
          · have h := h.1 hc
            refine z_iconst (x := 0) (pc' := 73) dX11_lend_72 (by decide) rfl ?_
            exact z_dr (ls' := [some (.ref q0), some (.int x1), some (.int x2), some (.int x3), some (.int x4), some (.int x5)]) ⟨rfl, rfl, rfl, rfl, rfl, rfl, trivial⟩ h
          · have h := h.2 hc
            refine z_iconst (x := 1) (pc' := 69) dX11_lend_68 (by decide) rfl ?_
            refine z_goto (pc' := 73) dX11_lend_69 (by decide) ?_
            exact z_dr (ls' := [some (.ref q0), some (.int x1), some (.int x2), some (.int x3), some (.int x4), some (.int x5)]) ⟨rfl, rfl, rfl, rfl, rfl, rfl, trivial⟩ h
def wp_X11_lend_73 (E : ZE) (l : Launch) (d b : Nat) (G0 : ZG) (Q : ZQ) (k : Nat) (q0 : Nat) (x1 : Int32) (x2 : Int32) (x3 : Int32) (x4 : Int32) (x5 : Int32) (s0 : Int32) (G : ZG) : Prop :=
  xcV E l mX11_demand d [.int s0] G k (fun X G9 => Q (.inr X) G9) (fun G1 k2 =>
  zob G1 q0 12 ∧
  zob G1 (zrv G1 q0 5) 3 ∧
  zob G1 (zrv G1 (zrv G1 q0 5) 0) 0 ∧
  xcI E l mJx4a65c_size_8abf5 d [.ref (zrv G1 (zrv G1 q0 5) 0)] G1 k2 (fun X G9 => Q (.inr X) G9) (fun y3 G4 k5 =>
  ((y3 < 20 →
    zob G4 q0 12 ∧
    zob G4 (zrv G4 q0 5) 3 ∧
    6 ≤ k5 ∧ ∃ t6, t6 ≠ 0 ∧ t6 < 448 ∧ t6 / 32 = 5 ∧
    ∀ q_7, q_7 = zp t6 (zcn G4 t6) → ∀ G8, G8 = znw G4 t6 0 → ∀ k9, k9 = k5 - 6 →
    zal G8 q_7 ∧
    xcV E l mX4_init d [.ref q_7, .int x1, .int x2, .int x3, .int x4, .int x5] G8 k9 (fun X G9 => Q (.inr X) G9) (fun G10 k11 =>
    zob G10 (zrv G4 (zrv G4 q0 5) 0) 0 ∧
    xcI E l mJx4a65c_add_9ea2d d [.ref (zrv G4 (zrv G4 q0 5) 0), .ref q_7] G10 k11 (fun X G9 => Q (.inr X) G9) (fun y12 G13 k14 =>
    zob G13 q0 12 ∧
    zob G13 (zrv G13 q0 5) 3 ∧
    zob G13 (zrv G13 (zrv G13 q0 5) 0) 0 ∧
    xcI E l mJx4a65c_size_8abf5 d [.ref (zrv G13 (zrv G13 q0 5) 0)] G13 k14 (fun X G9 => Q (.inr X) G9) (fun y15 G16 k17 =>
    Q (.inl (some (.int y15))) G16)))) ∧
  (¬ (y3 < 20) →
    Q (.inl (some (.int (-1)))) G4))))
theorem wpt_X11_lend_73 {E : ZE} {l : Launch} {d b : Nat} {G0 : ZG} {Q : ZQ} {k : Nat} {q0 : Nat} {x1 : Int32} {x2 : Int32} {x3 : Int32} {x4 : Int32} {x5 : Int32} {s0 : Int32} {G : ZG} (h : wp_X11_lend_73 E l d b G0 Q k q0 x1 x2 x3 x4 x5 s0 G) : zW E l mX11_lend d b G0 Q k 73 [some (.ref q0), some (.int x1), some (.int x2), some (.int x3), some (.int x4), some (.int x5)] [.int s0] G := by
  unfold wp_X11_lend_73 at h
  obtain ⟨d1, b1, Qz, hm, hdd, hb, hkx, hk⟩ := h
  refine z_callS (Y := mX11_demand) (n := 1) (as := [.int s0]) (st := []) (pc' := 76) hm dX11_lend_73 kX11_77 sX11_demand rfl rfl hdd hb (Nat.le_of_ble_eq_true rfl) (fun r G1 hz => ?_) hkx
  obtain ⟨rfl, h⟩ := hk r G1 hz
  refine z_aload_n (pc' := 77) dX11_lend_76 rfl rfl ?_
  obtain ⟨h1, h⟩ := h
  refine z_getR (ci := 12) (kf := 5) (pc' := 80) dX11_lend_77 kX11_37 (Or.inl rfl) (by decide) (by decide) rfl rfl h1 ?_
  obtain ⟨h1, h⟩ := h
  refine z_getR (ci := 3) (kf := 0) (pc' := 83) dX11_lend_80 kX11_295 (Or.inl rfl) (by decide) (by decide) rfl rfl h1 ?_
  obtain ⟨h1, h⟩ := h
  obtain ⟨d1, b1, Qz, hm, hdd, hb, hkx, hk⟩ := h
  refine z_callV (Y := mJx4a65c_size_8abf5) (n := 0) (as := []) (st := []) (pc' := 86) (ci := 0) (q := (zrv G1 (zrv G1 q0 5) 0)) hm dX11_lend_83 kX11_93 vJx4a65c_size_8abf5 rfl rfl (by decide) rfl h1 hdd hb (Nat.le_of_ble_eq_true rfl) (fun r G4 hz => ?_) hkx
  obtain ⟨y3, rfl, h⟩ := hk r G4 hz
  refine z_bipush (x := 20) (pc' := 88) dX11_lend_86 (by decide) rfl ?_
  refine z_icmp_lt (pt := 93) (pc' := 91) dX11_lend_88 (by decide) rfl (fun hc => ?_) (fun hc => ?_)
  · have h := h.1 hc
    refine z_aload_n (pc' := 94) dX11_lend_93 rfl rfl ?_
    obtain ⟨h1, h⟩ := h
    refine z_getR (ci := 12) (kf := 5) (pc' := 97) dX11_lend_94 kX11_37 (Or.inl rfl) (by decide) (by decide) rfl rfl h1 ?_
    obtain ⟨h1, h⟩ := h
    refine z_getR (ci := 3) (kf := 0) (pc' := 100) dX11_lend_97 kX11_295 (Or.inl rfl) (by decide) (by decide) rfl rfl h1 ?_
    obtain ⟨h1, t6, h2, h3, h4, h⟩ := h
    obtain ⟨q_7, hq⟩ : ∃ z, z = zp t6 (zcn G4 t6) := ⟨_, rfl⟩
    obtain ⟨G8, hG⟩ : ∃ z, z = znw G4 t6 0 := ⟨_, rfl⟩
    have h := h _ hq _ hG _ rfl
    refine z_new (ci := 5) (t := t6) (pc' := 103) dX11_lend_100 kX11_298 n5_inst n5_ini (by decide) rfl h2 h3 h4 h1 (z_df (by decide)) ?_
    refine z_mk hq hG ?_
    refine z_dup (pc' := 104) dX11_lend_103 rfl rfl ?_
    refine z_iload_n (pc' := 105) dX11_lend_104 rfl rfl ?_
    refine z_iload_n (pc' := 106) dX11_lend_105 rfl rfl ?_
    refine z_iload_n (pc' := 107) dX11_lend_106 rfl rfl ?_
    refine z_iload (pc' := 109) dX11_lend_107 rfl rfl ?_
    refine z_iload (pc' := 111) dX11_lend_109 rfl rfl ?_
    obtain ⟨h1, h⟩ := h
    obtain ⟨d1, b1, Qz, hm, hdd, hb, hkx, hk⟩ := h
    refine z_callI (Y := mX4_init) (n := 5) (as := [.int x1, .int x2, .int x3, .int x4, .int x5]) (st := [.ref q_7, .ref (zrv G4 (zrv G4 q0 5) 0)]) (pc' := 114) (q := q_7) hm dX11_lend_111 kX11_300 iX4_init rfl rfl h1 hdd hb (Nat.le_of_ble_eq_true rfl) (fun r G10 hz => ?_) hkx
    obtain ⟨rfl, h⟩ := hk r G10 hz
    obtain ⟨h1, h⟩ := h
    obtain ⟨d1, b1, Qz, hm, hdd, hb, hkx, hk⟩ := h
    refine z_callV (Y := mJx4a65c_add_9ea2d) (n := 1) (as := [.ref q_7]) (st := []) (pc' := 117) (ci := 0) (q := (zrv G4 (zrv G4 q0 5) 0)) hm dX11_lend_114 kX11_100 vJx4a65c_add_9ea2d rfl rfl (by decide) rfl h1 hdd hb (Nat.le_of_ble_eq_true rfl) (fun r G13 hz => ?_) hkx
    obtain ⟨y12, rfl, h⟩ := hk r G13 hz
    refine z_pop (pc' := 118) dX11_lend_117 rfl rfl ?_
    refine z_aload_n (pc' := 119) dX11_lend_118 rfl rfl ?_
    obtain ⟨h1, h⟩ := h
    refine z_getR (ci := 12) (kf := 5) (pc' := 122) dX11_lend_119 kX11_37 (Or.inl rfl) (by decide) (by decide) rfl rfl h1 ?_
    obtain ⟨h1, h⟩ := h
    refine z_getR (ci := 3) (kf := 0) (pc' := 125) dX11_lend_122 kX11_295 (Or.inl rfl) (by decide) (by decide) rfl rfl h1 ?_
    obtain ⟨h1, h⟩ := h
    obtain ⟨d1, b1, Qz, hm, hdd, hb, hkx, hk⟩ := h
    refine z_callV (Y := mJx4a65c_size_8abf5) (n := 0) (as := []) (st := []) (pc' := 128) (ci := 0) (q := (zrv G13 (zrv G13 q0 5) 0)) hm dX11_lend_125 kX11_93 vJx4a65c_size_8abf5 rfl rfl (by decide) rfl h1 hdd hb (Nat.le_of_ble_eq_true rfl) (fun r G16 hz => ?_) hkx
    obtain ⟨y15, rfl, h⟩ := hk r G16 hz
    exact z_iret dX11_lend_128 rfl h
  · have h := h.2 hc
    refine z_iconst (x := (-1)) (pc' := 92) dX11_lend_91 (by decide) rfl ?_
    exact z_iret dX11_lend_92 rfl h
def wp_X11_lose_0 (E : ZE) (l : Launch) (d b : Nat) (G0 : ZG) (Q : ZQ) (k : Nat) (q0 : Nat) (x1 : Int32) (G : ZG) : Prop :=
  zob G q0 12 ∧
  xcR E l mX11_askingAt d [.ref q0, .int x1] G k (fun X G9 => Q (.inr X) G9) (fun y1 G2 k3 =>
  zob G2 y1 1 ∧
  ((¬ (ziv G2 y1 7) = 6 →
    xcV E l mX11_allow d [.int 0] G2 k3 (fun X G9 => Q (.inr X) G9) (fun G4 k5 =>
    zob G4 y1 1 ∧
    ∀ G6, G6 = zsi G4 y1 7 8 →
    zob G6 q0 12 ∧
    zob G6 y1 1 ∧
    zob G6 (zrv G6 q0 7) 7 ∧
    xcV E l mX6_endBooklet d [.ref (zrv G6 q0 7), .int (ziv G6 y1 10)] G6 k5 (fun X G9 => Q (.inr X) G9) (fun G7 k8 =>
    Q (.inl none) G7))) ∧
  (¬ (¬ (ziv G2 y1 7) = 6) →
    xcV E l mX11_allow d [.int 1] G2 k3 (fun X G9 => Q (.inr X) G9) (fun G9 k10 =>
    zob G9 y1 1 ∧
    ∀ G11, G11 = zsi G9 y1 7 8 →
    zob G11 q0 12 ∧
    zob G11 y1 1 ∧
    zob G11 (zrv G11 q0 7) 7 ∧
    xcV E l mX6_endBooklet d [.ref (zrv G11 q0 7), .int (ziv G11 y1 10)] G11 k10 (fun X G9 => Q (.inr X) G9) (fun G12 k13 =>
    Q (.inl none) G12)))))
theorem wpt_X11_lose_0 {E : ZE} {l : Launch} {d b : Nat} {G0 : ZG} {Q : ZQ} {k : Nat} {q0 : Nat} {x1 : Int32} {G : ZG} (h : wp_X11_lose_0 E l d b G0 Q k q0 x1 G) : zW E l mX11_lose d b G0 Q k 0 [some (.ref q0), some (.int x1), none] [] G := by
  unfold wp_X11_lose_0 at h
  refine z_aload_n (pc' := 1) dX11_lose_0 rfl rfl ?_
  refine z_iload_n (pc' := 2) dX11_lose_1 rfl rfl ?_
  obtain ⟨h1, h⟩ := h
  obtain ⟨d1, b1, Qz, hm, hdd, hb, hkx, hk⟩ := h
  refine z_callV (Y := mX11_askingAt) (n := 1) (as := [.int x1]) (st := []) (pc' := 5) (ci := 12) (q := q0) hm dX11_lose_2 kX11_237 vX11_askingAt rfl rfl (by decide) rfl h1 hdd hb (Nat.le_of_ble_eq_true rfl) (fun r G2 hz => ?_) hkx
  obtain ⟨y1, rfl, h⟩ := hk r G2 hz
  refine z_astore_n (pc' := 6) dX11_lose_5 (by decide) rfl ?_
  refine z_aload_n (pc' := 7) dX11_lose_6 rfl rfl ?_
  obtain ⟨h1, h⟩ := h
  refine z_getI (ci := 1) (kf := 7) (pc' := 10) dX11_lose_7 kX11_241 (Or.inl rfl) (by decide) (by decide) rfl rfl h1 ?_
  refine z_bipush (x := 6) (pc' := 12) dX11_lose_10 (by decide) rfl ?_
  refine z_icmp_ne (pt := 19) (pc' := 15) dX11_lose_12 (by decide) rfl (fun hc => ?_) (fun hc => ?_)
  · have h := h.1 hc
    refine z_iconst (x := 0) (pc' := 20) dX11_lose_19 (by decide) rfl ?_
    obtain ⟨d1, b1, Qz, hm, hdd, hb, hkx, hk⟩ := h
    refine z_callS (Y := mX11_allow) (n := 1) (as := [.int 0]) (st := []) (pc' := 23) hm dX11_lose_20 kX11_244 sX11_allow rfl rfl hdd hb (Nat.le_of_ble_eq_true rfl) (fun r G4 hz => ?_) hkx
    obtain ⟨rfl, h⟩ := hk r G4 hz
    refine z_aload_n (pc' := 24) dX11_lose_23 rfl rfl ?_
    refine z_bipush (x := 8) (pc' := 26) dX11_lose_24 (by decide) rfl ?_
    obtain ⟨h1, h⟩ := h
    obtain ⟨G6, hG⟩ : ∃ z, z = zsi G4 y1 7 8 := ⟨_, rfl⟩
    have h := h _ hG
    refine z_putI (ci := 1) (kf := 7) (pc' := 29) dX11_lose_26 kX11_241 (Or.inl rfl) (by decide) (by decide) rfl (Or.inl rfl) rfl h1 (zok_int _) ?_
    refine z_st hG ?_
    refine z_aload_n (pc' := 30) dX11_lose_29 rfl rfl ?_
    obtain ⟨h1, h⟩ := h
    refine z_getR (ci := 12) (kf := 7) (pc' := 33) dX11_lose_30 kX11_53 (Or.inl rfl) (by decide) (by decide) rfl rfl h1 ?_
    refine z_aload_n (pc' := 34) dX11_lose_33 rfl rfl ?_
    obtain ⟨h1, h⟩ := h
    refine z_getI (ci := 1) (kf := 10) (pc' := 37) dX11_lose_34 kX11_254 (Or.inl rfl) (by decide) (by decide) rfl rfl h1 ?_
    obtain ⟨h1, h⟩ := h
    obtain ⟨d1, b1, Qz, hm, hdd, hb, hkx, hk⟩ := h
    refine z_callV (Y := mX6_endBooklet) (n := 1) (as := [.int (ziv G6 y1 10)]) (st := []) (pc' := 40) (ci := 7) (q := (zrv G6 q0 7)) hm dX11_lose_37 kX11_257 vX6_endBooklet rfl rfl (by decide) rfl h1 hdd hb (Nat.le_of_ble_eq_true rfl) (fun r G7 hz => ?_) hkx
    obtain ⟨rfl, h⟩ := hk r G7 hz
    exact z_vret dX11_lose_40 rfl h
  · have h := h.2 hc
    refine z_iconst (x := 1) (pc' := 16) dX11_lose_15 (by decide) rfl ?_
    refine z_goto (pc' := 20) dX11_lose_16 (by decide) ?_
    obtain ⟨d1, b1, Qz, hm, hdd, hb, hkx, hk⟩ := h
    refine z_callS (Y := mX11_allow) (n := 1) (as := [.int 1]) (st := []) (pc' := 23) hm dX11_lose_20 kX11_244 sX11_allow rfl rfl hdd hb (Nat.le_of_ble_eq_true rfl) (fun r G9 hz => ?_) hkx
    obtain ⟨rfl, h⟩ := hk r G9 hz
    refine z_aload_n (pc' := 24) dX11_lose_23 rfl rfl ?_
    refine z_bipush (x := 8) (pc' := 26) dX11_lose_24 (by decide) rfl ?_
    obtain ⟨h1, h⟩ := h
    obtain ⟨G11, hG⟩ : ∃ z, z = zsi G9 y1 7 8 := ⟨_, rfl⟩
    have h := h _ hG
    refine z_putI (ci := 1) (kf := 7) (pc' := 29) dX11_lose_26 kX11_241 (Or.inl rfl) (by decide) (by decide) rfl (Or.inl rfl) rfl h1 (zok_int _) ?_
    refine z_st hG ?_
    refine z_aload_n (pc' := 30) dX11_lose_29 rfl rfl ?_
    obtain ⟨h1, h⟩ := h
    refine z_getR (ci := 12) (kf := 7) (pc' := 33) dX11_lose_30 kX11_53 (Or.inl rfl) (by decide) (by decide) rfl rfl h1 ?_
    refine z_aload_n (pc' := 34) dX11_lose_33 rfl rfl ?_
    obtain ⟨h1, h⟩ := h
    refine z_getI (ci := 1) (kf := 10) (pc' := 37) dX11_lose_34 kX11_254 (Or.inl rfl) (by decide) (by decide) rfl rfl h1 ?_
    obtain ⟨h1, h⟩ := h
    obtain ⟨d1, b1, Qz, hm, hdd, hb, hkx, hk⟩ := h
    refine z_callV (Y := mX6_endBooklet) (n := 1) (as := [.int (ziv G11 y1 10)]) (st := []) (pc' := 40) (ci := 7) (q := (zrv G11 q0 7)) hm dX11_lose_37 kX11_257 vX6_endBooklet rfl rfl (by decide) rfl h1 hdd hb (Nat.le_of_ble_eq_true rfl) (fun r G12 hz => ?_) hkx
    obtain ⟨rfl, h⟩ := hk r G12 hz
    exact z_vret dX11_lose_40 rfl h
def wp_X11_missed_0 (E : ZE) (l : Launch) (d b : Nat) (G0 : ZG) (Q : ZQ) (k : Nat) (q0 : Nat) (x1 : Int32) (x2 : Int32) (G : ZG) : Prop :=
  xcI E l mX11_isOrder d [.int x1] G k (fun X G9 => Q (.inr X) G9) (fun y1 G2 k3 =>
  ((y1 = 0 →
    xcV E l mX11_demand d [.int 0] G2 k3 (fun X G9 => Q (.inr X) G9) (fun G4 k5 =>
    zob G4 q0 12 ∧
    zob G4 q0 12 ∧
    zob G4 (zrv G4 q0 8) 7 ∧
    xcV E l mX6_copyFrom d [.ref (zrv G4 q0 8), .ref (zrv G4 q0 7)] G4 k5 (fun X G9 => Q (.inr X) G9) (fun G6 k7 =>
    zob G6 q0 12 ∧
    zob G6 (zrv G6 q0 8) 7 ∧
    ∀ G8, G8 = zsi G6 (zrv G6 q0 8) 7 x1 →
    zW E l mX11_missed d b G0 Q k7 46 [some (.ref q0), none, some (.int x2), some (.int 0), none, none, none] [] G8))) ∧
  (¬ (y1 = 0) →
    ((x2 < 0 →
      xcV E l mX11_demand d [.int 0] G2 k3 (fun X G9 => Q (.inr X) G9) (fun G9 k10 =>
      zob G9 q0 12 ∧
      zob G9 q0 12 ∧
      zob G9 (zrv G9 q0 8) 7 ∧
      xcV E l mX6_copyFrom d [.ref (zrv G9 q0 8), .ref (zrv G9 q0 7)] G9 k10 (fun X G9 => Q (.inr X) G9) (fun G11 k12 =>
      zob G11 q0 12 ∧
      zob G11 (zrv G11 q0 8) 7 ∧
      ∀ G13, G13 = zsi G11 (zrv G11 q0 8) 7 x1 →
      zW E l mX11_missed d b G0 Q k12 46 [some (.ref q0), none, some (.int x2), some (.int 0), none, none, none] [] G13))) ∧
    (¬ (x2 < 0) →
      ((60 < x2 →
        xcV E l mX11_demand d [.int 0] G2 k3 (fun X G9 => Q (.inr X) G9) (fun G14 k15 =>
        zob G14 q0 12 ∧
        zob G14 q0 12 ∧
        zob G14 (zrv G14 q0 8) 7 ∧
        xcV E l mX6_copyFrom d [.ref (zrv G14 q0 8), .ref (zrv G14 q0 7)] G14 k15 (fun X G9 => Q (.inr X) G9) (fun G16 k17 =>
        zob G16 q0 12 ∧
        zob G16 (zrv G16 q0 8) 7 ∧
        ∀ G18, G18 = zsi G16 (zrv G16 q0 8) 7 x1 →
        zW E l mX11_missed d b G0 Q k17 46 [some (.ref q0), none, some (.int x2), some (.int 0), none, none, none] [] G18))) ∧
      (¬ (60 < x2) →
        xcV E l mX11_demand d [.int 1] G2 k3 (fun X G9 => Q (.inr X) G9) (fun G19 k20 =>
        zob G19 q0 12 ∧
        zob G19 q0 12 ∧
        zob G19 (zrv G19 q0 8) 7 ∧
        xcV E l mX6_copyFrom d [.ref (zrv G19 q0 8), .ref (zrv G19 q0 7)] G19 k20 (fun X G9 => Q (.inr X) G9) (fun G21 k22 =>
        zob G21 q0 12 ∧
        zob G21 (zrv G21 q0 8) 7 ∧
        ∀ G23, G23 = zsi G21 (zrv G21 q0 8) 7 x1 →
        zW E l mX11_missed d b G0 Q k22 46 [some (.ref q0), none, some (.int x2), some (.int 0), none, none, none] [] G23)))))))))
theorem wpt_X11_missed_0 {E : ZE} {l : Launch} {d b : Nat} {G0 : ZG} {Q : ZQ} {k : Nat} {q0 : Nat} {x1 : Int32} {x2 : Int32} {G : ZG} (h : wp_X11_missed_0 E l d b G0 Q k q0 x1 x2 G) : zW E l mX11_missed d b G0 Q k 0 [some (.ref q0), some (.int x1), some (.int x2), none, none, none, none] [] G := by
  unfold wp_X11_missed_0 at h
  refine z_iload_n (pc' := 1) dX11_missed_0 rfl rfl ?_
  obtain ⟨d1, b1, Qz, hm, hdd, hb, hkx, hk⟩ := h
  refine z_callS (Y := mX11_isOrder) (n := 1) (as := [.int x1]) (st := []) (pc' := 4) hm dX11_missed_1 kX11_321 sX11_isOrder rfl rfl hdd hb (Nat.le_of_ble_eq_true rfl) (fun r G2 hz => ?_) hkx
  obtain ⟨y1, rfl, h⟩ := hk r G2 hz
  refine z_if_eq (pt := 21) (pc' := 7) dX11_missed_4 (by decide) rfl (fun hc => ?_) (fun hc => ?_)
  · have h := h.1 hc
    refine z_iconst (x := 0) (pc' := 22) dX11_missed_21 (by decide) rfl ?_
    obtain ⟨d1, b1, Qz, hm, hdd, hb, hkx, hk⟩ := h
    refine z_callS (Y := mX11_demand) (n := 1) (as := [.int 0]) (st := []) (pc' := 25) hm dX11_missed_22 kX11_77 sX11_demand rfl rfl hdd hb (Nat.le_of_ble_eq_true rfl) (fun r G4 hz => ?_) hkx
    obtain ⟨rfl, h⟩ := hk r G4 hz
    refine z_aload_n (pc' := 26) dX11_missed_25 rfl rfl ?_
    obtain ⟨h1, h⟩ := h
    refine z_getR (ci := 12) (kf := 8) (pc' := 29) dX11_missed_26 kX11_57 (Or.inl rfl) (by decide) (by decide) rfl rfl h1 ?_
    refine z_aload_n (pc' := 30) dX11_missed_29 rfl rfl ?_
    obtain ⟨h1, h⟩ := h
    refine z_getR (ci := 12) (kf := 7) (pc' := 33) dX11_missed_30 kX11_53 (Or.inl rfl) (by decide) (by decide) rfl rfl h1 ?_
    obtain ⟨h1, h⟩ := h
    obtain ⟨d1, b1, Qz, hm, hdd, hb, hkx, hk⟩ := h
    refine z_callV (Y := mX6_copyFrom) (n := 1) (as := [.ref (zrv G4 q0 7)]) (st := []) (pc' := 36) (ci := 7) (q := (zrv G4 q0 8)) hm dX11_missed_33 kX11_370 vX6_copyFrom rfl rfl (by decide) rfl h1 hdd hb (Nat.le_of_ble_eq_true rfl) (fun r G6 hz => ?_) hkx
    obtain ⟨rfl, h⟩ := hk r G6 hz
    refine z_aload_n (pc' := 37) dX11_missed_36 rfl rfl ?_
    obtain ⟨h1, h⟩ := h
    refine z_getR (ci := 12) (kf := 8) (pc' := 40) dX11_missed_37 kX11_57 (Or.inl rfl) (by decide) (by decide) rfl rfl h1 ?_
    refine z_iload_n (pc' := 41) dX11_missed_40 rfl rfl ?_
    obtain ⟨h1, h⟩ := h
    obtain ⟨G8, hG⟩ : ∃ z, z = zsi G6 (zrv G6 q0 8) 7 x1 := ⟨_, rfl⟩
    have h := h _ hG
    refine z_putI (ci := 7) (kf := 7) (pc' := 44) dX11_missed_41 kX11_324 (Or.inl rfl) (by decide) (by decide) rfl (Or.inl rfl) rfl h1 (zok_int _) ?_
    refine z_st hG ?_
    refine z_iconst (x := 0) (pc' := 45) dX11_missed_44 (by decide) rfl ?_
    refine z_istore_n (pc' := 46) dX11_missed_45 (by decide) rfl ?_
    exact z_dr (ls' := [some (.ref q0), none, some (.int x2), some (.int 0), none, none, none]) ⟨rfl, rfl, rfl, trivial⟩ h
  · have h := h.2 hc
    refine z_iload_n (pc' := 8) dX11_missed_7 rfl rfl ?_
    refine z_if_lt (pt := 21) (pc' := 11) dX11_missed_8 (by decide) rfl (fun hc => ?_) (fun hc => ?_)
    · have h := h.1 hc
      refine z_iconst (x := 0) (pc' := 22) dX11_missed_21 (by decide) rfl ?_
      obtain ⟨d1, b1, Qz, hm, hdd, hb, hkx, hk⟩ := h
      refine z_callS (Y := mX11_demand) (n := 1) (as := [.int 0]) (st := []) (pc' := 25) hm dX11_missed_22 kX11_77 sX11_demand rfl rfl hdd hb (Nat.le_of_ble_eq_true rfl) (fun r G9 hz => ?_) hkx
      obtain ⟨rfl, h⟩ := hk r G9 hz
      refine z_aload_n (pc' := 26) dX11_missed_25 rfl rfl ?_
      obtain ⟨h1, h⟩ := h
      refine z_getR (ci := 12) (kf := 8) (pc' := 29) dX11_missed_26 kX11_57 (Or.inl rfl) (by decide) (by decide) rfl rfl h1 ?_
      refine z_aload_n (pc' := 30) dX11_missed_29 rfl rfl ?_
      obtain ⟨h1, h⟩ := h
      refine z_getR (ci := 12) (kf := 7) (pc' := 33) dX11_missed_30 kX11_53 (Or.inl rfl) (by decide) (by decide) rfl rfl h1 ?_
      obtain ⟨h1, h⟩ := h
      obtain ⟨d1, b1, Qz, hm, hdd, hb, hkx, hk⟩ := h
      refine z_callV (Y := mX6_copyFrom) (n := 1) (as := [.ref (zrv G9 q0 7)]) (st := []) (pc' := 36) (ci := 7) (q := (zrv G9 q0 8)) hm dX11_missed_33 kX11_370 vX6_copyFrom rfl rfl (by decide) rfl h1 hdd hb (Nat.le_of_ble_eq_true rfl) (fun r G11 hz => ?_) hkx
      obtain ⟨rfl, h⟩ := hk r G11 hz
      refine z_aload_n (pc' := 37) dX11_missed_36 rfl rfl ?_
      obtain ⟨h1, h⟩ := h
      refine z_getR (ci := 12) (kf := 8) (pc' := 40) dX11_missed_37 kX11_57 (Or.inl rfl) (by decide) (by decide) rfl rfl h1 ?_
      refine z_iload_n (pc' := 41) dX11_missed_40 rfl rfl ?_
      obtain ⟨h1, h⟩ := h
      obtain ⟨G13, hG⟩ : ∃ z, z = zsi G11 (zrv G11 q0 8) 7 x1 := ⟨_, rfl⟩
      have h := h _ hG
      refine z_putI (ci := 7) (kf := 7) (pc' := 44) dX11_missed_41 kX11_324 (Or.inl rfl) (by decide) (by decide) rfl (Or.inl rfl) rfl h1 (zok_int _) ?_
      refine z_st hG ?_
      refine z_iconst (x := 0) (pc' := 45) dX11_missed_44 (by decide) rfl ?_
      refine z_istore_n (pc' := 46) dX11_missed_45 (by decide) rfl ?_
      exact z_dr (ls' := [some (.ref q0), none, some (.int x2), some (.int 0), none, none, none]) ⟨rfl, rfl, rfl, trivial⟩ h
    · have h := h.2 hc
      refine z_iload_n (pc' := 12) dX11_missed_11 rfl rfl ?_
      refine z_bipush (x := 60) (pc' := 14) dX11_missed_12 (by decide) rfl ?_
      refine z_icmp_gt (pt := 21) (pc' := 17) dX11_missed_14 (by decide) rfl (fun hc => ?_) (fun hc => ?_)
      · have h := h.1 hc
        refine z_iconst (x := 0) (pc' := 22) dX11_missed_21 (by decide) rfl ?_
        obtain ⟨d1, b1, Qz, hm, hdd, hb, hkx, hk⟩ := h
        refine z_callS (Y := mX11_demand) (n := 1) (as := [.int 0]) (st := []) (pc' := 25) hm dX11_missed_22 kX11_77 sX11_demand rfl rfl hdd hb (Nat.le_of_ble_eq_true rfl) (fun r G14 hz => ?_) hkx
        obtain ⟨rfl, h⟩ := hk r G14 hz
        refine z_aload_n (pc' := 26) dX11_missed_25 rfl rfl ?_
        obtain ⟨h1, h⟩ := h
        refine z_getR (ci := 12) (kf := 8) (pc' := 29) dX11_missed_26 kX11_57 (Or.inl rfl) (by decide) (by decide) rfl rfl h1 ?_
        refine z_aload_n (pc' := 30) dX11_missed_29 rfl rfl ?_
        obtain ⟨h1, h⟩ := h
        refine z_getR (ci := 12) (kf := 7) (pc' := 33) dX11_missed_30 kX11_53 (Or.inl rfl) (by decide) (by decide) rfl rfl h1 ?_
        obtain ⟨h1, h⟩ := h
        obtain ⟨d1, b1, Qz, hm, hdd, hb, hkx, hk⟩ := h
        refine z_callV (Y := mX6_copyFrom) (n := 1) (as := [.ref (zrv G14 q0 7)]) (st := []) (pc' := 36) (ci := 7) (q := (zrv G14 q0 8)) hm dX11_missed_33 kX11_370 vX6_copyFrom rfl rfl (by decide) rfl h1 hdd hb (Nat.le_of_ble_eq_true rfl) (fun r G16 hz => ?_) hkx
        obtain ⟨rfl, h⟩ := hk r G16 hz
        refine z_aload_n (pc' := 37) dX11_missed_36 rfl rfl ?_
        obtain ⟨h1, h⟩ := h
        refine z_getR (ci := 12) (kf := 8) (pc' := 40) dX11_missed_37 kX11_57 (Or.inl rfl) (by decide) (by decide) rfl rfl h1 ?_
        refine z_iload_n (pc' := 41) dX11_missed_40 rfl rfl ?_
        obtain ⟨h1, h⟩ := h
        obtain ⟨G18, hG⟩ : ∃ z, z = zsi G16 (zrv G16 q0 8) 7 x1 := ⟨_, rfl⟩
        have h := h _ hG
        refine z_putI (ci := 7) (kf := 7) (pc' := 44) dX11_missed_41 kX11_324 (Or.inl rfl) (by decide) (by decide) rfl (Or.inl rfl) rfl h1 (zok_int _) ?_
        refine z_st hG ?_
        refine z_iconst (x := 0) (pc' := 45) dX11_missed_44 (by decide) rfl ?_
        refine z_istore_n (pc' := 46) dX11_missed_45 (by decide) rfl ?_
        exact z_dr (ls' := [some (.ref q0), none, some (.int x2), some (.int 0), none, none, none]) ⟨rfl, rfl, rfl, trivial⟩ h
      · have h := h.2 hc
        refine z_iconst (x := 1) (pc' := 18) dX11_missed_17 (by decide) rfl ?_
        refine z_goto (pc' := 22) dX11_missed_18 (by decide) ?_
        obtain ⟨d1, b1, Qz, hm, hdd, hb, hkx, hk⟩ := h
        refine z_callS (Y := mX11_demand) (n := 1) (as := [.int 1]) (st := []) (pc' := 25) hm dX11_missed_22 kX11_77 sX11_demand rfl rfl hdd hb (Nat.le_of_ble_eq_true rfl) (fun r G19 hz => ?_) hkx
        obtain ⟨rfl, h⟩ := hk r G19 hz
        refine z_aload_n (pc' := 26) dX11_missed_25 rfl rfl ?_
        obtain ⟨h1, h⟩ := h
        refine z_getR (ci := 12) (kf := 8) (pc' := 29) dX11_missed_26 kX11_57 (Or.inl rfl) (by decide) (by decide) rfl rfl h1 ?_
        refine z_aload_n (pc' := 30) dX11_missed_29 rfl rfl ?_
        obtain ⟨h1, h⟩ := h
        refine z_getR (ci := 12) (kf := 7) (pc' := 33) dX11_missed_30 kX11_53 (Or.inl rfl) (by decide) (by decide) rfl rfl h1 ?_
        obtain ⟨h1, h⟩ := h
        obtain ⟨d1, b1, Qz, hm, hdd, hb, hkx, hk⟩ := h
        refine z_callV (Y := mX6_copyFrom) (n := 1) (as := [.ref (zrv G19 q0 7)]) (st := []) (pc' := 36) (ci := 7) (q := (zrv G19 q0 8)) hm dX11_missed_33 kX11_370 vX6_copyFrom rfl rfl (by decide) rfl h1 hdd hb (Nat.le_of_ble_eq_true rfl) (fun r G21 hz => ?_) hkx
        obtain ⟨rfl, h⟩ := hk r G21 hz
        refine z_aload_n (pc' := 37) dX11_missed_36 rfl rfl ?_
        obtain ⟨h1, h⟩ := h
        refine z_getR (ci := 12) (kf := 8) (pc' := 40) dX11_missed_37 kX11_57 (Or.inl rfl) (by decide) (by decide) rfl rfl h1 ?_
        refine z_iload_n (pc' := 41) dX11_missed_40 rfl rfl ?_
        obtain ⟨h1, h⟩ := h
        obtain ⟨G23, hG⟩ : ∃ z, z = zsi G21 (zrv G21 q0 8) 7 x1 := ⟨_, rfl⟩
        have h := h _ hG
        refine z_putI (ci := 7) (kf := 7) (pc' := 44) dX11_missed_41 kX11_324 (Or.inl rfl) (by decide) (by decide) rfl (Or.inl rfl) rfl h1 (zok_int _) ?_
        refine z_st hG ?_
        refine z_iconst (x := 0) (pc' := 45) dX11_missed_44 (by decide) rfl ?_
        refine z_istore_n (pc' := 46) dX11_missed_45 (by decide) rfl ?_
        exact z_dr (ls' := [some (.ref q0), none, some (.int x2), some (.int 0), none, none, none]) ⟨rfl, rfl, rfl, trivial⟩ h
def wp_X11_missed_46 (E : ZE) (l : Launch) (d b : Nat) (G0 : ZG) (Q : ZQ) (k : Nat) (q0 : Nat) (x2 : Int32) (x3 : Int32) (G : ZG) : Prop :=
  ((x2 ≤ x3 →
    zW E l mX11_missed d b G0 Q k 69 [some (.ref q0), none, some (.int x2), some (.int 0), some (.int 0), none, none] [] G) ∧
  (¬ (x2 ≤ x3) →
    zob G q0 12 ∧
    zob G (zrv G q0 8) 7 ∧
    xcV E l mX6_passDay d [.ref (zrv G q0 8)] G k (fun X G9 => Q (.inr X) G9) (fun G1 k2 =>
    zW E l mX11_missed d b G0 Q k2 46 [some (.ref q0), none, some (.int x2), some (.int (x3 + 1)), none, none, none] [] G1)))
theorem wpt_X11_missed_46 {E : ZE} {l : Launch} {d b : Nat} {G0 : ZG} {Q : ZQ} {k : Nat} {q0 : Nat} {x2 : Int32} {x3 : Int32} {G : ZG} (h : wp_X11_missed_46 E l d b G0 Q k q0 x2 x3 G) : zW E l mX11_missed d b G0 Q k 46 [some (.ref q0), none, some (.int x2), some (.int x3), none, none, none] [] G := by
  unfold wp_X11_missed_46 at h
  refine z_iload_n (pc' := 47) dX11_missed_46 rfl rfl ?_
  refine z_iload_n (pc' := 48) dX11_missed_47 rfl rfl ?_
  refine z_icmp_ge (pt := 64) (pc' := 51) dX11_missed_48 (by decide) rfl (fun hc => ?_) (fun hc => ?_)
  · have h := h.1 hc
    refine z_iconst (x := 0) (pc' := 65) dX11_missed_64 (by decide) rfl ?_
    refine z_istore_n (pc' := 66) dX11_missed_65 (by decide) rfl ?_
    refine z_iconst (x := 0) (pc' := 67) dX11_missed_66 (by decide) rfl ?_
    refine z_istore (pc' := 69) dX11_missed_67 (by decide) rfl ?_
    exact z_dr (ls' := [some (.ref q0), none, some (.int x2), some (.int 0), some (.int 0), none, none]) ⟨rfl, rfl, rfl, rfl, trivial⟩ h
  · have h := h.2 hc
    refine z_aload_n (pc' := 52) dX11_missed_51 rfl rfl ?_
    obtain ⟨h1, h⟩ := h
    refine z_getR (ci := 12) (kf := 8) (pc' := 55) dX11_missed_52 kX11_57 (Or.inl rfl) (by decide) (by decide) rfl rfl h1 ?_
    obtain ⟨h1, h⟩ := h
    obtain ⟨d1, b1, Qz, hm, hdd, hb, hkx, hk⟩ := h
    refine z_callV (Y := mX6_passDay) (n := 0) (as := []) (st := []) (pc' := 58) (ci := 7) (q := (zrv G q0 8)) hm dX11_missed_55 kX11_336 vX6_passDay rfl rfl (by decide) rfl h1 hdd hb (Nat.le_of_ble_eq_true rfl) (fun r G1 hz => ?_) hkx
    obtain ⟨rfl, h⟩ := hk r G1 hz
    refine z_iinc (y := x3 + 1) (pc' := 61) dX11_missed_58 rfl (zinc_1 _) (by decide) rfl ?_
    refine z_goto (pc' := 46) dX11_missed_61 (by decide) ?_
    exact z_dr (ls' := [some (.ref q0), none, some (.int x2), some (.int (x3 + 1)), none, none, none]) ⟨rfl, rfl, rfl, trivial⟩ h
def wp_X11_missed_69 (E : ZE) (l : Launch) (d b : Nat) (G0 : ZG) (Q : ZQ) (k : Nat) (q0 : Nat) (x2 : Int32) (x3 : Int32) (x4 : Int32) (G : ZG) : Prop :=
  zob G q0 12 ∧
  zob G (zrv G q0 7) 7 ∧
  zob G (zrv G (zrv G q0 7) 3) 0 ∧
  xcI E l mJx4a65c_size_8abf5 d [.ref (zrv G (zrv G q0 7) 3)] G k (fun X G9 => Q (.inr X) G9) (fun y1 G2 k3 =>
  ((y1 ≤ x4 →
    Q (.inl (some (.int x3))) G2) ∧
  (¬ (y1 ≤ x4) →
    zob G2 q0 12 ∧
    zob G2 (zrv G2 q0 8) 7 ∧
    zob G2 (zrv G2 (zrv G2 q0 8) 3) 0 ∧
    xcI E l mJx4a65c_size_8abf5 d [.ref (zrv G2 (zrv G2 q0 8) 3)] G2 k3 (fun X G9 => Q (.inr X) G9) (fun y4 G5 k6 =>
    ((y4 ≤ x4 →
      Q (.inl (some (.int x3))) G5) ∧
    (¬ (y4 ≤ x4) →
      zob G5 q0 12 ∧
      zob G5 (zrv G5 q0 7) 7 ∧
      zob G5 (zrv G5 (zrv G5 q0 7) 3) 0 ∧
      xcR E l mJx4a65c_get_915e3 d [.ref (zrv G5 (zrv G5 q0 7) 3), .int x4] G5 k6 (fun X G9 => Q (.inr X) G9) (fun y7 G8 k9 =>
      zob G8 y7 1 ∧
      zob G8 y7 1 ∧
      ((6 < (ziv G8 y7 7) →
        zW E l mX11_missed d b G0 Q k9 148 [some (.ref q0), none, some (.int x2), some (.int x3), some (.int x4), none, none] [.int 0] G8) ∧
      (¬ (6 < (ziv G8 y7 7)) →
        zob G8 y7 1 ∧
        zob G8 q0 12 ∧
        zob G8 (zrv G8 q0 7) 7 ∧
        ((((ziv G8 (zrv G8 q0 7) 6) + x2) < (ziv G8 y7 4) →
          zW E l mX11_missed d b G0 Q k9 148 [some (.ref q0), none, some (.int x2), some (.int x3), some (.int x4), none, none] [.int 0] G8) ∧
        (¬ (((ziv G8 (zrv G8 q0 7) 6) + x2) < (ziv G8 y7 4)) →
          zW E l mX11_missed d b G0 Q k9 148 [some (.ref q0), none, some (.int x2), some (.int x3), some (.int x4), none, none] [.int 1] G8)))))))))))
theorem wpt_X11_missed_69 {E : ZE} {l : Launch} {d b : Nat} {G0 : ZG} {Q : ZQ} {k : Nat} {q0 : Nat} {x2 : Int32} {x3 : Int32} {x4 : Int32} {G : ZG} (h : wp_X11_missed_69 E l d b G0 Q k q0 x2 x3 x4 G) : zW E l mX11_missed d b G0 Q k 69 [some (.ref q0), none, some (.int x2), some (.int x3), some (.int x4), none, none] [] G := by
  unfold wp_X11_missed_69 at h
  refine z_iload (pc' := 71) dX11_missed_69 rfl rfl ?_
  refine z_aload_n (pc' := 72) dX11_missed_71 rfl rfl ?_
  obtain ⟨h1, h⟩ := h
  refine z_getR (ci := 12) (kf := 7) (pc' := 75) dX11_missed_72 kX11_53 (Or.inl rfl) (by decide) (by decide) rfl rfl h1 ?_
  obtain ⟨h1, h⟩ := h
  refine z_getR (ci := 7) (kf := 3) (pc' := 78) dX11_missed_75 kX11_220 (Or.inl rfl) (by decide) (by decide) rfl rfl h1 ?_
  obtain ⟨h1, h⟩ := h
  obtain ⟨d1, b1, Qz, hm, hdd, hb, hkx, hk⟩ := h
  refine z_callV (Y := mJx4a65c_size_8abf5) (n := 0) (as := []) (st := [.int x4]) (pc' := 81) (ci := 0) (q := (zrv G (zrv G q0 7) 3)) hm dX11_missed_78 kX11_93 vJx4a65c_size_8abf5 rfl rfl (by decide) rfl h1 hdd hb (Nat.le_of_ble_eq_true rfl) (fun r G2 hz => ?_) hkx
  obtain ⟨y1, rfl, h⟩ := hk r G2 hz
  refine z_icmp_ge (pt := 185) (pc' := 84) dX11_missed_81 (by decide) rfl (fun hc => ?_) (fun hc => ?_)
  · have h := h.1 hc
    refine z_iload_n (pc' := 186) dX11_missed_185 rfl rfl ?_
    exact z_iret dX11_missed_186 rfl h
  · have h := h.2 hc
    refine z_iload (pc' := 86) dX11_missed_84 rfl rfl ?_
    refine z_aload_n (pc' := 87) dX11_missed_86 rfl rfl ?_
    obtain ⟨h1, h⟩ := h
    refine z_getR (ci := 12) (kf := 8) (pc' := 90) dX11_missed_87 kX11_57 (Or.inl rfl) (by decide) (by decide) rfl rfl h1 ?_
    obtain ⟨h1, h⟩ := h
    refine z_getR (ci := 7) (kf := 3) (pc' := 93) dX11_missed_90 kX11_220 (Or.inl rfl) (by decide) (by decide) rfl rfl h1 ?_
    obtain ⟨h1, h⟩ := h
    obtain ⟨d1, b1, Qz, hm, hdd, hb, hkx, hk⟩ := h
    refine z_callV (Y := mJx4a65c_size_8abf5) (n := 0) (as := []) (st := [.int x4]) (pc' := 96) (ci := 0) (q := (zrv G2 (zrv G2 q0 8) 3)) hm dX11_missed_93 kX11_93 vJx4a65c_size_8abf5 rfl rfl (by decide) rfl h1 hdd hb (Nat.le_of_ble_eq_true rfl) (fun r G5 hz => ?_) hkx
    obtain ⟨y4, rfl, h⟩ := hk r G5 hz
    refine z_icmp_ge (pt := 185) (pc' := 99) dX11_missed_96 (by decide) rfl (fun hc => ?_) (fun hc => ?_)
    · have h := h.1 hc
      refine z_iload_n (pc' := 186) dX11_missed_185 rfl rfl ?_
      exact z_iret dX11_missed_186 rfl h
    · have h := h.2 hc
      refine z_aload_n (pc' := 100) dX11_missed_99 rfl rfl ?_
      obtain ⟨h1, h⟩ := h
      refine z_getR (ci := 12) (kf := 7) (pc' := 103) dX11_missed_100 kX11_53 (Or.inl rfl) (by decide) (by decide) rfl rfl h1 ?_
      obtain ⟨h1, h⟩ := h
      refine z_getR (ci := 7) (kf := 3) (pc' := 106) dX11_missed_103 kX11_220 (Or.inl rfl) (by decide) (by decide) rfl rfl h1 ?_
      refine z_iload (pc' := 108) dX11_missed_106 rfl rfl ?_
      obtain ⟨h1, h⟩ := h
      obtain ⟨d1, b1, Qz, hm, hdd, hb, hkx, hk⟩ := h
      refine z_callV (Y := mJx4a65c_get_915e3) (n := 1) (as := [.int x4]) (st := []) (pc' := 111) (ci := 0) (q := (zrv G5 (zrv G5 q0 7) 3)) hm dX11_missed_108 kX11_107 vJx4a65c_get_915e3 rfl rfl (by decide) rfl h1 hdd hb (Nat.le_of_ble_eq_true rfl) (fun r G8 hz => ?_) hkx
      obtain ⟨y7, rfl, h⟩ := hk r G8 hz
      obtain ⟨h1, h⟩ := h
      refine z_castO (ci := 1) (pc' := 114) dX11_missed_111 kX11_215 (by decide) rfl h1 ?_
      refine z_astore (pc' := 116) dX11_missed_114 (by decide) rfl ?_
      refine z_aload (pc' := 118) dX11_missed_116 rfl rfl ?_
      obtain ⟨h1, h⟩ := h
      refine z_getI (ci := 1) (kf := 7) (pc' := 121) dX11_missed_118 kX11_241 (Or.inl rfl) (by decide) (by decide) rfl rfl h1 ?_
      refine z_bipush (x := 6) (pc' := 123) dX11_missed_121 (by decide) rfl ?_
      refine z_icmp_gt (pt := 147) (pc' := 126) dX11_missed_123 (by decide) rfl (fun hc => ?_) (fun hc => ?_)
      · have h := h.1 hc
        refine z_iconst (x := 0) (pc' := 148) dX11_missed_147 (by decide) rfl ?_
        exact z_dr (ls' := [some (.ref q0), none, some (.int x2), some (.int x3), some (.int x4), none, none]) ⟨rfl, rfl, rfl, rfl, trivial⟩ h
      · have h := h.2 hc
        refine z_aload (pc' := 128) dX11_missed_126 rfl rfl ?_
        obtain ⟨h1, h⟩ := h
        refine z_getI (ci := 1) (kf := 4) (pc' := 131) dX11_missed_128 kX11_273 (Or.inl rfl) (by decide) (by decide) rfl rfl h1 ?_
        refine z_aload_n (pc' := 132) dX11_missed_131 rfl rfl ?_
        obtain ⟨h1, h⟩ := h
        refine z_getR (ci := 12) (kf := 7) (pc' := 135) dX11_missed_132 kX11_53 (Or.inl rfl) (by decide) (by decide) rfl rfl h1 ?_
        obtain ⟨h1, h⟩ := h
        refine z_getI (ci := 7) (kf := 6) (pc' := 138) dX11_missed_135 kX11_74 (Or.inl rfl) (by decide) (by decide) rfl rfl h1 ?_
        refine z_iload_n (pc' := 139) dX11_missed_138 rfl rfl ?_
        refine z_iadd (pc' := 140) dX11_missed_139 rfl rfl ?_
        refine z_icmp_gt (pt := 147) (pc' := 143) dX11_missed_140 (by decide) rfl (fun hc => ?_) (fun hc => ?_)
        · have h := h.1 hc
          refine z_iconst (x := 0) (pc' := 148) dX11_missed_147 (by decide) rfl ?_
          exact z_dr (ls' := [some (.ref q0), none, some (.int x2), some (.int x3), some (.int x4), none, none]) ⟨rfl, rfl, rfl, rfl, trivial⟩ h
        · have h := h.2 hc
          refine z_iconst (x := 1) (pc' := 144) dX11_missed_143 (by decide) rfl ?_
          refine z_goto (pc' := 148) dX11_missed_144 (by decide) ?_
          exact z_dr (ls' := [some (.ref q0), none, some (.int x2), some (.int x3), some (.int x4), none, none]) ⟨rfl, rfl, rfl, rfl, trivial⟩ h
def wp_X11_missed_148 (E : ZE) (l : Launch) (d b : Nat) (G0 : ZG) (Q : ZQ) (k : Nat) (q0 : Nat) (x2 : Int32) (x3 : Int32) (x4 : Int32) (s0 : Int32) (G : ZG) : Prop :=
  ((s0 = 0 →
    zW E l mX11_missed d b G0 Q k 69 [some (.ref q0), none, some (.int x2), some (.int x3), some (.int (x4 + 1)), none, none] [] G) ∧
  (¬ (s0 = 0) →
    zob G q0 12 ∧
    zob G (zrv G q0 8) 7 ∧
    zob G (zrv G (zrv G q0 8) 3) 0 ∧
    xcR E l mJx4a65c_get_915e3 d [.ref (zrv G (zrv G q0 8) 3), .int x4] G k (fun X G9 => Q (.inr X) G9) (fun y1 G2 k3 =>
    zob G2 y1 1 ∧
    zob G2 y1 1 ∧
    xcI E l mX0_isGotInTime d [.ref y1] G2 k3 (fun X G9 => Q (.inr X) G9) (fun y4 G5 k6 =>
    ((¬ y4 = 0 →
      zW E l mX11_missed d b G0 Q k6 69 [some (.ref q0), none, some (.int x2), some (.int x3), some (.int (x4 + 1)), none, none] [] G5) ∧
    (¬ (¬ y4 = 0) →
      zW E l mX11_missed d b G0 Q k6 69 [some (.ref q0), none, some (.int x2), some (.int (x3 + 1)), some (.int (x4 + 1)), none, none] [] G5))))))
theorem wpt_X11_missed_148 {E : ZE} {l : Launch} {d b : Nat} {G0 : ZG} {Q : ZQ} {k : Nat} {q0 : Nat} {x2 : Int32} {x3 : Int32} {x4 : Int32} {s0 : Int32} {G : ZG} (h : wp_X11_missed_148 E l d b G0 Q k q0 x2 x3 x4 s0 G) : zW E l mX11_missed d b G0 Q k 148 [some (.ref q0), none, some (.int x2), some (.int x3), some (.int x4), none, none] [.int s0] G := by
  unfold wp_X11_missed_148 at h
  refine z_istore (pc' := 150) dX11_missed_148 (by decide) rfl ?_
  refine z_iload (pc' := 152) dX11_missed_150 rfl rfl ?_
  refine z_if_eq (pt := 179) (pc' := 155) dX11_missed_152 (by decide) rfl (fun hc => ?_) (fun hc => ?_)
  · have h := h.1 hc
    refine z_iinc (y := x4 + 1) (pc' := 182) dX11_missed_179 rfl (zinc_1 _) (by decide) rfl ?_
    refine z_goto (pc' := 69) dX11_missed_182 (by decide) ?_
    exact z_dr (ls' := [some (.ref q0), none, some (.int x2), some (.int x3), some (.int (x4 + 1)), none, none]) ⟨rfl, rfl, rfl, rfl, trivial⟩ h
  · have h := h.2 hc
    refine z_aload_n (pc' := 156) dX11_missed_155 rfl rfl ?_
    obtain ⟨h1, h⟩ := h
    refine z_getR (ci := 12) (kf := 8) (pc' := 159) dX11_missed_156 kX11_57 (Or.inl rfl) (by decide) (by decide) rfl rfl h1 ?_
    obtain ⟨h1, h⟩ := h
    refine z_getR (ci := 7) (kf := 3) (pc' := 162) dX11_missed_159 kX11_220 (Or.inl rfl) (by decide) (by decide) rfl rfl h1 ?_
    refine z_iload (pc' := 164) dX11_missed_162 rfl rfl ?_
    obtain ⟨h1, h⟩ := h
    obtain ⟨d1, b1, Qz, hm, hdd, hb, hkx, hk⟩ := h
    refine z_callV (Y := mJx4a65c_get_915e3) (n := 1) (as := [.int x4]) (st := []) (pc' := 167) (ci := 0) (q := (zrv G (zrv G q0 8) 3)) hm dX11_missed_164 kX11_107 vJx4a65c_get_915e3 rfl rfl (by decide) rfl h1 hdd hb (Nat.le_of_ble_eq_true rfl) (fun r G2 hz => ?_) hkx
    obtain ⟨y1, rfl, h⟩ := hk r G2 hz
    obtain ⟨h1, h⟩ := h
    refine z_castO (ci := 1) (pc' := 170) dX11_missed_167 kX11_215 (by decide) rfl h1 ?_
    obtain ⟨h1, h⟩ := h
    obtain ⟨d1, b1, Qz, hm, hdd, hb, hkx, hk⟩ := h
    refine z_callV (Y := mX0_isGotInTime) (n := 0) (as := []) (st := []) (pc' := 173) (ci := 1) (q := y1) hm dX11_missed_170 kX11_374 vX0_isGotInTime rfl rfl (by decide) rfl h1 hdd hb (Nat.le_of_ble_eq_true rfl) (fun r G5 hz => ?_) hkx
    obtain ⟨y4, rfl, h⟩ := hk r G5 hz
    refine z_if_ne (pt := 179) (pc' := 176) dX11_missed_173 (by decide) rfl (fun hc => ?_) (fun hc => ?_)
    · have h := h.1 hc
      refine z_iinc (y := x4 + 1) (pc' := 182) dX11_missed_179 rfl (zinc_1 _) (by decide) rfl ?_
      refine z_goto (pc' := 69) dX11_missed_182 (by decide) ?_
      exact z_dr (ls' := [some (.ref q0), none, some (.int x2), some (.int x3), some (.int (x4 + 1)), none, none]) ⟨rfl, rfl, rfl, rfl, trivial⟩ h
    · have h := h.2 hc
      refine z_iinc (y := x3 + 1) (pc' := 179) dX11_missed_176 rfl (zinc_1 _) (by decide) rfl ?_
      refine z_iinc (y := x4 + 1) (pc' := 182) dX11_missed_179 rfl (zinc_1 _) (by decide) rfl ?_
      refine z_goto (pc' := 69) dX11_missed_182 (by decide) ?_
      exact z_dr (ls' := [some (.ref q0), none, some (.int x2), some (.int (x3 + 1)), some (.int (x4 + 1)), none, none]) ⟨rfl, rfl, rfl, rfl, trivial⟩ h
