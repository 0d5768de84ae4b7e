/-! what the methods come to -/
def wp_X6_firstIn_0 (E : ZE) (l : Launch) (d b : Nat) (G0 : ZG) (Q : ZQ) (k : Nat) (q0 : Nat) (x1 : Int32) (G : ZG) : Prop :=
  zW E l mX6_firstIn d b G0 Q k 4 [some (.ref q0), some (.int x1), some (.ref 0), some (.int 0), none] [] G
theorem wpt_X6_firstIn_0 {E : ZE} {l : Launch} {d b : Nat} {G0 : ZG} {Q : ZQ} {k : Nat} {q0 : Nat} {x1 : Int32} {G : ZG} (h : wp_X6_firstIn_0 E l d b G0 Q k q0 x1 G) : zW E l mX6_firstIn d b G0 Q k 0 [some (.ref q0), some (.int x1), none, none, none] [] G := by
  unfold wp_X6_firstIn_0 at h
  refine z_null (pc' := 1) dX6_firstIn_0 rfl ?_
  refine z_astore_n (pc' := 2) dX6_firstIn_1 (by decide) rfl ?_
  refine z_iconst (x := 0) (pc' := 3) dX6_firstIn_2 (by decide) rfl ?_
  refine z_istore_n (pc' := 4) dX6_firstIn_3 (by decide) rfl ?_
  exact z_dr (ls' := [some (.ref q0), some (.int x1), some (.ref 0), some (.int 0), none]) ⟨rfl, rfl, rfl, rfl, trivial⟩ h
def wp_X6_firstIn_4 (E : ZE) (l : Launch) (d b : Nat) (G0 : ZG) (Q : ZQ) (k : Nat) (q0 : Nat) (x1 : Int32) (q2 : Nat) (x3 : Int32) (G : ZG) : Prop :=
  zob G q0 7 ∧
  zob G (zrv G q0 3) 0 ∧
  xcI E l mJx4a65c_size_8abf5 d [.ref (zrv G q0 3)] G k (fun X G9 => Q (.inr X) G9) (fun y1 G2 k3 =>
  ((y1 ≤ x3 →
    Q (.inl (some (.ref q2))) G2) ∧
  (¬ (y1 ≤ x3) →
    zob G2 q0 7 ∧
    zob G2 (zrv G2 q0 3) 0 ∧
    xcR E l mJx4a65c_get_915e3 d [.ref (zrv G2 q0 3), .int x3] G2 k3 (fun X G9 => Q (.inr X) G9) (fun y4 G5 k6 =>
    zob G5 y4 1 ∧
    zob G5 y4 1 ∧
    ((¬ (ziv G5 y4 7) = x1 →
      zW E l mX6_firstIn d b G0 Q k6 4 [some (.ref q0), some (.int x1), some (.ref q2), some (.int (x3 + 1)), none] [] G5) ∧
    (¬ (¬ (ziv G5 y4 7) = x1) →
      ((q2 = 0 →
        zW E l mX6_firstIn d b G0 Q k6 4 [some (.ref q0), some (.int x1), some (.ref y4), some (.int (x3 + 1)), none] [] G5) ∧
      (¬ (q2 = 0) →
        zob G5 q0 7 ∧
        xcI E l mX6_isAhead d [.ref q0, .ref y4, .ref q2] G5 k6 (fun X G9 => Q (.inr X) G9) (fun y7 G8 k9 =>
        ((y7 = 0 →
          zW E l mX6_firstIn d b G0 Q k9 4 [some (.ref q0), some (.int x1), some (.ref q2), some (.int (x3 + 1)), none] [] G8) ∧
        (¬ (y7 = 0) →
          zW E l mX6_firstIn d b G0 Q k9 4 [some (.ref q0), some (.int x1), some (.ref y4), some (.int (x3 + 1)), none] [] G8)))))))))))
theorem wpt_X6_firstIn_4 {E : ZE} {l : Launch} {d b : Nat} {G0 : ZG} {Q : ZQ} {k : Nat} {q0 : Nat} {x1 : Int32} {q2 : Nat} {x3 : Int32} {G : ZG} (h : wp_X6_firstIn_4 E l d b G0 Q k q0 x1 q2 x3 G) : zW E l mX6_firstIn d b G0 Q k 4 [some (.ref q0), some (.int x1), some (.ref q2), some (.int x3), none] [] G := by
  unfold wp_X6_firstIn_4 at h
  refine z_iload_n (pc' := 5) dX6_firstIn_4 rfl rfl ?_
  refine z_aload_n (pc' := 6) dX6_firstIn_5 rfl rfl ?_
  obtain ⟨h1, h⟩ := h
  refine z_getR (ci := 7) (kf := 3) (pc' := 9) dX6_firstIn_6 kX6_12 (Or.inl rfl) (by decide) (by decide) rfl rfl h1 ?_
  obtain ⟨h1, h⟩ := h
  obtain ⟨d1, b1, Qz, hm, hdd, hb, hkx, hk⟩ := h
  refine z_callV (Y := mJx4a65c_size_8abf5) (n := 0) (as := []) (st := [.int x3]) (pc' := 12) (ci := 0) (q := (zrv G q0 3)) hm dX6_firstIn_9 kX6_68 vJx4a65c_size_8abf5 rfl rfl (by decide) rfl h1 hdd hb (Nat.le_of_ble_eq_true rfl) (fun r G2 hz => ?_) hkx
  obtain ⟨y1, rfl, h⟩ := hk r G2 hz
  refine z_icmp_ge (pt := 60) (pc' := 15) dX6_firstIn_12 (by decide) rfl (fun hc => ?_) (fun hc => ?_)
  · have h := h.1 hc
    refine z_aload_n (pc' := 61) dX6_firstIn_60 rfl rfl ?_
    exact z_aret dX6_firstIn_61 rfl (Or.inl ⟨_, rfl⟩) h
  · have h := h.2 hc
    refine z_aload_n (pc' := 16) dX6_firstIn_15 rfl rfl ?_
    obtain ⟨h1, h⟩ := h
    refine z_getR (ci := 7) (kf := 3) (pc' := 19) dX6_firstIn_16 kX6_12 (Or.inl rfl) (by decide) (by decide) rfl rfl h1 ?_
    refine z_iload_n (pc' := 20) dX6_firstIn_19 rfl rfl ?_
    obtain ⟨h1, h⟩ := h
    obtain ⟨d1, b1, Qz, hm, hdd, hb, hkx, hk⟩ := h
    refine z_callV (Y := mJx4a65c_get_915e3) (n := 1) (as := [.int x3]) (st := []) (pc' := 23) (ci := 0) (q := (zrv G2 q0 3)) hm dX6_firstIn_20 kX6_72 vJx4a65c_get_915e3 rfl rfl (by decide) rfl h1 hdd hb (Nat.le_of_ble_eq_true rfl) (fun r G5 hz => ?_) hkx
    obtain ⟨y4, rfl, h⟩ := hk r G5 hz
    obtain ⟨h1, h⟩ := h
    refine z_castO (ci := 1) (pc' := 26) dX6_firstIn_23 kX6_76 (by decide) rfl h1 ?_
    refine z_astore (pc' := 28) dX6_firstIn_26 (by decide) rfl ?_
    refine z_aload (pc' := 30) dX6_firstIn_28 rfl rfl ?_
    obtain ⟨h1, h⟩ := h
    refine z_getI (ci := 1) (kf := 7) (pc' := 33) dX6_firstIn_30 kX6_106 (Or.inl rfl) (by decide) (by decide) rfl rfl h1 ?_
    refine z_iload_n (pc' := 34) dX6_firstIn_33 rfl rfl ?_
    refine z_icmp_ne (pt := 54) (pc' := 37) dX6_firstIn_34 (by decide) rfl (fun hc => ?_) (fun hc => ?_)
    · have h := h.1 hc
      refine z_iinc (y := x3 + 1) (pc' := 57) dX6_firstIn_54 rfl (zinc_1 _) (by decide) rfl ?_
      refine z_goto (pc' := 4) dX6_firstIn_57 (by decide) ?_
      exact z_dr (ls' := [some (.ref q0), some (.int x1), some (.ref q2), some (.int (x3 + 1)), none]) ⟨rfl, rfl, rfl, rfl, trivial⟩ h
    · have h := h.2 hc
      refine z_aload_n (pc' := 38) dX6_firstIn_37 rfl rfl ?_
      refine z_ifnull (pt := 51) (pc' := 41) dX6_firstIn_38 (by decide) rfl (fun hc => ?_) (fun hc => ?_)
      · have h := h.1 hc
        refine z_aload (pc' := 53) dX6_firstIn_51 rfl rfl ?_
        refine z_astore_n (pc' := 54) dX6_firstIn_53 (by decide) rfl ?_
        refine z_iinc (y := x3 + 1) (pc' := 57) dX6_firstIn_54 rfl (zinc_1 _) (by decide) rfl ?_
        refine z_goto (pc' := 4) dX6_firstIn_57 (by decide) ?_
        exact z_dr (ls' := [some (.ref q0), some (.int x1), some (.ref y4), some (.int (x3 + 1)), none]) ⟨rfl, rfl, rfl, rfl, trivial⟩ h
      · have h := h.2 hc
        refine z_aload_n (pc' := 42) dX6_firstIn_41 rfl rfl ?_
        refine z_aload (pc' := 44) dX6_firstIn_42 rfl rfl ?_
        refine z_aload_n (pc' := 45) dX6_firstIn_44 rfl rfl ?_
        obtain ⟨h1, h⟩ := h
        obtain ⟨d1, b1, Qz, hm, hdd, hb, hkx, hk⟩ := h
        refine z_callV (Y := mX6_isAhead) (n := 2) (as := [.ref y4, .ref q2]) (st := []) (pc' := 48) (ci := 7) (q := q0) hm dX6_firstIn_45 kX6_136 vX6_isAhead rfl rfl (by decide) rfl h1 hdd hb (Nat.le_of_ble_eq_true rfl) (fun r G8 hz => ?_) hkx
        obtain ⟨y7, rfl, h⟩ := hk r G8 hz
        refine z_if_eq (pt := 54) (pc' := 51) dX6_firstIn_48 (by decide) rfl (fun hc => ?_) (fun hc => ?_)
        · have h := h.1 hc
          refine z_iinc (y := x3 + 1) (pc' := 57) dX6_firstIn_54 rfl (zinc_1 _) (by decide) rfl ?_
          refine z_goto (pc' := 4) dX6_firstIn_57 (by decide) ?_
          exact z_dr (ls' := [some (.ref q0), some (.int x1), some (.ref q2), some (.int (x3 + 1)), none]) ⟨rfl, rfl, rfl, rfl, trivial⟩ h
        · have h := h.2 hc
          refine z_aload (pc' := 53) dX6_firstIn_51 rfl rfl ?_
          refine z_astore_n (pc' := 54) dX6_firstIn_53 (by decide) rfl ?_
          refine z_iinc (y := x3 + 1) (pc' := 57) dX6_firstIn_54 rfl (zinc_1 _) (by decide) rfl ?_
          refine z_goto (pc' := 4) dX6_firstIn_57 (by decide) ?_
          exact z_dr (ls' := [some (.ref q0), some (.int x1), some (.ref y4), some (.int (x3 + 1)), none]) ⟨rfl, rfl, rfl, rfl, trivial⟩ h
def wp_X6_init_0 (E : ZE) (l : Launch) (d b : Nat) (G0 : ZG) (Q : ZQ) (k : Nat) (q0 : Nat) (q1 : Nat) (q2 : Nat) (q3 : Nat) (G : ZG) : Prop :=
  zal G q0 ∧ 1 ≤ d ∧
  4 ≤ k ∧ ∃ t1, t1 ≠ 0 ∧ t1 < 448 ∧ t1 / 32 = 0 ∧
  ∀ q_2, q_2 = zp t1 (zcn G t1) → ∀ G3, G3 = znw G t1 0 → ∀ k4, k4 = k - 4 →
  zal G3 q_2 ∧
  xcV E l mJx4a65c_init_da8c8 d [.ref q_2] G3 k4 (fun X G9 => Q (.inr X) G9) (fun G5 k6 =>
  zob G5 q0 7 ∧
  ∀ G7, G7 = zsr G5 q0 3 q_2 →
  4 ≤ k6 ∧ ∃ t8, t8 ≠ 0 ∧ t8 < 448 ∧ t8 / 32 = 0 ∧
  ∀ q_9, q_9 = zp t8 (zcn G7 t8) → ∀ G10, G10 = znw G7 t8 0 → ∀ k11, k11 = k6 - 4 →
  zal G10 q_9 ∧
  xcV E l mJx4a65c_init_da8c8 d [.ref q_9] G10 k11 (fun X G9 => Q (.inr X) G9) (fun G12 k13 =>
  zob G12 q0 7 ∧
  ∀ G14, G14 = zsr G12 q0 4 q_9 →
  zob G14 q0 7 ∧
  ∀ G15, G15 = zsi G14 q0 5 0 →
  zob G15 q0 7 ∧
  ∀ G16, G16 = zsi G15 q0 6 0 →
  zob G16 q0 7 ∧
  ∀ G17, G17 = zsi G16 q0 7 0 →
  zob G17 q0 7 ∧
  ∀ G18, G18 = zsi G17 q0 8 0 →
  zob G18 q0 7 ∧
  ∀ G19, G19 = zsi G18 q0 9 0 →
  zob G19 q0 7 ∧
  ∀ G20, G20 = zsi G19 q0 10 0 →
  zob G20 q0 7 ∧
  ∀ G21, G21 = zsi G20 q0 11 0 →
  zob G21 q0 7 ∧
  ∀ G22, G22 = zsi G21 q0 12 0 →
  zob G22 q0 7 ∧
  ∀ G23, G23 = zsi G22 q0 13 0 →
  zob G23 q0 7 ∧
  ∀ G24, G24 = zsr G23 q0 0 q1 →
  zob G24 q0 7 ∧
  ∀ G25, G25 = zsr G24 q0 1 q2 →
  zob G25 q0 7 ∧
  ∀ G26, G26 = zsr G25 q0 2 q3 →
  Q (.inl none) G26))
theorem wpt_X6_init_0 {E : ZE} {l : Launch} {d b : Nat} {G0 : ZG} {Q : ZQ} {k : Nat} {q0 : Nat} {q1 : Nat} {q2 : Nat} {q3 : Nat} {G : ZG} (h : wp_X6_init_0 E l d b G0 Q k q0 q1 q2 q3 G) : zW E l mX6_init d b G0 Q k 0 [some (.ref q0), some (.ref q1), some (.ref q2), some (.ref q3)] [] G := by
  unfold wp_X6_init_0 at h
  refine z_aload_n (pc' := 1) dX6_init_0 rfl rfl ?_
  obtain ⟨h1, h2, h⟩ := h
  refine z_objInit (pc' := 4) dX6_init_1 kX6_3 o_inst o_code rfl h2 h1 (Nat.le_of_ble_eq_true rfl) ?_
  refine z_aload_n (pc' := 5) dX6_init_4 rfl rfl ?_
  obtain ⟨h1, t1, h2, h3, h4, h⟩ := h
  obtain ⟨q_2, hq⟩ : ∃ z, z = zp t1 (zcn G t1) := ⟨_, rfl⟩
  obtain ⟨G3, hG⟩ : ∃ z, z = znw G t1 0 := ⟨_, rfl⟩
  have h := h _ hq _ hG _ rfl
  refine z_new (ci := 0) (t := t1) (pc' := 8) dX6_init_5 kX6_9 n0_inst n0_ini (by decide) rfl h2 h3 h4 h1 (z_df (by decide)) ?_
  refine z_mk hq hG ?_
  refine z_dup (pc' := 9) dX6_init_8 rfl rfl ?_
  obtain ⟨h1, h⟩ := h
  obtain ⟨d1, b1, Qz, hm, hdd, hb, hkx, hk⟩ := h
  refine z_callI (Y := mJx4a65c_init_da8c8) (n := 0) (as := []) (st := [.ref q_2, .ref q0]) (pc' := 12) (q := q_2) hm dX6_init_9 kX6_11 iJx4a65c_init_da8c8 rfl rfl h1 hdd hb (Nat.le_of_ble_eq_true rfl) (fun r G5 hz => ?_) hkx
  obtain ⟨rfl, h⟩ := hk r G5 hz
  obtain ⟨h1, h⟩ := h
  obtain ⟨G7, hG⟩ : ∃ z, z = zsr G5 q0 3 q_2 := ⟨_, rfl⟩
  have h := h _ hG
  refine z_putR (ci := 7) (kf := 3) (pc' := 15) dX6_init_12 kX6_12 (Or.inl rfl) (by decide) (by decide) rfl (Or.inr ⟨rfl, rfl⟩) rfl h1 ?_
  refine z_st hG ?_
  refine z_aload_n (pc' := 16) dX6_init_15 rfl rfl ?_
  obtain ⟨h1, t8, h2, h3, h4, h⟩ := h
  obtain ⟨q_9, hq⟩ : ∃ z, z = zp t8 (zcn G7 t8) := ⟨_, rfl⟩
  obtain ⟨G10, hG⟩ : ∃ z, z = znw G7 t8 0 := ⟨_, rfl⟩
  have h := h _ hq _ hG _ rfl
  refine z_new (ci := 0) (t := t8) (pc' := 19) dX6_init_16 kX6_9 n0_inst n0_ini (by decide) rfl h2 h3 h4 h1 (z_df (by decide)) ?_
  refine z_mk hq hG ?_
  refine z_dup (pc' := 20) dX6_init_19 rfl rfl ?_
  obtain ⟨h1, h⟩ := h
  obtain ⟨d1, b1, Qz, hm, hdd, hb, hkx, hk⟩ := h
  refine z_callI (Y := mJx4a65c_init_da8c8) (n := 0) (as := []) (st := [.ref q_9, .ref q0]) (pc' := 23) (q := q_9) hm dX6_init_20 kX6_11 iJx4a65c_init_da8c8 rfl rfl h1 hdd hb (Nat.le_of_ble_eq_true rfl) (fun r G12 hz => ?_) hkx
  obtain ⟨rfl, h⟩ := hk r G12 hz
  obtain ⟨h1, h⟩ := h
  obtain ⟨G14, hG⟩ : ∃ z, z = zsr G12 q0 4 q_9 := ⟨_, rfl⟩
  have h := h _ hG
  refine z_putR (ci := 7) (kf := 4) (pc' := 26) dX6_init_23 kX6_18 (Or.inl rfl) (by decide) (by decide) rfl (Or.inr ⟨rfl, rfl⟩) rfl h1 ?_
  refine z_st hG ?_
  refine z_aload_n (pc' := 27) dX6_init_26 rfl rfl ?_
  refine z_iconst (x := 0) (pc' := 28) dX6_init_27 (by decide) rfl ?_
  obtain ⟨h1, h⟩ := h
  obtain ⟨G15, hG⟩ : ∃ z, z = zsi G14 q0 5 0 := ⟨_, rfl⟩
  have h := h _ hG
  refine z_putI (ci := 7) (kf := 5) (pc' := 31) dX6_init_28 kX6_21 (Or.inl rfl) (by decide) (by decide) rfl (Or.inl rfl) rfl h1 (zok_int _) ?_
  refine z_st hG ?_
  refine z_aload_n (pc' := 32) dX6_init_31 rfl rfl ?_
  refine z_iconst (x := 0) (pc' := 33) dX6_init_32 (by decide) rfl ?_
  obtain ⟨h1, h⟩ := h
  obtain ⟨G16, hG⟩ : ∃ z, z = zsi G15 q0 6 0 := ⟨_, rfl⟩
  have h := h _ hG
  refine z_putI (ci := 7) (kf := 6) (pc' := 36) dX6_init_33 kX6_25 (Or.inl rfl) (by decide) (by decide) rfl (Or.inl rfl) rfl h1 (zok_int _) ?_
  refine z_st hG ?_
  refine z_aload_n (pc' := 37) dX6_init_36 rfl rfl ?_
  refine z_iconst (x := 0) (pc' := 38) dX6_init_37 (by decide) rfl ?_
  obtain ⟨h1, h⟩ := h
  obtain ⟨G17, hG⟩ : ∃ z, z = zsi G16 q0 7 0 := ⟨_, rfl⟩
  have h := h _ hG
  refine z_putI (ci := 7) (kf := 7) (pc' := 41) dX6_init_38 kX6_28 (Or.inl rfl) (by decide) (by decide) rfl (Or.inl rfl) rfl h1 (zok_int _) ?_
  refine z_st hG ?_
  refine z_aload_n (pc' := 42) dX6_init_41 rfl rfl ?_
  refine z_iconst (x := 0) (pc' := 43) dX6_init_42 (by decide) rfl ?_
  obtain ⟨h1, h⟩ := h
  obtain ⟨G18, hG⟩ : ∃ z, z = zsi G17 q0 8 0 := ⟨_, rfl⟩
  have h := h _ hG
  refine z_putI (ci := 7) (kf := 8) (pc' := 46) dX6_init_43 kX6_31 (Or.inl rfl) (by decide) (by decide) rfl (Or.inl rfl) rfl h1 (zok_int _) ?_
  refine z_st hG ?_
  refine z_aload_n (pc' := 47) dX6_init_46 rfl rfl ?_
  refine z_iconst (x := 0) (pc' := 48) dX6_init_47 (by decide) rfl ?_
  obtain ⟨h1, h⟩ := h
  obtain ⟨G19, hG⟩ : ∃ z, z = zsi G18 q0 9 0 := ⟨_, rfl⟩
  have h := h _ hG
  refine z_putI (ci := 7) (kf := 9) (pc' := 51) dX6_init_48 kX6_34 (Or.inl rfl) (by decide) (by decide) rfl (Or.inl rfl) rfl h1 (zok_int _) ?_
  refine z_st hG ?_
  refine z_aload_n (pc' := 52) dX6_init_51 rfl rfl ?_
  refine z_iconst (x := 0) (pc' := 53) dX6_init_52 (by decide) rfl ?_
  obtain ⟨h1, h⟩ := h
  obtain ⟨G20, hG⟩ : ∃ z, z = zsi G19 q0 10 0 := ⟨_, rfl⟩
  have h := h _ hG
  refine z_putI (ci := 7) (kf := 10) (pc' := 56) dX6_init_53 kX6_37 (Or.inl rfl) (by decide) (by decide) rfl (Or.inl rfl) rfl h1 (zok_int _) ?_
  refine z_st hG ?_
  refine z_aload_n (pc' := 57) dX6_init_56 rfl rfl ?_
  refine z_iconst (x := 0) (pc' := 58) dX6_init_57 (by decide) rfl ?_
  obtain ⟨h1, h⟩ := h
  obtain ⟨G21, hG⟩ : ∃ z, z = zsi G20 q0 11 0 := ⟨_, rfl⟩
  have h := h _ hG
  refine z_putI (ci := 7) (kf := 11) (pc' := 61) dX6_init_58 kX6_40 (Or.inl rfl) (by decide) (by decide) rfl (Or.inl rfl) rfl h1 (zok_int _) ?_
  refine z_st hG ?_
  refine z_aload_n (pc' := 62) dX6_init_61 rfl rfl ?_
  refine z_iconst (x := 0) (pc' := 63) dX6_init_62 (by decide) rfl ?_
  obtain ⟨h1, h⟩ := h
  obtain ⟨G22, hG⟩ : ∃ z, z = zsi G21 q0 12 0 := ⟨_, rfl⟩
  have h := h _ hG
  refine z_putI (ci := 7) (kf := 12) (pc' := 66) dX6_init_63 kX6_43 (Or.inl rfl) (by decide) (by decide) rfl (Or.inl rfl) rfl h1 (zok_int _) ?_
  refine z_st hG ?_
  refine z_aload_n (pc' := 67) dX6_init_66 rfl rfl ?_
  refine z_iconst (x := 0) (pc' := 68) dX6_init_67 (by decide) rfl ?_
  obtain ⟨h1, h⟩ := h
  obtain ⟨G23, hG⟩ : ∃ z, z = zsi G22 q0 13 0 := ⟨_, rfl⟩
  have h := h _ hG
  refine z_putI (ci := 7) (kf := 13) (pc' := 71) dX6_init_68 kX6_46 (Or.inl rfl) (by decide) (by decide) rfl (Or.inl rfl) rfl h1 (zok_int _) ?_
  refine z_st hG ?_
  refine z_aload_n (pc' := 72) dX6_init_71 rfl rfl ?_
  refine z_aload_n (pc' := 73) dX6_init_72 rfl rfl ?_
  obtain ⟨h1, h⟩ := h
  obtain ⟨G24, hG⟩ : ∃ z, z = zsr G23 q0 0 q1 := ⟨_, rfl⟩
  have h := h _ hG
  refine z_putR (ci := 7) (kf := 0) (pc' := 76) dX6_init_73 kX6_49 (Or.inl rfl) (by decide) (by decide) rfl (Or.inr ⟨rfl, rfl⟩) rfl h1 ?_
  refine z_st hG ?_
  refine z_aload_n (pc' := 77) dX6_init_76 rfl rfl ?_
  refine z_aload_n (pc' := 78) dX6_init_77 rfl rfl ?_
  obtain ⟨h1, h⟩ := h
  obtain ⟨G25, hG⟩ : ∃ z, z = zsr G24 q0 1 q2 := ⟨_, rfl⟩
  have h := h _ hG
  refine z_putR (ci := 7) (kf := 1) (pc' := 81) dX6_init_78 kX6_53 (Or.inl rfl) (by decide) (by decide) rfl (Or.inr ⟨rfl, rfl⟩) rfl h1 ?_
  refine z_st hG ?_
  refine z_aload_n (pc' := 82) dX6_init_81 rfl rfl ?_
  refine z_aload_n (pc' := 83) dX6_init_82 rfl rfl ?_
  obtain ⟨h1, h⟩ := h
  obtain ⟨G26, hG⟩ : ∃ z, z = zsr G25 q0 2 q3 := ⟨_, rfl⟩
  have h := h _ hG
  refine z_putR (ci := 7) (kf := 2) (pc' := 86) dX6_init_83 kX6_57 (Or.inl rfl) (by decide) (by decide) rfl (Or.inr ⟨rfl, rfl⟩) rfl h1 ?_
  refine z_st hG ?_
  exact z_vret dX6_init_86 rfl h
def wp_X6_isAhead_0 (E : ZE) (l : Launch) (d b : Nat) (G0 : ZG) (Q : ZQ) (k : Nat) (q0 : Nat) (q1 : Nat) (q2 : Nat) (G : ZG) : Prop :=
  zob G q1 1 ∧
  zob G q2 1 ∧
  (((ziv G q1 5) = (ziv G q2 5) →
    zob G q0 7 ∧
    ((¬ (ziv G q0 7) = 2 →
      zW E l mX6_isAhead d b G0 Q k 40 [some (.ref q0), some (.ref q1), some (.ref q2), none, none] [] G) ∧
    (¬ (¬ (ziv G q0 7) = 2) →
      zob G q1 1 ∧
      xcI E l mX0_gaveTicket d [.ref q1] G k (fun X G9 => Q (.inr X) G9) (fun y1 G2 k3 =>
      zob G2 q2 1 ∧
      xcI E l mX0_gaveTicket d [.ref q2] G2 k3 (fun X G9 => Q (.inr X) G9) (fun y4 G5 k6 =>
      ((y1 = y4 →
        zW E l mX6_isAhead d b G0 Q k6 40 [some (.ref q0), some (.ref q1), some (.ref q2), none, none] [] G5) ∧
      (¬ (y1 = y4) →
        zob G5 q1 1 ∧
        xcI E l mX0_gaveTicket d [.ref q1] G5 k6 (fun X G9 => Q (.inr X) G9) (fun y7 G8 k9 =>
        narrow .boolean (.int y7) = .int y7 ∧ Q (.inl (some (.int y7))) G8)))))))) ∧
  (¬ ((ziv G q1 5) = (ziv G q2 5)) →
    zob G q1 1 ∧
    narrow .boolean (.int (ziv G q1 5)) = .int (ziv G q1 5) ∧ Q (.inl (some (.int (ziv G q1 5)))) G))
theorem wpt_X6_isAhead_0 {E : ZE} {l : Launch} {d b : Nat} {G0 : ZG} {Q : ZQ} {k : Nat} {q0 : Nat} {q1 : Nat} {q2 : Nat} {G : ZG} (h : wp_X6_isAhead_0 E l d b G0 Q k q0 q1 q2 G) : zW E l mX6_isAhead d b G0 Q k 0 [some (.ref q0), some (.ref q1), some (.ref q2), none, none] [] G := by
  unfold wp_X6_isAhead_0 at h
  refine z_aload_n (pc' := 1) dX6_isAhead_0 rfl rfl ?_
  obtain ⟨h1, h⟩ := h
  refine z_getI (ci := 1) (kf := 5) (pc' := 4) dX6_isAhead_1 kX6_146 (Or.inl rfl) (by decide) (by decide) rfl rfl h1 ?_
  refine z_aload_n (pc' := 5) dX6_isAhead_4 rfl rfl ?_
  obtain ⟨h1, h⟩ := h
  refine z_getI (ci := 1) (kf := 5) (pc' := 8) dX6_isAhead_5 kX6_146 (Or.inl rfl) (by decide) (by decide) rfl rfl h1 ?_
  refine z_icmp_eq (pt := 16) (pc' := 11) dX6_isAhead_8 (by decide) rfl (fun hc => ?_) (fun hc => ?_)
  · have h := h.1 hc
    refine z_aload_n (pc' := 17) dX6_isAhead_16 rfl rfl ?_
    obtain ⟨h1, h⟩ := h
    refine z_getI (ci := 7) (kf := 7) (pc' := 20) dX6_isAhead_17 kX6_28 (Or.inl rfl) (by decide) (by decide) rfl rfl h1 ?_
    refine z_iconst (x := 2) (pc' := 21) dX6_isAhead_20 (by decide) rfl ?_
    refine z_icmp_ne (pt := 40) (pc' := 24) dX6_isAhead_21 (by decide) rfl (fun hc => ?_) (fun hc => ?_)
    · have h := h.1 hc
      exact z_dr (ls' := [some (.ref q0), some (.ref q1), some (.ref q2), none, none]) ⟨rfl, rfl, rfl, trivial⟩ h
    · have h := h.2 hc
      refine z_aload_n (pc' := 25) dX6_isAhead_24 rfl rfl ?_
      obtain ⟨h1, h⟩ := h
      obtain ⟨d1, b1, Qz, hm, hdd, hb, hkx, hk⟩ := h
      refine z_callV (Y := mX0_gaveTicket) (n := 0) (as := []) (st := []) (pc' := 28) (ci := 1) (q := q1) hm dX6_isAhead_25 kX6_150 vX0_gaveTicket rfl rfl (by decide) rfl h1 hdd hb (Nat.le_of_ble_eq_true rfl) (fun r G2 hz => ?_) hkx
      obtain ⟨y1, rfl, h⟩ := hk r G2 hz
      refine z_aload_n (pc' := 29) dX6_isAhead_28 rfl rfl ?_
      obtain ⟨h1, h⟩ := h
      obtain ⟨d1, b1, Qz, hm, hdd, hb, hkx, hk⟩ := h
      refine z_callV (Y := mX0_gaveTicket) (n := 0) (as := []) (st := [.int y1]) (pc' := 32) (ci := 1) (q := q2) hm dX6_isAhead_29 kX6_150 vX0_gaveTicket rfl rfl (by decide) rfl h1 hdd hb (Nat.le_of_ble_eq_true rfl) (fun r G5 hz => ?_) hkx
      obtain ⟨y4, rfl, h⟩ := hk r G5 hz
      refine z_icmp_eq (pt := 40) (pc' := 35) dX6_isAhead_32 (by decide) rfl (fun hc => ?_) (fun hc => ?_)
      · have h := h.1 hc
        exact z_dr (ls' := [some (.ref q0), some (.ref q1), some (.ref q2), none, none]) ⟨rfl, rfl, rfl, trivial⟩ h
      · have h := h.2 hc
        refine z_aload_n (pc' := 36) dX6_isAhead_35 rfl rfl ?_
        obtain ⟨h1, h⟩ := h
        obtain ⟨d1, b1, Qz, hm, hdd, hb, hkx, hk⟩ := h
        refine z_callV (Y := mX0_gaveTicket) (n := 0) (as := []) (st := []) (pc' := 39) (ci := 1) (q := q1) hm dX6_isAhead_36 kX6_150 vX0_gaveTicket rfl rfl (by decide) rfl h1 hdd hb (Nat.le_of_ble_eq_true rfl) (fun r G8 hz => ?_) hkx
        obtain ⟨y7, rfl, h⟩ := hk r G8 hz
        exact z_zret (ty := .boolean) dX6_isAhead_39 rfl h.1 h.2
  · have h := h.2 hc
    refine z_aload_n (pc' := 12) dX6_isAhead_11 rfl rfl ?_
    obtain ⟨h1, h⟩ := h
    refine z_getI (ci := 1) (kf := 5) (pc' := 15) dX6_isAhead_12 kX6_146 (Or.inl rfl) (by decide) (by decide) rfl rfl h1 ?_
    exact z_zret (ty := .boolean) dX6_isAhead_15 rfl h.1 h.2
def wp_X6_isAhead_40 (E : ZE) (l : Launch) (d b : Nat) (G0 : ZG) (Q : ZQ) (k : Nat) (q0 : Nat) (q1 : Nat) (q2 : Nat) (G : ZG) : Prop :=
  zob G q0 7 ∧
  ((¬ (ziv G q0 7) = 0 →
    zob G q1 1 ∧
    zob G q0 7 ∧
    ((¬ (ziv G q0 7) = 0 →
      zob G q2 1 ∧
      zW E l mX6_isAhead d b G0 Q k 77 [none, some (.ref q1), some (.ref q2), some (.int (ziv G q1 4)), none] [.int (ziv G q2 4)] G) ∧
    (¬ (¬ (ziv G q0 7) = 0) →
      zob G q2 1 ∧
      zW E l mX6_isAhead d b G0 Q k 77 [none, some (.ref q1), some (.ref q2), some (.int (ziv G q1 4)), none] [.int (ziv G q2 3)] G))) ∧
  (¬ (¬ (ziv G q0 7) = 0) →
    zob G q1 1 ∧
    zob G q0 7 ∧
    ((¬ (ziv G q0 7) = 0 →
      zob G q2 1 ∧
      zW E l mX6_isAhead d b G0 Q k 77 [none, some (.ref q1), some (.ref q2), some (.int (ziv G q1 3)), none] [.int (ziv G q2 4)] G) ∧
    (¬ (¬ (ziv G q0 7) = 0) →
      zob G q2 1 ∧
      zW E l mX6_isAhead d b G0 Q k 77 [none, some (.ref q1), some (.ref q2), some (.int (ziv G q1 3)), none] [.int (ziv G q2 3)] G))))
theorem wpt_X6_isAhead_40 {E : ZE} {l : Launch} {d b : Nat} {G0 : ZG} {Q : ZQ} {k : Nat} {q0 : Nat} {q1 : Nat} {q2 : Nat} {G : ZG} (h : wp_X6_isAhead_40 E l d b G0 Q k q0 q1 q2 G) : zW E l mX6_isAhead d b G0 Q k 40 [some (.ref q0), some (.ref q1), some (.ref q2), none, none] [] G := by
  unfold wp_X6_isAhead_40 at h
  refine z_aload_n (pc' := 41) dX6_isAhead_40 rfl rfl ?_
  obtain ⟨h1, h⟩ := h
  refine z_getI (ci := 7) (kf := 7) (pc' := 44) dX6_isAhead_41 kX6_28 (Or.inl rfl) (by decide) (by decide) rfl rfl h1 ?_
  refine z_if_ne (pt := 54) (pc' := 47) dX6_isAhead_44 (by decide) rfl (fun hc => ?_) (fun hc => ?_)
  · have h := h.1 hc
    refine z_aload_n (pc' := 55) dX6_isAhead_54 rfl rfl ?_
    obtain ⟨h1, h⟩ := h
    refine z_getI (ci := 1) (kf := 4) (pc' := 58) dX6_isAhead_55 kX6_156 (Or.inl rfl) (by decide) (by decide) rfl rfl h1 ?_
    refine z_istore_n (pc' := 59) dX6_isAhead_58 (by decide) rfl ?_
    refine z_aload_n (pc' := 60) dX6_isAhead_59 rfl rfl ?_
    obtain ⟨h1, h⟩ := h
    refine z_getI (ci := 7) (kf := 7) (pc' := 63) dX6_isAhead_60 kX6_28 (Or.inl rfl) (by decide) (by decide) rfl rfl h1 ?_
    refine z_if_ne (pt := 73) (pc' := 66) dX6_isAhead_63 (by decide) rfl (fun hc => ?_) (fun hc => ?_)
    · have h := h.1 hc
      refine z_aload_n (pc' := 74) dX6_isAhead_73 rfl rfl ?_
      obtain ⟨h1, h⟩ := h
      refine z_getI (ci := 1) (kf := 4) (pc' := 77) dX6_isAhead_74 kX6_156 (Or.inl rfl) (by decide) (by decide) rfl rfl h1 ?_
      exact z_dr (ls' := [none, some (.ref q1), some (.ref q2), some (.int (ziv G q1 4)), none]) ⟨rfl, rfl, rfl, trivial⟩ h
    · have h := h.2 hc
      refine z_aload_n (pc' := 67) dX6_isAhead_66 rfl rfl ?_
      obtain ⟨h1, h⟩ := h
      refine z_getI (ci := 1) (kf := 3) (pc' := 70) dX6_isAhead_67 kX6_153 (Or.inl rfl) (by decide) (by decide) rfl rfl h1 ?_
      refine z_goto (pc' := 77) dX6_isAhead_70 (by decide) ?_
      exact z_dr (ls' := [none, some (.ref q1), some (.ref q2), some (.int (ziv G q1 4)), none]) ⟨rfl, rfl, rfl, trivial⟩ h
  · have h := h.2 hc
    refine z_aload_n (pc' := 48) dX6_isAhead_47 rfl rfl ?_
    obtain ⟨h1, h⟩ := h
    refine z_getI (ci := 1) (kf := 3) (pc' := 51) dX6_isAhead_48 kX6_153 (Or.inl rfl) (by decide) (by decide) rfl rfl h1 ?_
    refine z_goto (pc' := 58) dX6_isAhead_51 (by decide) ?_
    refine z_istore_n (pc' := 59) dX6_isAhead_58 (by decide) rfl ?_
    refine z_aload_n (pc' := 60) dX6_isAhead_59 rfl rfl ?_
    obtain ⟨h1, h⟩ := h
    refine z_getI (ci := 7) (kf := 7) (pc' := 63) dX6_isAhead_60 kX6_28 (Or.inl rfl) (by decide) (by decide) rfl rfl h1 ?_
    refine z_if_ne (pt := 73) (pc' := 66) dX6_isAhead_63 (by decide) rfl (fun hc => ?_) (fun hc => ?_)
    · have h := h.1 hc
      refine z_aload_n (pc' := 74) dX6_isAhead_73 rfl rfl ?_
      obtain ⟨h1, h⟩ := h
      refine z_getI (ci := 1) (kf := 4) (pc' := 77) dX6_isAhead_74 kX6_156 (Or.inl rfl) (by decide) (by decide) rfl rfl h1 ?_
      exact z_dr (ls' := [none, some (.ref q1), some (.ref q2), some (.int (ziv G q1 3)), none]) ⟨rfl, rfl, rfl, trivial⟩ h
    · have h := h.2 hc
      refine z_aload_n (pc' := 67) dX6_isAhead_66 rfl rfl ?_
      obtain ⟨h1, h⟩ := h
      refine z_getI (ci := 1) (kf := 3) (pc' := 70) dX6_isAhead_67 kX6_153 (Or.inl rfl) (by decide) (by decide) rfl rfl h1 ?_
      refine z_goto (pc' := 77) dX6_isAhead_70 (by decide) ?_
      exact z_dr (ls' := [none, some (.ref q1), some (.ref q2), some (.int (ziv G q1 3)), none]) ⟨rfl, rfl, rfl, trivial⟩ h
def wp_X6_isAhead_77 (E : ZE) (l : Launch) (d b : Nat) (G0 : ZG) (Q : ZQ) (k : Nat) (q1 : Nat) (q2 : Nat) (x3 : Int32) (s0 : Int32) (G : ZG) : Prop :=
  ((¬ x3 = s0 →
    ((s0 ≤ x3 →
      Q (.inl (some (.int 0))) G) ∧
    (¬ (s0 ≤ x3) →
      Q (.inl (some (.int 1))) G))) ∧
  (¬ (¬ x3 = s0) →
    zob G q1 1 ∧
    zob G q2 1 ∧
    (((ziv G q2 0) ≤ (ziv G q1 0) →
      Q (.inl (some (.int 0))) G) ∧
    (¬ ((ziv G q2 0) ≤ (ziv G q1 0)) →
      Q (.inl (some (.int 1))) G))))
theorem wpt_X6_isAhead_77 {E : ZE} {l : Launch} {d b : Nat} {G0 : ZG} {Q : ZQ} {k : Nat} {q1 : Nat} {q2 : Nat} {x3 : Int32} {s0 : Int32} {G : ZG} (h : wp_X6_isAhead_77 E l d b G0 Q k q1 q2 x3 s0 G) : zW E l mX6_isAhead d b G0 Q k 77 [none, some (.ref q1), some (.ref q2), some (.int x3), none] [.int s0] G := by
  unfold wp_X6_isAhead_77 at h
  refine z_istore (pc' := 79) dX6_isAhead_77 (by decide) rfl ?_
  refine z_iload_n (pc' := 80) dX6_isAhead_79 rfl rfl ?_
  refine z_iload (pc' := 82) dX6_isAhead_80 rfl rfl ?_
  refine z_icmp_ne (pt := 104) (pc' := 85) dX6_isAhead_82 (by decide) rfl (fun hc => ?_) (fun hc => ?_)
  · have h := h.1 hc
    refine z_iload_n (pc' := 105) dX6_isAhead_104 rfl rfl ?_
    refine z_iload (pc' := 107) dX6_isAhead_105 rfl rfl ?_
    refine z_icmp_ge (pt := 114) (pc' := 110) dX6_isAhead_107 (by decide) rfl (fun hc => ?_) (fun hc => ?_)
    · have h := h.1 hc
      refine z_iconst (x := 0) (pc' := 115) dX6_isAhead_114 (by decide) rfl ?_
      exact z_zret (ty := .boolean) dX6_isAhead_115 rfl (by decide) h
    · have h := h.2 hc
      refine z_iconst (x := 1) (pc' := 111) dX6_isAhead_110 (by decide) rfl ?_
      refine z_goto (pc' := 115) dX6_isAhead_111 (by decide) ?_
      exact z_zret (ty := .boolean) dX6_isAhead_115 rfl (by decide) h
  · have h := h.2 hc
    refine z_aload_n (pc' := 86) dX6_isAhead_85 rfl rfl ?_
    obtain ⟨h1, h⟩ := h
    refine z_getI (ci := 1) (kf := 0) (pc' := 89) dX6_isAhead_86 kX6_159 (Or.inl rfl) (by decide) (by decide) rfl rfl h1 ?_
    refine z_aload_n (pc' := 90) dX6_isAhead_89 rfl rfl ?_
    obtain ⟨h1, h⟩ := h
    refine z_getI (ci := 1) (kf := 0) (pc' := 93) dX6_isAhead_90 kX6_159 (Or.inl rfl) (by decide) (by decide) rfl rfl h1 ?_
    refine z_icmp_ge (pt := 100) (pc' := 96) dX6_isAhead_93 (by decide) rfl (fun hc => ?_) (fun hc => ?_)
    · have h := h.1 hc
      refine z_iconst (x := 0) (pc' := 101) dX6_isAhead_100 (by decide) rfl ?_
      refine z_goto (pc' := 115) dX6_isAhead_101 (by decide) ?_
      exact z_zret (ty := .boolean) dX6_isAhead_115 rfl (by decide) h
    · have h := h.2 hc
      refine z_iconst (x := 1) (pc' := 97) dX6_isAhead_96 (by decide) rfl ?_
      refine z_goto (pc' := 115) dX6_isAhead_97 (by decide) ?_
      exact z_zret (ty := .boolean) dX6_isAhead_115 rfl (by decide) h
def wp_X6_newBooklet_0 (E : ZE) (l : Launch) (d b : Nat) (G0 : ZG) (Q : ZQ) (k : Nat) (q0 : Nat) (G : ZG) : Prop :=
  zob G q0 7 ∧
  zob G q0 7 ∧
  zob G (zrv G q0 4) 0 ∧
  xcI E l mJx4a65c_size_8abf5 d [.ref (zrv G q0 4)] G k (fun X G9 => Q (.inr X) G9) (fun y1 G2 k3 =>
  (((ziv G q0 5) < y1 →
    zW E l mX6_newBooklet d b G0 Q k3 29 [some (.ref q0), none] [] G2) ∧
  (¬ ((ziv G q0 5) < y1) →
    zob G2 q0 7 ∧
    5 ≤ k3 ∧ ∃ t4, t4 ≠ 0 ∧ t4 < 448 ∧ t4 / 32 = 2 ∧
    ∀ q_5, q_5 = zp t4 (zcn G2 t4) → ∀ G6, G6 = znw G2 t4 0 → ∀ k7, k7 = k3 - 5 →
    zal G6 q_5 ∧
    xcV E l mX1_init d [.ref q_5] G6 k7 (fun X G9 => Q (.inr X) G9) (fun G8 k9 =>
    zob G8 (zrv G2 q0 4) 0 ∧
    xcI E l mJx4a65c_add_9ea2d d [.ref (zrv G2 q0 4), .ref q_5] G8 k9 (fun X G9 => Q (.inr X) G9) (fun y10 G11 k12 =>
    zW E l mX6_newBooklet d b G0 Q k12 29 [some (.ref q0), none] [] G11)))))
theorem wpt_X6_newBooklet_0 {E : ZE} {l : Launch} {d b : Nat} {G0 : ZG} {Q : ZQ} {k : Nat} {q0 : Nat} {G : ZG} (h : wp_X6_newBooklet_0 E l d b G0 Q k q0 G) : zW E l mX6_newBooklet d b G0 Q k 0 [some (.ref q0), none] [] G := by
  unfold wp_X6_newBooklet_0 at h
  refine z_aload_n (pc' := 1) dX6_newBooklet_0 rfl rfl ?_
  obtain ⟨h1, h⟩ := h
  refine z_getI (ci := 7) (kf := 5) (pc' := 4) dX6_newBooklet_1 kX6_21 (Or.inl rfl) (by decide) (by decide) rfl rfl h1 ?_
  refine z_aload_n (pc' := 5) dX6_newBooklet_4 rfl rfl ?_
  obtain ⟨h1, h⟩ := h
  refine z_getR (ci := 7) (kf := 4) (pc' := 8) dX6_newBooklet_5 kX6_18 (Or.inl rfl) (by decide) (by decide) rfl rfl h1 ?_
  obtain ⟨h1, h⟩ := h
  obtain ⟨d1, b1, Qz, hm, hdd, hb, hkx, hk⟩ := h
  refine z_callV (Y := mJx4a65c_size_8abf5) (n := 0) (as := []) (st := [.int (ziv G q0 5)]) (pc' := 11) (ci := 0) (q := (zrv G q0 4)) hm dX6_newBooklet_8 kX6_68 vJx4a65c_size_8abf5 rfl rfl (by decide) rfl h1 hdd hb (Nat.le_of_ble_eq_true rfl) (fun r G2 hz => ?_) hkx
  obtain ⟨y1, rfl, h⟩ := hk r G2 hz
  refine z_icmp_lt (pt := 29) (pc' := 14) dX6_newBooklet_11 (by decide) rfl (fun hc => ?_) (fun hc => ?_)
  · have h := h.1 hc
    exact z_dr (ls' := [some (.ref q0), none]) ⟨rfl, trivial⟩ h
  · have h := h.2 hc
    refine z_aload_n (pc' := 15) dX6_newBooklet_14 rfl rfl ?_
    obtain ⟨h1, h⟩ := h
    refine z_getR (ci := 7) (kf := 4) (pc' := 18) dX6_newBooklet_15 kX6_18 (Or.inl rfl) (by decide) (by decide) rfl rfl h1 ?_
    obtain ⟨h1, t4, h2, h3, h4, h⟩ := h
    obtain ⟨q_5, hq⟩ : ∃ z, z = zp t4 (zcn G2 t4) := ⟨_, rfl⟩
    obtain ⟨G6, hG⟩ : ∃ z, z = znw G2 t4 0 := ⟨_, rfl⟩
    have h := h _ hq _ hG _ rfl
    refine z_new (ci := 2) (t := t4) (pc' := 21) dX6_newBooklet_18 kX6_94 n2_inst n2_ini (by decide) rfl h2 h3 h4 h1 (z_df (by decide)) ?_
    refine z_mk hq hG ?_
    refine z_dup (pc' := 22) dX6_newBooklet_21 rfl rfl ?_
    obtain ⟨h1, h⟩ := h
    obtain ⟨d1, b1, Qz, hm, hdd, hb, hkx, hk⟩ := h
    refine z_callN (host := RX11) (Y := mX1_init) (n := 0) (as := []) (st := [.ref q_5, .ref (zrv G2 q0 4)]) (pc' := 25) (q := q_5) hm dX6_newBooklet_22 zne_X6_99 iX1_init rfl rfl h1 hdd hb (Nat.le_of_ble_eq_true rfl) (fun r G8 hz => ?_) hkx
    obtain ⟨rfl, h⟩ := hk r G8 hz
    obtain ⟨h1, h⟩ := h
    obtain ⟨d1, b1, Qz, hm, hdd, hb, hkx, hk⟩ := h
    refine z_callV (Y := mJx4a65c_add_9ea2d) (n := 1) (as := [.ref q_5]) (st := []) (pc' := 28) (ci := 0) (q := (zrv G2 q0 4)) hm dX6_newBooklet_25 kX6_82 vJx4a65c_add_9ea2d rfl rfl (by decide) rfl h1 hdd hb (Nat.le_of_ble_eq_true rfl) (fun r G11 hz => ?_) hkx
    obtain ⟨y10, rfl, h⟩ := hk r G11 hz
    refine z_pop (pc' := 29) dX6_newBooklet_28 rfl rfl ?_
    exact z_dr (ls' := [some (.ref q0), none]) ⟨rfl, trivial⟩ h
def wp_X6_newBooklet_29 (E : ZE) (l : Launch) (d b : Nat) (G0 : ZG) (Q : ZQ) (k : Nat) (q0 : Nat) (G : ZG) : Prop :=
  zob G q0 7 ∧
  zob G q0 7 ∧
  zob G q0 7 ∧
  zob G (zrv G q0 4) 0 ∧
  xcI E l mJx4a65c_size_8abf5 d [.ref (zrv G q0 4)] G k (fun X G9 => Q (.inr X) G9) (fun y1 G2 k3 =>
  xcI E l mJ9_min_7cf53 d [.int (ziv G q0 5), .int (y1 - 1)] G2 k3 (fun X G9 => Q (.inr X) G9) (fun y4 G5 k6 =>
  zob G5 (zrv G q0 4) 0 ∧
  xcR E l mJx4a65c_get_915e3 d [.ref (zrv G q0 4), .int y4] G5 k6 (fun X G9 => Q (.inr X) G9) (fun y7 G8 k9 =>
  zob G8 y7 2 ∧
  zob G8 q0 7 ∧
  zob G8 q0 7 ∧
  ∀ G10, G10 = zsi G8 q0 5 ((ziv G8 q0 5) + 1) →
  Q (.inl (some (.ref y7))) G10)))
theorem wpt_X6_newBooklet_29 {E : ZE} {l : Launch} {d b : Nat} {G0 : ZG} {Q : ZQ} {k : Nat} {q0 : Nat} {G : ZG} (h : wp_X6_newBooklet_29 E l d b G0 Q k q0 G) : zW E l mX6_newBooklet d b G0 Q k 29 [some (.ref q0), none] [] G := by
  unfold wp_X6_newBooklet_29 at h
  refine z_aload_n (pc' := 30) dX6_newBooklet_29 rfl rfl ?_
  obtain ⟨h1, h⟩ := h
  refine z_getR (ci := 7) (kf := 4) (pc' := 33) dX6_newBooklet_30 kX6_18 (Or.inl rfl) (by decide) (by decide) rfl rfl h1 ?_
  refine z_aload_n (pc' := 34) dX6_newBooklet_33 rfl rfl ?_
  obtain ⟨h1, h⟩ := h
  refine z_getI (ci := 7) (kf := 5) (pc' := 37) dX6_newBooklet_34 kX6_21 (Or.inl rfl) (by decide) (by decide) rfl rfl h1 ?_
  refine z_aload_n (pc' := 38) dX6_newBooklet_37 rfl rfl ?_
  obtain ⟨h1, h⟩ := h
  refine z_getR (ci := 7) (kf := 4) (pc' := 41) dX6_newBooklet_38 kX6_18 (Or.inl rfl) (by decide) (by decide) rfl rfl h1 ?_
  obtain ⟨h1, h⟩ := h
  obtain ⟨d1, b1, Qz, hm, hdd, hb, hkx, hk⟩ := h
  refine z_callV (Y := mJx4a65c_size_8abf5) (n := 0) (as := []) (st := [.int (ziv G q0 5), .ref (zrv G q0 4)]) (pc' := 44) (ci := 0) (q := (zrv G q0 4)) hm dX6_newBooklet_41 kX6_68 vJx4a65c_size_8abf5 rfl rfl (by decide) rfl h1 hdd hb (Nat.le_of_ble_eq_true rfl) (fun r G2 hz => ?_) hkx
  obtain ⟨y1, rfl, h⟩ := hk r G2 hz
  refine z_iconst (x := 1) (pc' := 45) dX6_newBooklet_44 (by decide) rfl ?_
  refine z_isub (pc' := 46) dX6_newBooklet_45 rfl rfl ?_
  obtain ⟨d1, b1, Qz, hm, hdd, hb, hkx, hk⟩ := h
  refine z_callS (Y := mJ9_min_7cf53) (n := 2) (as := [.int (ziv G q0 5), .int (y1 - 1)]) (st := [.ref (zrv G q0 4)]) (pc' := 49) hm dX6_newBooklet_46 kX6_100 sJ9_min_7cf53 rfl rfl hdd hb (Nat.le_of_ble_eq_true rfl) (fun r G5 hz => ?_) hkx
  obtain ⟨y4, rfl, h⟩ := hk r G5 hz
  obtain ⟨h1, h⟩ := h
  obtain ⟨d1, b1, Qz, hm, hdd, hb, hkx, hk⟩ := h
  refine z_callV (Y := mJx4a65c_get_915e3) (n := 1) (as := [.int y4]) (st := []) (pc' := 52) (ci := 0) (q := (zrv G q0 4)) hm dX6_newBooklet_49 kX6_72 vJx4a65c_get_915e3 rfl rfl (by decide) rfl h1 hdd hb (Nat.le_of_ble_eq_true rfl) (fun r G8 hz => ?_) hkx
  obtain ⟨y7, rfl, h⟩ := hk r G8 hz
  obtain ⟨h1, h⟩ := h
  refine z_castO (ci := 2) (pc' := 55) dX6_newBooklet_52 kX6_94 (by decide) rfl h1 ?_
  refine z_astore_n (pc' := 56) dX6_newBooklet_55 (by decide) rfl ?_
  refine z_aload_n (pc' := 57) dX6_newBooklet_56 rfl rfl ?_
  refine z_dup (pc' := 58) dX6_newBooklet_57 rfl rfl ?_
  obtain ⟨h1, h⟩ := h
  refine z_getI (ci := 7) (kf := 5) (pc' := 61) dX6_newBooklet_58 kX6_21 (Or.inl rfl) (by decide) (by decide) rfl rfl h1 ?_
  refine z_iconst (x := 1) (pc' := 62) dX6_newBooklet_61 (by decide) rfl ?_
  refine z_iadd (pc' := 63) dX6_newBooklet_62 rfl rfl ?_
  obtain ⟨h1, h⟩ := h
  obtain ⟨G10, hG⟩ : ∃ z, z = zsi G8 q0 5 ((ziv G8 q0 5) + 1) := ⟨_, rfl⟩
  have h := h _ hG
  refine z_putI (ci := 7) (kf := 5) (pc' := 66) dX6_newBooklet_63 kX6_21 (Or.inl rfl) (by decide) (by decide) rfl (Or.inl rfl) rfl h1 (zok_int _) ?_
  refine z_st hG ?_
  refine z_aload_n (pc' := 67) dX6_newBooklet_66 rfl rfl ?_
  exact z_aret dX6_newBooklet_67 rfl (Or.inl ⟨_, rfl⟩) h
def wp_X6_passDay_0 (E : ZE) (l : Launch) (d b : Nat) (G0 : ZG) (Q : ZQ) (k : Nat) (q0 : Nat) (G : ZG) : Prop :=
  zob G q0 7 ∧
  zob G q0 7 ∧
  ∀ G1, G1 = zsi G q0 6 ((ziv G q0 6) + 1) →
  zob G1 q0 7 ∧
  xcV E l mX6_takePost d [.ref q0] G1 k (fun X G9 => Q (.inr X) G9) (fun G2 k3 =>
  zob G2 q0 7 ∧
  xcV E l mX6_countCalls d [.ref q0] G2 k3 (fun X G9 => Q (.inr X) G9) (fun G4 k5 =>
  zob G4 q0 7 ∧
  ∀ G6, G6 = zsi G4 q0 13 0 →
  zW E l mX6_passDay d b G0 Q k5 25 [some (.ref q0), some (.int 0)] [] G6))
theorem wpt_X6_passDay_0 {E : ZE} {l : Launch} {d b : Nat} {G0 : ZG} {Q : ZQ} {k : Nat} {q0 : Nat} {G : ZG} (h : wp_X6_passDay_0 E l d b G0 Q k q0 G) : zW E l mX6_passDay d b G0 Q k 0 [some (.ref q0), none] [] G := by
  unfold wp_X6_passDay_0 at h
  refine z_aload_n (pc' := 1) dX6_passDay_0 rfl rfl ?_
  refine z_dup (pc' := 2) dX6_passDay_1 rfl rfl ?_
  obtain ⟨h1, h⟩ := h
  refine z_getI (ci := 7) (kf := 6) (pc' := 5) dX6_passDay_2 kX6_25 (Or.inl rfl) (by decide) (by decide) rfl rfl h1 ?_
  refine z_iconst (x := 1) (pc' := 6) dX6_passDay_5 (by decide) rfl ?_
  refine z_iadd (pc' := 7) dX6_passDay_6 rfl rfl ?_
  obtain ⟨h1, h⟩ := h
  obtain ⟨G1, hG⟩ : ∃ z, z = zsi G q0 6 ((ziv G q0 6) + 1) := ⟨_, rfl⟩
  have h := h _ hG
  refine z_putI (ci := 7) (kf := 6) (pc' := 10) dX6_passDay_7 kX6_25 (Or.inl rfl) (by decide) (by decide) rfl (Or.inl rfl) rfl h1 (zok_int _) ?_
  refine z_st hG ?_
  refine z_aload_n (pc' := 11) dX6_passDay_10 rfl rfl ?_
  obtain ⟨h1, h⟩ := h
  obtain ⟨d1, b1, Qz, hm, hdd, hb, hkx, hk⟩ := h
  refine z_callV (Y := mX6_takePost) (n := 0) (as := []) (st := []) (pc' := 14) (ci := 7) (q := q0) hm dX6_passDay_11 kX6_160 vX6_takePost rfl rfl (by decide) rfl h1 hdd hb (Nat.le_of_ble_eq_true rfl) (fun r G2 hz => ?_) hkx
  obtain ⟨rfl, h⟩ := hk r G2 hz
  refine z_aload_n (pc' := 15) dX6_passDay_14 rfl rfl ?_
  obtain ⟨h1, h⟩ := h
  obtain ⟨d1, b1, Qz, hm, hdd, hb, hkx, hk⟩ := h
  refine z_callV (Y := mX6_countCalls) (n := 0) (as := []) (st := []) (pc' := 18) (ci := 7) (q := q0) hm dX6_passDay_15 kX6_163 vX6_countCalls rfl rfl (by decide) rfl h1 hdd hb (Nat.le_of_ble_eq_true rfl) (fun r G4 hz => ?_) hkx
  obtain ⟨rfl, h⟩ := hk r G4 hz
  refine z_aload_n (pc' := 19) dX6_passDay_18 rfl rfl ?_
  refine z_iconst (x := 0) (pc' := 20) dX6_passDay_19 (by decide) rfl ?_
  obtain ⟨h1, h⟩ := h
  obtain ⟨G6, hG⟩ : ∃ z, z = zsi G4 q0 13 0 := ⟨_, rfl⟩
  have h := h _ hG
  refine z_putI (ci := 7) (kf := 13) (pc' := 23) dX6_passDay_20 kX6_46 (Or.inl rfl) (by decide) (by decide) rfl (Or.inl rfl) rfl h1 (zok_int _) ?_
  refine z_st hG ?_
  refine z_iconst (x := 0) (pc' := 24) dX6_passDay_23 (by decide) rfl ?_
  refine z_istore_n (pc' := 25) dX6_passDay_24 (by decide) rfl ?_
  exact z_dr (ls' := [some (.ref q0), some (.int 0)]) ⟨rfl, rfl, trivial⟩ h
def wp_X6_passDay_25 (E : ZE) (l : Launch) (d b : Nat) (G0 : ZG) (Q : ZQ) (k : Nat) (q0 : Nat) (x1 : Int32) (G : ZG) : Prop :=
  ((4 ≤ x1 →
    Q (.inl none) G) ∧
  (¬ (4 ≤ x1) →
    zob G q0 7 ∧
    zob G q0 7 ∧
    xcI E l mX6_workAt d [.ref q0, .int x1] G k (fun X G9 => Q (.inr X) G9) (fun y1 G2 k3 =>
    zob G2 q0 7 ∧
    ∀ G4, G4 = zsi G2 q0 13 ((ziv G q0 13) + y1) →
    zW E l mX6_passDay d b G0 Q k3 25 [some (.ref q0), some (.int (x1 + 1))] [] G4)))
theorem wpt_X6_passDay_25 {E : ZE} {l : Launch} {d b : Nat} {G0 : ZG} {Q : ZQ} {k : Nat} {q0 : Nat} {x1 : Int32} {G : ZG} (h : wp_X6_passDay_25 E l d b G0 Q k q0 x1 G) : zW E l mX6_passDay d b G0 Q k 25 [some (.ref q0), some (.int x1)] [] G := by
  unfold wp_X6_passDay_25 at h
  refine z_iload_n (pc' := 26) dX6_passDay_25 rfl rfl ?_
  refine z_iconst (x := 4) (pc' := 27) dX6_passDay_26 (by decide) rfl ?_
  refine z_icmp_ge (pt := 50) (pc' := 30) dX6_passDay_27 (by decide) rfl (fun hc => ?_) (fun hc => ?_)
  · have h := h.1 hc
    exact z_vret dX6_passDay_50 rfl h
  · have h := h.2 hc
    refine z_aload_n (pc' := 31) dX6_passDay_30 rfl rfl ?_
    refine z_dup (pc' := 32) dX6_passDay_31 rfl rfl ?_
    obtain ⟨h1, h⟩ := h
    refine z_getI (ci := 7) (kf := 13) (pc' := 35) dX6_passDay_32 kX6_46 (Or.inl rfl) (by decide) (by decide) rfl rfl h1 ?_
    refine z_aload_n (pc' := 36) dX6_passDay_35 rfl rfl ?_
    refine z_iload_n (pc' := 37) dX6_passDay_36 rfl rfl ?_
    obtain ⟨h1, h⟩ := h
    obtain ⟨d1, b1, Qz, hm, hdd, hb, hkx, hk⟩ := h
    refine z_callV (Y := mX6_workAt) (n := 1) (as := [.int x1]) (st := [.int (ziv G q0 13), .ref q0]) (pc' := 40) (ci := 7) (q := q0) hm dX6_passDay_37 kX6_166 vX6_workAt rfl rfl (by decide) rfl h1 hdd hb (Nat.le_of_ble_eq_true rfl) (fun r G2 hz => ?_) hkx
    obtain ⟨y1, rfl, h⟩ := hk r G2 hz
    refine z_iadd (pc' := 41) dX6_passDay_40 rfl rfl ?_
    obtain ⟨h1, h⟩ := h
    obtain ⟨G4, hG⟩ : ∃ z, z = zsi G2 q0 13 ((ziv G q0 13) + y1) := ⟨_, rfl⟩
    have h := h _ hG
    refine z_putI (ci := 7) (kf := 13) (pc' := 44) dX6_passDay_41 kX6_46 (Or.inl rfl) (by decide) (by decide) rfl (Or.inl rfl) rfl h1 (zok_int _) ?_
    refine z_st hG ?_
    refine z_iinc (y := x1 + 1) (pc' := 47) dX6_passDay_44 rfl (zinc_1 _) (by decide) rfl ?_
    refine z_goto (pc' := 25) dX6_passDay_47 (by decide) ?_
    exact z_dr (ls' := [some (.ref q0), some (.int (x1 + 1))]) ⟨rfl, rfl, trivial⟩ h
def wp_X6_print_0 (E : ZE) (l : Launch) (d b : Nat) (G0 : ZG) (Q : ZQ) (k : Nat) (q0 : Nat) (q1 : Nat) (G : ZG) : Prop :=
  zob G q0 7 ∧
  zob G q0 7 ∧
  ∀ G1, G1 = zsi G q0 8 ((ziv G q0 8) - 1) →
  zob G1 q1 1 ∧
  (((ziv G1 q1 2) = 3 →
    zW E l mX6_print d b G0 Q k 26 [some (.ref q0), some (.ref q1), none, none] [] G1) ∧
  (¬ ((ziv G1 q1 2) = 3) →
    zob G1 q1 1 ∧
    zob G1 q0 7 ∧
    xcV E l mX6_endValidOnes d [.ref q0, .ref (zrv G1 q1 1)] G1 k (fun X G9 => Q (.inr X) G9) (fun G2 k3 =>
    zW E l mX6_print d b G0 Q k3 26 [some (.ref q0), some (.ref q1), none, none] [] G2)))
theorem wpt_X6_print_0 {E : ZE} {l : Launch} {d b : Nat} {G0 : ZG} {Q : ZQ} {k : Nat} {q0 : Nat} {q1 : Nat} {G : ZG} (h : wp_X6_print_0 E l d b G0 Q k q0 q1 G) : zW E l mX6_print d b G0 Q k 0 [some (.ref q0), some (.ref q1), none, none] [] G := by
  unfold wp_X6_print_0 at h
  refine z_aload_n (pc' := 1) dX6_print_0 rfl rfl ?_
  refine z_dup (pc' := 2) dX6_print_1 rfl rfl ?_
  obtain ⟨h1, h⟩ := h
  refine z_getI (ci := 7) (kf := 8) (pc' := 5) dX6_print_2 kX6_31 (Or.inl rfl) (by decide) (by decide) rfl rfl h1 ?_
  refine z_iconst (x := 1) (pc' := 6) dX6_print_5 (by decide) rfl ?_
  refine z_isub (pc' := 7) dX6_print_6 rfl rfl ?_
  obtain ⟨h1, h⟩ := h
  obtain ⟨G1, hG⟩ : ∃ z, z = zsi G q0 8 ((ziv G q0 8) - 1) := ⟨_, rfl⟩
  have h := h _ hG
  refine z_putI (ci := 7) (kf := 8) (pc' := 10) dX6_print_7 kX6_31 (Or.inl rfl) (by decide) (by decide) rfl (Or.inl rfl) rfl h1 (zok_int _) ?_
  refine z_st hG ?_
  refine z_aload_n (pc' := 11) dX6_print_10 rfl rfl ?_
  obtain ⟨h1, h⟩ := h
  refine z_getI (ci := 1) (kf := 2) (pc' := 14) dX6_print_11 kX6_252 (Or.inl rfl) (by decide) (by decide) rfl rfl h1 ?_
  refine z_iconst (x := 3) (pc' := 15) dX6_print_14 (by decide) rfl ?_
  refine z_icmp_eq (pt := 26) (pc' := 18) dX6_print_15 (by decide) rfl (fun hc => ?_) (fun hc => ?_)
  · have h := h.1 hc
    exact z_dr (ls' := [some (.ref q0), some (.ref q1), none, none]) ⟨rfl, rfl, trivial⟩ h
  · have h := h.2 hc
    refine z_aload_n (pc' := 19) dX6_print_18 rfl rfl ?_
    refine z_aload_n (pc' := 20) dX6_print_19 rfl rfl ?_
    obtain ⟨h1, h⟩ := h
    refine z_getR (ci := 1) (kf := 1) (pc' := 23) dX6_print_20 kX6_240 (Or.inl rfl) (by decide) (by decide) rfl rfl h1 ?_
    obtain ⟨h1, h⟩ := h
    obtain ⟨d1, b1, Qz, hm, hdd, hb, hkx, hk⟩ := h
    refine z_callV (Y := mX6_endValidOnes) (n := 1) (as := [.ref (zrv G1 q1 1)]) (st := []) (pc' := 26) (ci := 7) (q := q0) hm dX6_print_23 kX6_255 vX6_endValidOnes rfl rfl (by decide) rfl h1 hdd hb (Nat.le_of_ble_eq_true rfl) (fun r G2 hz => ?_) hkx
    obtain ⟨rfl, h⟩ := hk r G2 hz
    exact z_dr (ls' := [some (.ref q0), some (.ref q1), none, none]) ⟨rfl, rfl, trivial⟩ h
def wp_X6_print_26 (E : ZE) (l : Launch) (d b : Nat) (G0 : ZG) (Q : ZQ) (k : Nat) (q0 : Nat) (q1 : Nat) (G : ZG) : Prop :=
  zob G q0 7 ∧
  zob G q1 1 ∧
  ∀ G1, G1 = zsi G q1 10 (ziv G q0 5) →
  zob G1 q0 7 ∧
  xcR E l mX6_newBooklet d [.ref q0] G1 k (fun X G9 => Q (.inr X) G9) (fun y2 G3 k4 =>
  zob G3 q1 1 ∧
  zob G3 (zrv G3 q1 1) 9 ∧
  zob G3 y2 2 ∧
  ∀ G5, G5 = zsi G3 y2 0 (ziv G3 (zrv G3 q1 1) 0) →
  zob G5 q0 7 ∧
  zob G5 y2 2 ∧
  ∀ G6, G6 = zsi G5 y2 1 (ziv G5 q0 6) →
  zob G6 q0 7 ∧
  zob G6 q1 1 ∧
  zob G6 (zrv G6 q1 6) 11 ∧
  xcI E l mX10_validYears d [.ref (zrv G6 q1 6)] G6 k4 (fun X G9 => Q (.inr X) G9) (fun y7 G8 k9 =>
  zob G8 y2 2 ∧
  ∀ G10, G10 = zsi G8 y2 2 ((ziv G6 q0 6) + (y7 * 365)) →
  zob G10 q1 1 ∧
  zob G10 y2 2 ∧
  ∀ G11, G11 = zsi G10 y2 3 (ziv G10 q1 0) →
  zob G11 q1 1 ∧
  zob G11 (zrv G11 q1 1) 9 ∧
  (((ziv G11 (zrv G11 q1 1) 2) = 0 →
    zob G11 q0 7 ∧
    zob G11 (zrv G11 q0 2) 10 ∧
    zW E l mX6_print d b G0 Q k9 113 [some (.ref q0), some (.ref q1), none, none] [.int (ziv G11 (zrv G11 q0 2) 3)] G11) ∧
  (¬ ((ziv G11 (zrv G11 q1 1) 2) = 0) →
    zob G11 q0 7 ∧
    zob G11 (zrv G11 q0 2) 10 ∧
    zW E l mX6_print d b G0 Q k9 113 [some (.ref q0), some (.ref q1), none, none] [.int (ziv G11 (zrv G11 q0 2) 4)] G11))))
theorem wpt_X6_print_26 {E : ZE} {l : Launch} {d b : Nat} {G0 : ZG} {Q : ZQ} {k : Nat} {q0 : Nat} {q1 : Nat} {G : ZG} (h : wp_X6_print_26 E l d b G0 Q k q0 q1 G) : zW E l mX6_print d b G0 Q k 26 [some (.ref q0), some (.ref q1), none, none] [] G := by
  unfold wp_X6_print_26 at h
  refine z_aload_n (pc' := 27) dX6_print_26 rfl rfl ?_
  refine z_aload_n (pc' := 28) dX6_print_27 rfl rfl ?_
  obtain ⟨h1, h⟩ := h
  refine z_getI (ci := 7) (kf := 5) (pc' := 31) dX6_print_28 kX6_21 (Or.inl rfl) (by decide) (by decide) rfl rfl h1 ?_
  obtain ⟨h1, h⟩ := h
  obtain ⟨G1, hG⟩ : ∃ z, z = zsi G q1 10 (ziv G q0 5) := ⟨_, rfl⟩
  have h := h _ hG
  refine z_putI (ci := 1) (kf := 10) (pc' := 34) dX6_print_31 kX6_259 (Or.inl rfl) (by decide) (by decide) rfl (Or.inl rfl) rfl h1 (zok_int _) ?_
  refine z_st hG ?_
  refine z_aload_n (pc' := 35) dX6_print_34 rfl rfl ?_
  obtain ⟨h1, h⟩ := h
  obtain ⟨d1, b1, Qz, hm, hdd, hb, hkx, hk⟩ := h
  refine z_callV (Y := mX6_newBooklet) (n := 0) (as := []) (st := []) (pc' := 38) (ci := 7) (q := q0) hm dX6_print_35 kX6_90 vX6_newBooklet rfl rfl (by decide) rfl h1 hdd hb (Nat.le_of_ble_eq_true rfl) (fun r G3 hz => ?_) hkx
  obtain ⟨y2, rfl, h⟩ := hk r G3 hz
  refine z_astore_n (pc' := 39) dX6_print_38 (by decide) rfl ?_
  refine z_aload_n (pc' := 40) dX6_print_39 rfl rfl ?_
  refine z_aload_n (pc' := 41) dX6_print_40 rfl rfl ?_
  obtain ⟨h1, h⟩ := h
  refine z_getR (ci := 1) (kf := 1) (pc' := 44) dX6_print_41 kX6_240 (Or.inl rfl) (by decide) (by decide) rfl rfl h1 ?_
  obtain ⟨h1, h⟩ := h
  refine z_getI (ci := 9) (kf := 0) (pc' := 47) dX6_print_44 kX6_120 (Or.inl rfl) (by decide) (by decide) rfl rfl h1 ?_
  obtain ⟨h1, h⟩ := h
  obtain ⟨G5, hG⟩ : ∃ z, z = zsi G3 y2 0 (ziv G3 (zrv G3 q1 1) 0) := ⟨_, rfl⟩
  have h := h _ hG
  refine z_putI (ci := 2) (kf := 0) (pc' := 50) dX6_print_47 kX6_117 (Or.inl rfl) (by decide) (by decide) rfl (Or.inl rfl) rfl h1 (zok_int _) ?_
  refine z_st hG ?_
  refine z_aload_n (pc' := 51) dX6_print_50 rfl rfl ?_
  refine z_aload_n (pc' := 52) dX6_print_51 rfl rfl ?_
  obtain ⟨h1, h⟩ := h
  refine z_getI (ci := 7) (kf := 6) (pc' := 55) dX6_print_52 kX6_25 (Or.inl rfl) (by decide) (by decide) rfl rfl h1 ?_
  obtain ⟨h1, h⟩ := h
  obtain ⟨G6, hG⟩ : ∃ z, z = zsi G5 y2 1 (ziv G5 q0 6) := ⟨_, rfl⟩
  have h := h _ hG
  refine z_putI (ci := 2) (kf := 1) (pc' := 58) dX6_print_55 kX6_262 (Or.inl rfl) (by decide) (by decide) rfl (Or.inl rfl) rfl h1 (zok_int _) ?_
  refine z_st hG ?_
  refine z_aload_n (pc' := 59) dX6_print_58 rfl rfl ?_
  refine z_aload_n (pc' := 60) dX6_print_59 rfl rfl ?_
  obtain ⟨h1, h⟩ := h
  refine z_getI (ci := 7) (kf := 6) (pc' := 63) dX6_print_60 kX6_25 (Or.inl rfl) (by decide) (by decide) rfl rfl h1 ?_
  refine z_aload_n (pc' := 64) dX6_print_63 rfl rfl ?_
  obtain ⟨h1, h⟩ := h
  refine z_getR (ci := 1) (kf := 6) (pc' := 67) dX6_print_64 kX6_205 (Or.inl rfl) (by decide) (by decide) rfl rfl h1 ?_
  obtain ⟨h1, h⟩ := h
  obtain ⟨d1, b1, Qz, hm, hdd, hb, hkx, hk⟩ := h
  refine z_callV (Y := mX10_validYears) (n := 0) (as := []) (st := [.int (ziv G6 q0 6), .ref y2]) (pc' := 70) (ci := 11) (q := (zrv G6 q1 6)) hm dX6_print_67 kX6_265 vX10_validYears rfl rfl (by decide) rfl h1 hdd hb (Nat.le_of_ble_eq_true rfl) (fun r G8 hz => ?_) hkx
  obtain ⟨y7, rfl, h⟩ := hk r G8 hz
  refine z_sipush (x := 365) (pc' := 73) dX6_print_70 (by decide) rfl ?_
  refine z_imul (pc' := 74) dX6_print_73 rfl rfl ?_
  refine z_iadd (pc' := 75) dX6_print_74 rfl rfl ?_
  obtain ⟨h1, h⟩ := h
  obtain ⟨G10, hG⟩ : ∃ z, z = zsi G8 y2 2 ((ziv G6 q0 6) + (y7 * 365)) := ⟨_, rfl⟩
  have h := h _ hG
  refine z_putI (ci := 2) (kf := 2) (pc' := 78) dX6_print_75 kX6_129 (Or.inl rfl) (by decide) (by decide) rfl (Or.inl rfl) rfl h1 (zok_int _) ?_
  refine z_st hG ?_
  refine z_aload_n (pc' := 79) dX6_print_78 rfl rfl ?_
  refine z_aload_n (pc' := 80) dX6_print_79 rfl rfl ?_
  obtain ⟨h1, h⟩ := h
  refine z_getI (ci := 1) (kf := 0) (pc' := 83) dX6_print_80 kX6_159 (Or.inl rfl) (by decide) (by decide) rfl rfl h1 ?_
  obtain ⟨h1, h⟩ := h
  obtain ⟨G11, hG⟩ : ∃ z, z = zsi G10 y2 3 (ziv G10 q1 0) := ⟨_, rfl⟩
  have h := h _ hG
  refine z_putI (ci := 2) (kf := 3) (pc' := 86) dX6_print_83 kX6_268 (Or.inl rfl) (by decide) (by decide) rfl (Or.inl rfl) rfl h1 (zok_int _) ?_
  refine z_st hG ?_
  refine z_aload_n (pc' := 87) dX6_print_86 rfl rfl ?_
  obtain ⟨h1, h⟩ := h
  refine z_getR (ci := 1) (kf := 1) (pc' := 90) dX6_print_87 kX6_240 (Or.inl rfl) (by decide) (by decide) rfl rfl h1 ?_
  obtain ⟨h1, h⟩ := h
  refine z_getI (ci := 9) (kf := 2) (pc' := 93) dX6_print_90 kX6_271 (Or.inl rfl) (by decide) (by decide) rfl rfl h1 ?_
  refine z_if_eq (pt := 106) (pc' := 96) dX6_print_93 (by decide) rfl (fun hc => ?_) (fun hc => ?_)
  · have h := h.1 hc
    refine z_aload_n (pc' := 107) dX6_print_106 rfl rfl ?_
    obtain ⟨h1, h⟩ := h
    refine z_getR (ci := 7) (kf := 2) (pc' := 110) dX6_print_107 kX6_57 (Or.inl rfl) (by decide) (by decide) rfl rfl h1 ?_
    obtain ⟨h1, h⟩ := h
    refine z_getI (ci := 10) (kf := 3) (pc' := 113) dX6_print_110 kX6_276 (Or.inl rfl) (by decide) (by decide) rfl rfl h1 ?_
    exact z_dr (ls' := [some (.ref q0), some (.ref q1), none, none]) ⟨rfl, rfl, trivial⟩ h
  · have h := h.2 hc
    refine z_aload_n (pc' := 97) dX6_print_96 rfl rfl ?_
    obtain ⟨h1, h⟩ := h
    refine z_getR (ci := 7) (kf := 2) (pc' := 100) dX6_print_97 kX6_57 (Or.inl rfl) (by decide) (by decide) rfl rfl h1 ?_
    obtain ⟨h1, h⟩ := h
    refine z_getI (ci := 10) (kf := 4) (pc' := 103) dX6_print_100 kX6_274 (Or.inl rfl) (by decide) (by decide) rfl rfl h1 ?_
    refine z_goto (pc' := 113) dX6_print_103 (by decide) ?_
    exact z_dr (ls' := [some (.ref q0), some (.ref q1), none, none]) ⟨rfl, rfl, trivial⟩ h
def wp_X6_print_113 (E : ZE) (l : Launch) (d b : Nat) (G0 : ZG) (Q : ZQ) (k : Nat) (q0 : Nat) (q1 : Nat) (s0 : Int32) (G : ZG) : Prop :=
  zob G q0 7 ∧
  zob G q1 1 ∧
  ∀ G1, G1 = zsi G q1 13 ((ziv G q0 6) + s0) →
  zob G1 q1 1 ∧
  ∀ G2, G2 = zsi G1 q1 7 6 →
  ((¬ s0 = 0 →
    Q (.inl none) G2) ∧
  (¬ (¬ s0 = 0) →
    zob G2 q0 7 ∧
    xcV E l mX6_arrive d [.ref q0, .ref q1] G2 k (fun X G9 => Q (.inr X) G9) (fun G3 k4 =>
    Q (.inl none) G3)))
theorem wpt_X6_print_113 {E : ZE} {l : Launch} {d b : Nat} {G0 : ZG} {Q : ZQ} {k : Nat} {q0 : Nat} {q1 : Nat} {s0 : Int32} {G : ZG} (h : wp_X6_print_113 E l d b G0 Q k q0 q1 s0 G) : zW E l mX6_print d b G0 Q k 113 [some (.ref q0), some (.ref q1), none, none] [.int s0] G := by
  unfold wp_X6_print_113 at h
  refine z_istore_n (pc' := 114) dX6_print_113 (by decide) rfl ?_
  refine z_aload_n (pc' := 115) dX6_print_114 rfl rfl ?_
  refine z_aload_n (pc' := 116) dX6_print_115 rfl rfl ?_
  obtain ⟨h1, h⟩ := h
  refine z_getI (ci := 7) (kf := 6) (pc' := 119) dX6_print_116 kX6_25 (Or.inl rfl) (by decide) (by decide) rfl rfl h1 ?_
  refine z_iload_n (pc' := 120) dX6_print_119 rfl rfl ?_
  refine z_iadd (pc' := 121) dX6_print_120 rfl rfl ?_
  obtain ⟨h1, h⟩ := h
  obtain ⟨G1, hG⟩ : ∃ z, z = zsi G q1 13 ((ziv G q0 6) + s0) := ⟨_, rfl⟩
  have h := h _ hG
  refine z_putI (ci := 1) (kf := 13) (pc' := 124) dX6_print_121 kX6_170 (Or.inl rfl) (by decide) (by decide) rfl (Or.inl rfl) rfl h1 (zok_int _) ?_
  refine z_st hG ?_
  refine z_aload_n (pc' := 125) dX6_print_124 rfl rfl ?_
  refine z_bipush (x := 6) (pc' := 127) dX6_print_125 (by decide) rfl ?_
  obtain ⟨h1, h⟩ := h
  obtain ⟨G2, hG⟩ : ∃ z, z = zsi G1 q1 7 6 := ⟨_, rfl⟩
  have h := h _ hG
  refine z_putI (ci := 1) (kf := 7) (pc' := 130) dX6_print_127 kX6_106 (Or.inl rfl) (by decide) (by decide) rfl (Or.inl rfl) rfl h1 (zok_int _) ?_
  refine z_st hG ?_
  refine z_iload_n (pc' := 131) dX6_print_130 rfl rfl ?_
  refine z_if_ne (pt := 139) (pc' := 134) dX6_print_131 (by decide) rfl (fun hc => ?_) (fun hc => ?_)
  · have h := h.1 hc
    exact z_vret dX6_print_139 rfl h
  · have h := h.2 hc
    refine z_aload_n (pc' := 135) dX6_print_134 rfl rfl ?_
    refine z_aload_n (pc' := 136) dX6_print_135 rfl rfl ?_
    obtain ⟨h1, h⟩ := h
    obtain ⟨d1, b1, Qz, hm, hdd, hb, hkx, hk⟩ := h
    refine z_callV (Y := mX6_arrive) (n := 1) (as := [.ref q1]) (st := []) (pc' := 139) (ci := 7) (q := q0) hm dX6_print_136 kX6_173 vX6_arrive rfl rfl (by decide) rfl h1 hdd hb (Nat.le_of_ble_eq_true rfl) (fun r G3 hz => ?_) hkx
    obtain ⟨rfl, h⟩ := hk r G3 hz
    exact z_vret dX6_print_139 rfl h
def wp_X6_read_0 (E : ZE) (l : Launch) (d b : Nat) (G0 : ZG) (Q : ZQ) (k : Nat) (q0 : Nat) (q1 : Nat) (G : ZG) : Prop :=
  zob G q0 7 ∧
  zob G q1 1 ∧
  ∀ G1, G1 = zsi G q1 11 (ziv G q0 6) →
  zob G1 q1 1 ∧
  xcI E l mX0_lackingItems d [.ref q1] G1 k (fun X G9 => Q (.inr X) G9) (fun y2 G3 k4 =>
  ((¬ y2 = 0 →
    zob G3 q1 1 ∧
    ∀ G5, G5 = zsi G3 q1 7 1 →
    zob G5 q1 1 ∧
    zob G5 q1 1 ∧
    ∀ G6, G6 = zsi G5 q1 14 ((ziv G5 q1 14) + 1) →
    Q (.inl none) G6) ∧
  (¬ (¬ y2 = 0) →
    zob G3 q1 1 ∧
    ∀ G7, G7 = zsi G3 q1 7 2 →
    Q (.inl none) G7)))
theorem wpt_X6_read_0 {E : ZE} {l : Launch} {d b : Nat} {G0 : ZG} {Q : ZQ} {k : Nat} {q0 : Nat} {q1 : Nat} {G : ZG} (h : wp_X6_read_0 E l d b G0 Q k q0 q1 G) : zW E l mX6_read d b G0 Q k 0 [some (.ref q0), some (.ref q1)] [] G := by
  unfold wp_X6_read_0 at h
  refine z_aload_n (pc' := 1) dX6_read_0 rfl rfl ?_
  refine z_aload_n (pc' := 2) dX6_read_1 rfl rfl ?_
  obtain ⟨h1, h⟩ := h
  refine z_getI (ci := 7) (kf := 6) (pc' := 5) dX6_read_2 kX6_25 (Or.inl rfl) (by decide) (by decide) rfl rfl h1 ?_
  obtain ⟨h1, h⟩ := h
  obtain ⟨G1, hG⟩ : ∃ z, z = zsi G q1 11 (ziv G q0 6) := ⟨_, rfl⟩
  have h := h _ hG
  refine z_putI (ci := 1) (kf := 11) (pc' := 8) dX6_read_5 kX6_202 (Or.inl rfl) (by decide) (by decide) rfl (Or.inl rfl) rfl h1 (zok_int _) ?_
  refine z_st hG ?_
  refine z_aload_n (pc' := 9) dX6_read_8 rfl rfl ?_
  obtain ⟨h1, h⟩ := h
  obtain ⟨d1, b1, Qz, hm, hdd, hb, hkx, hk⟩ := h
  refine z_callV (Y := mX0_lackingItems) (n := 0) (as := []) (st := []) (pc' := 12) (ci := 1) (q := q1) hm dX6_read_9 kX6_228 vX0_lackingItems rfl rfl (by decide) rfl h1 hdd hb (Nat.le_of_ble_eq_true rfl) (fun r G3 hz => ?_) hkx
  obtain ⟨y2, rfl, h⟩ := hk r G3 hz
  refine z_if_ne (pt := 23) (pc' := 15) dX6_read_12 (by decide) rfl (fun hc => ?_) (fun hc => ?_)
  · have h := h.1 hc
    refine z_aload_n (pc' := 24) dX6_read_23 rfl rfl ?_
    refine z_iconst (x := 1) (pc' := 25) dX6_read_24 (by decide) rfl ?_
    obtain ⟨h1, h⟩ := h
    obtain ⟨G5, hG⟩ : ∃ z, z = zsi G3 q1 7 1 := ⟨_, rfl⟩
    have h := h _ hG
    refine z_putI (ci := 1) (kf := 7) (pc' := 28) dX6_read_25 kX6_106 (Or.inl rfl) (by decide) (by decide) rfl (Or.inl rfl) rfl h1 (zok_int _) ?_
    refine z_st hG ?_
    refine z_aload_n (pc' := 29) dX6_read_28 rfl rfl ?_
    refine z_dup (pc' := 30) dX6_read_29 rfl rfl ?_
    obtain ⟨h1, h⟩ := h
    refine z_getI (ci := 1) (kf := 14) (pc' := 33) dX6_read_30 kX6_231 (Or.inl rfl) (by decide) (by decide) rfl rfl h1 ?_
    refine z_iconst (x := 1) (pc' := 34) dX6_read_33 (by decide) rfl ?_
    refine z_iadd (pc' := 35) dX6_read_34 rfl rfl ?_
    obtain ⟨h1, h⟩ := h
    obtain ⟨G6, hG⟩ : ∃ z, z = zsi G5 q1 14 ((ziv G5 q1 14) + 1) := ⟨_, rfl⟩
    have h := h _ hG
    refine z_putI (ci := 1) (kf := 14) (pc' := 38) dX6_read_35 kX6_231 (Or.inl rfl) (by decide) (by decide) rfl (Or.inl rfl) rfl h1 (zok_int _) ?_
    refine z_st hG ?_
    exact z_vret dX6_read_38 rfl h
  · have h := h.2 hc
    refine z_aload_n (pc' := 16) dX6_read_15 rfl rfl ?_
    refine z_iconst (x := 2) (pc' := 17) dX6_read_16 (by decide) rfl ?_
    obtain ⟨h1, h⟩ := h
    obtain ⟨G7, hG⟩ : ∃ z, z = zsi G3 q1 7 2 := ⟨_, rfl⟩
    have h := h _ hG
    refine z_putI (ci := 1) (kf := 7) (pc' := 20) dX6_read_17 kX6_106 (Or.inl rfl) (by decide) (by decide) rfl (Or.inl rfl) rfl h1 (zok_int _) ?_
    refine z_st hG ?_
    refine z_goto (pc' := 38) dX6_read_20 (by decide) ?_
    exact z_vret dX6_read_38 rfl h
def wp_X6_serve_0 (E : ZE) (l : Launch) (d b : Nat) (G0 : ZG) (Q : ZQ) (k : Nat) (q0 : Nat) (x1 : Int32) (q2 : Nat) (G : ZG) : Prop :=
  ((¬ x1 = 0 →
    ((¬ x1 = 1 →
      ((¬ x1 = 2 →
        zob G q0 7 ∧
        xcV E l mX6_print d [.ref q0, .ref q2] G k (fun X G9 => Q (.inr X) G9) (fun G1 k2 =>
        Q (.inl none) G1)) ∧
      (¬ (¬ x1 = 2) →
        zob G q2 1 ∧
        ∀ G3, G3 = zsi G q2 7 5 →
        Q (.inl none) G3))) ∧
    (¬ (¬ x1 = 1) →
      zob G q0 7 ∧
      xcV E l mX6_check d [.ref q0, .ref q2] G k (fun X G9 => Q (.inr X) G9) (fun G4 k5 =>
      Q (.inl none) G4)))) ∧
  (¬ (¬ x1 = 0) →
    zob G q0 7 ∧
    xcV E l mX6_read d [.ref q0, .ref q2] G k (fun X G9 => Q (.inr X) G9) (fun G6 k7 =>
    Q (.inl none) G6)))
theorem wpt_X6_serve_0 {E : ZE} {l : Launch} {d b : Nat} {G0 : ZG} {Q : ZQ} {k : Nat} {q0 : Nat} {x1 : Int32} {q2 : Nat} {G : ZG} (h : wp_X6_serve_0 E l d b G0 Q k q0 x1 q2 G) : zW E l mX6_serve d b G0 Q k 0 [some (.ref q0), some (.int x1), some (.ref q2)] [] G := by
  unfold wp_X6_serve_0 at h
  refine z_iload_n (pc' := 1) dX6_serve_0 rfl rfl ?_
  refine z_if_ne (pt := 12) (pc' := 4) dX6_serve_1 (by decide) rfl (fun hc => ?_) (fun hc => ?_)
  · have h := h.1 hc
    refine z_iload_n (pc' := 13) dX6_serve_12 rfl rfl ?_
    refine z_iconst (x := 1) (pc' := 14) dX6_serve_13 (by decide) rfl ?_
    refine z_icmp_ne (pt := 25) (pc' := 17) dX6_serve_14 (by decide) rfl (fun hc => ?_) (fun hc => ?_)
    · have h := h.1 hc
      refine z_iload_n (pc' := 26) dX6_serve_25 rfl rfl ?_
      refine z_iconst (x := 2) (pc' := 27) dX6_serve_26 (by decide) rfl ?_
      refine z_icmp_ne (pt := 38) (pc' := 30) dX6_serve_27 (by decide) rfl (fun hc => ?_) (fun hc => ?_)
      · have h := h.1 hc
        refine z_aload_n (pc' := 39) dX6_serve_38 rfl rfl ?_
        refine z_aload_n (pc' := 40) dX6_serve_39 rfl rfl ?_
        obtain ⟨h1, h⟩ := h
        obtain ⟨d1, b1, Qz, hm, hdd, hb, hkx, hk⟩ := h
        refine z_callV (Y := mX6_print) (n := 1) (as := [.ref q2]) (st := []) (pc' := 43) (ci := 7) (q := q0) hm dX6_serve_40 kX6_225 vX6_print rfl rfl (by decide) rfl h1 hdd hb (Nat.le_of_ble_eq_true rfl) (fun r G1 hz => ?_) hkx
        obtain ⟨rfl, h⟩ := hk r G1 hz
        exact z_vret dX6_serve_43 rfl h
      · have h := h.2 hc
        refine z_aload_n (pc' := 31) dX6_serve_30 rfl rfl ?_
        refine z_iconst (x := 5) (pc' := 32) dX6_serve_31 (by decide) rfl ?_
        obtain ⟨h1, h⟩ := h
        obtain ⟨G3, hG⟩ : ∃ z, z = zsi G q2 7 5 := ⟨_, rfl⟩
        have h := h _ hG
        refine z_putI (ci := 1) (kf := 7) (pc' := 35) dX6_serve_32 kX6_106 (Or.inl rfl) (by decide) (by decide) rfl (Or.inl rfl) rfl h1 (zok_int _) ?_
        refine z_st hG ?_
        refine z_goto (pc' := 43) dX6_serve_35 (by decide) ?_
        exact z_vret dX6_serve_43 rfl h
    · have h := h.2 hc
      refine z_aload_n (pc' := 18) dX6_serve_17 rfl rfl ?_
      refine z_aload_n (pc' := 19) dX6_serve_18 rfl rfl ?_
      obtain ⟨h1, h⟩ := h
      obtain ⟨d1, b1, Qz, hm, hdd, hb, hkx, hk⟩ := h
      refine z_callV (Y := mX6_check) (n := 1) (as := [.ref q2]) (st := []) (pc' := 22) (ci := 7) (q := q0) hm dX6_serve_19 kX6_222 vX6_check rfl rfl (by decide) rfl h1 hdd hb (Nat.le_of_ble_eq_true rfl) (fun r G4 hz => ?_) hkx
      obtain ⟨rfl, h⟩ := hk r G4 hz
      refine z_goto (pc' := 43) dX6_serve_22 (by decide) ?_
      exact z_vret dX6_serve_43 rfl h
  · have h := h.2 hc
    refine z_aload_n (pc' := 5) dX6_serve_4 rfl rfl ?_
    refine z_aload_n (pc' := 6) dX6_serve_5 rfl rfl ?_
    obtain ⟨h1, h⟩ := h
    obtain ⟨d1, b1, Qz, hm, hdd, hb, hkx, hk⟩ := h
    refine z_callV (Y := mX6_read) (n := 1) (as := [.ref q2]) (st := []) (pc' := 9) (ci := 7) (q := q0) hm dX6_serve_6 kX6_220 vX6_read rfl rfl (by decide) rfl h1 hdd hb (Nat.le_of_ble_eq_true rfl) (fun r G6 hz => ?_) hkx
    obtain ⟨rfl, h⟩ := hk r G6 hz
    refine z_goto (pc' := 43) dX6_serve_9 (by decide) ?_
    exact z_vret dX6_serve_43 rfl h
def wp_X6_takePost_0 (E : ZE) (l : Launch) (d b : Nat) (G0 : ZG) (Q : ZQ) (k : Nat) (q0 : Nat) (G : ZG) : Prop :=
  zW E l mX6_takePost d b G0 Q k 2 [some (.ref q0), some (.int 0), none] [] G
theorem wpt_X6_takePost_0 {E : ZE} {l : Launch} {d b : Nat} {G0 : ZG} {Q : ZQ} {k : Nat} {q0 : Nat} {G : ZG} (h : wp_X6_takePost_0 E l d b G0 Q k q0 G) : zW E l mX6_takePost d b G0 Q k 0 [some (.ref q0), none, none] [] G := by
  unfold wp_X6_takePost_0 at h
  refine z_iconst (x := 0) (pc' := 1) dX6_takePost_0 (by decide) rfl ?_
  refine z_istore_n (pc' := 2) dX6_takePost_1 (by decide) rfl ?_
  exact z_dr (ls' := [some (.ref q0), some (.int 0), none]) ⟨rfl, rfl, trivial⟩ h
def wp_X6_takePost_2 (E : ZE) (l : Launch) (d b : Nat) (G0 : ZG) (Q : ZQ) (k : Nat) (q0 : Nat) (x1 : Int32) (G : ZG) : Prop :=
  zob G q0 7 ∧
  zob G (zrv G q0 3) 0 ∧
  xcI E l mJx4a65c_size_8abf5 d [.ref (zrv G q0 3)] G k (fun X G9 => Q (.inr X) G9) (fun y1 G2 k3 =>
  ((y1 ≤ x1 →
    Q (.inl none) G2) ∧
  (¬ (y1 ≤ x1) →
    zob G2 q0 7 ∧
    zob G2 (zrv G2 q0 3) 0 ∧
    xcR E l mJx4a65c_get_915e3 d [.ref (zrv G2 q0 3), .int x1] G2 k3 (fun X G9 => Q (.inr X) G9) (fun y4 G5 k6 =>
    zob G5 y4 1 ∧
    zob G5 y4 1 ∧
    ((¬ (ziv G5 y4 7) = 6 →
      zW E l mX6_takePost d b G0 Q k6 2 [some (.ref q0), some (.int (x1 + 1)), none] [] G5) ∧
    (¬ (¬ (ziv G5 y4 7) = 6) →
      zob G5 y4 1 ∧
      zob G5 q0 7 ∧
      (((ziv G5 q0 6) < (ziv G5 y4 13) →
        zW E l mX6_takePost d b G0 Q k6 2 [some (.ref q0), some (.int (x1 + 1)), none] [] G5) ∧
      (¬ ((ziv G5 q0 6) < (ziv G5 y4 13)) →
        zob G5 q0 7 ∧
        xcV E l mX6_arrive d [.ref q0, .ref y4] G5 k6 (fun X G9 => Q (.inr X) G9) (fun G7 k8 =>
        zW E l mX6_takePost d b G0 Q k8 2 [some (.ref q0), some (.int (x1 + 1)), none] [] G7)))))))))
theorem wpt_X6_takePost_2 {E : ZE} {l : Launch} {d b : Nat} {G0 : ZG} {Q : ZQ} {k : Nat} {q0 : Nat} {x1 : Int32} {G : ZG} (h : wp_X6_takePost_2 E l d b G0 Q k q0 x1 G) : zW E l mX6_takePost d b G0 Q k 2 [some (.ref q0), some (.int x1), none] [] G := by
  unfold wp_X6_takePost_2 at h
  refine z_iload_n (pc' := 3) dX6_takePost_2 rfl rfl ?_
  refine z_aload_n (pc' := 4) dX6_takePost_3 rfl rfl ?_
  obtain ⟨h1, h⟩ := h
  refine z_getR (ci := 7) (kf := 3) (pc' := 7) dX6_takePost_4 kX6_12 (Or.inl rfl) (by decide) (by decide) rfl rfl h1 ?_
  obtain ⟨h1, h⟩ := h
  obtain ⟨d1, b1, Qz, hm, hdd, hb, hkx, hk⟩ := h
  refine z_callV (Y := mJx4a65c_size_8abf5) (n := 0) (as := []) (st := [.int x1]) (pc' := 10) (ci := 0) (q := (zrv G q0 3)) hm dX6_takePost_7 kX6_68 vJx4a65c_size_8abf5 rfl rfl (by decide) rfl h1 hdd hb (Nat.le_of_ble_eq_true rfl) (fun r G2 hz => ?_) hkx
  obtain ⟨y1, rfl, h⟩ := hk r G2 hz
  refine z_icmp_ge (pt := 56) (pc' := 13) dX6_takePost_10 (by decide) rfl (fun hc => ?_) (fun hc => ?_)
  · have h := h.1 hc
    exact z_vret dX6_takePost_56 rfl h
  · have h := h.2 hc
    refine z_aload_n (pc' := 14) dX6_takePost_13 rfl rfl ?_
    obtain ⟨h1, h⟩ := h
    refine z_getR (ci := 7) (kf := 3) (pc' := 17) dX6_takePost_14 kX6_12 (Or.inl rfl) (by decide) (by decide) rfl rfl h1 ?_
    refine z_iload_n (pc' := 18) dX6_takePost_17 rfl rfl ?_
    obtain ⟨h1, h⟩ := h
    obtain ⟨d1, b1, Qz, hm, hdd, hb, hkx, hk⟩ := h
    refine z_callV (Y := mJx4a65c_get_915e3) (n := 1) (as := [.int x1]) (st := []) (pc' := 21) (ci := 0) (q := (zrv G2 q0 3)) hm dX6_takePost_18 kX6_72 vJx4a65c_get_915e3 rfl rfl (by decide) rfl h1 hdd hb (Nat.le_of_ble_eq_true rfl) (fun r G5 hz => ?_) hkx
    obtain ⟨y4, rfl, h⟩ := hk r G5 hz
    obtain ⟨h1, h⟩ := h
    refine z_castO (ci := 1) (pc' := 24) dX6_takePost_21 kX6_76 (by decide) rfl h1 ?_
    refine z_astore_n (pc' := 25) dX6_takePost_24 (by decide) rfl ?_
    refine z_aload_n (pc' := 26) dX6_takePost_25 rfl rfl ?_
    obtain ⟨h1, h⟩ := h
    refine z_getI (ci := 1) (kf := 7) (pc' := 29) dX6_takePost_26 kX6_106 (Or.inl rfl) (by decide) (by decide) rfl rfl h1 ?_
    refine z_bipush (x := 6) (pc' := 31) dX6_takePost_29 (by decide) rfl ?_
    refine z_icmp_ne (pt := 50) (pc' := 34) dX6_takePost_31 (by decide) rfl (fun hc => ?_) (fun hc => ?_)
    · have h := h.1 hc
      refine z_iinc (y := x1 + 1) (pc' := 53) dX6_takePost_50 rfl (zinc_1 _) (by decide) rfl ?_
      refine z_goto (pc' := 2) dX6_takePost_53 (by decide) ?_
      exact z_dr (ls' := [some (.ref q0), some (.int (x1 + 1)), none]) ⟨rfl, rfl, trivial⟩ h
    · have h := h.2 hc
      refine z_aload_n (pc' := 35) dX6_takePost_34 rfl rfl ?_
      obtain ⟨h1, h⟩ := h
      refine z_getI (ci := 1) (kf := 13) (pc' := 38) dX6_takePost_35 kX6_170 (Or.inl rfl) (by decide) (by decide) rfl rfl h1 ?_
      refine z_aload_n (pc' := 39) dX6_takePost_38 rfl rfl ?_
      obtain ⟨h1, h⟩ := h
      refine z_getI (ci := 7) (kf := 6) (pc' := 42) dX6_takePost_39 kX6_25 (Or.inl rfl) (by decide) (by decide) rfl rfl h1 ?_
      refine z_icmp_gt (pt := 50) (pc' := 45) dX6_takePost_42 (by decide) rfl (fun hc => ?_) (fun hc => ?_)
      · have h := h.1 hc
        refine z_iinc (y := x1 + 1) (pc' := 53) dX6_takePost_50 rfl (zinc_1 _) (by decide) rfl ?_
        refine z_goto (pc' := 2) dX6_takePost_53 (by decide) ?_
        exact z_dr (ls' := [some (.ref q0), some (.int (x1 + 1)), none]) ⟨rfl, rfl, trivial⟩ h
      · have h := h.2 hc
        refine z_aload_n (pc' := 46) dX6_takePost_45 rfl rfl ?_
        refine z_aload_n (pc' := 47) dX6_takePost_46 rfl rfl ?_
        obtain ⟨h1, h⟩ := h
        obtain ⟨d1, b1, Qz, hm, hdd, hb, hkx, hk⟩ := h
        refine z_callV (Y := mX6_arrive) (n := 1) (as := [.ref y4]) (st := []) (pc' := 50) (ci := 7) (q := q0) hm dX6_takePost_47 kX6_173 vX6_arrive rfl rfl (by decide) rfl h1 hdd hb (Nat.le_of_ble_eq_true rfl) (fun r G7 hz => ?_) hkx
        obtain ⟨rfl, h⟩ := hk r G7 hz
        refine z_iinc (y := x1 + 1) (pc' := 53) dX6_takePost_50 rfl (zinc_1 _) (by decide) rfl ?_
        refine z_goto (pc' := 2) dX6_takePost_53 (by decide) ?_
        exact z_dr (ls' := [some (.ref q0), some (.int (x1 + 1)), none]) ⟨rfl, rfl, trivial⟩ h
def wp_X6_unitsFor_0 (E : ZE) (l : Launch) (d b : Nat) (G0 : ZG) (Q : ZQ) (k : Nat) (x0 : Int32) (q1 : Nat) (G : ZG) : Prop :=
  ((¬ x0 = 0 →
    ((¬ x0 = 1 →
      ((¬ x0 = 2 →
        Q (.inl (some (.int 1))) G) ∧
      (¬ (¬ x0 = 2) →
        Q (.inl (some (.int 6))) G))) ∧
    (¬ (¬ x0 = 1) →
      zob G q1 1 ∧
      zob G (zrv G q1 6) 11 ∧
      Q (.inl (some (.int (3 + (ziv G (zrv G q1 6) 2))))) G))) ∧
  (¬ (¬ x0 = 0) →
    zob G q1 1 ∧
    ((¬ (ziv G q1 11) = (-1) →
      Q (.inl (some (.int 1))) G) ∧
    (¬ (¬ (ziv G q1 11) = (-1)) →
      Q (.inl (some (.int 2))) G))))
theorem wpt_X6_unitsFor_0 {E : ZE} {l : Launch} {d b : Nat} {G0 : ZG} {Q : ZQ} {k : Nat} {x0 : Int32} {q1 : Nat} {G : ZG} (h : wp_X6_unitsFor_0 E l d b G0 Q k x0 q1 G) : zW E l mX6_unitsFor d b G0 Q k 0 [some (.int x0), some (.ref q1)] [] G := by
  unfold wp_X6_unitsFor_0 at h
  refine z_iload_n (pc' := 1) dX6_unitsFor_0 rfl rfl ?_
  refine z_if_ne (pt := 18) (pc' := 4) dX6_unitsFor_1 (by decide) rfl (fun hc => ?_) (fun hc => ?_)
  · have h := h.1 hc
    refine z_iload_n (pc' := 19) dX6_unitsFor_18 rfl rfl ?_
    refine z_iconst (x := 1) (pc' := 20) dX6_unitsFor_19 (by decide) rfl ?_
    refine z_icmp_ne (pt := 33) (pc' := 23) dX6_unitsFor_20 (by decide) rfl (fun hc => ?_) (fun hc => ?_)
    · have h := h.1 hc
      refine z_iload_n (pc' := 34) dX6_unitsFor_33 rfl rfl ?_
      refine z_iconst (x := 2) (pc' := 35) dX6_unitsFor_34 (by decide) rfl ?_
      refine z_icmp_ne (pt := 43) (pc' := 38) dX6_unitsFor_35 (by decide) rfl (fun hc => ?_) (fun hc => ?_)
      · have h := h.1 hc
        refine z_iconst (x := 1) (pc' := 44) dX6_unitsFor_43 (by decide) rfl ?_
        exact z_iret dX6_unitsFor_44 rfl h
      · have h := h.2 hc
        refine z_bipush (x := 6) (pc' := 40) dX6_unitsFor_38 (by decide) rfl ?_
        refine z_goto (pc' := 44) dX6_unitsFor_40 (by decide) ?_
        exact z_iret dX6_unitsFor_44 rfl h
    · have h := h.2 hc
      refine z_iconst (x := 3) (pc' := 24) dX6_unitsFor_23 (by decide) rfl ?_
      refine z_aload_n (pc' := 25) dX6_unitsFor_24 rfl rfl ?_
      obtain ⟨h1, h⟩ := h
      refine z_getR (ci := 1) (kf := 6) (pc' := 28) dX6_unitsFor_25 kX6_205 (Or.inl rfl) (by decide) (by decide) rfl rfl h1 ?_
      obtain ⟨h1, h⟩ := h
      refine z_getI (ci := 11) (kf := 2) (pc' := 31) dX6_unitsFor_28 kX6_209 (Or.inl rfl) (by decide) (by decide) rfl rfl h1 ?_
      refine z_iadd (pc' := 32) dX6_unitsFor_31 rfl rfl ?_
      exact z_iret dX6_unitsFor_32 rfl h
  · have h := h.2 hc
    refine z_aload_n (pc' := 5) dX6_unitsFor_4 rfl rfl ?_
    obtain ⟨h1, h⟩ := h
    refine z_getI (ci := 1) (kf := 11) (pc' := 8) dX6_unitsFor_5 kX6_202 (Or.inl rfl) (by decide) (by decide) rfl rfl h1 ?_
    refine z_iconst (x := (-1)) (pc' := 9) dX6_unitsFor_8 (by decide) rfl ?_
    refine z_icmp_ne (pt := 16) (pc' := 12) dX6_unitsFor_9 (by decide) rfl (fun hc => ?_) (fun hc => ?_)
    · have h := h.1 hc
      refine z_iconst (x := 1) (pc' := 17) dX6_unitsFor_16 (by decide) rfl ?_
      exact z_iret dX6_unitsFor_17 rfl h
    · have h := h.2 hc
      refine z_iconst (x := 2) (pc' := 13) dX6_unitsFor_12 (by decide) rfl ?_
      refine z_goto (pc' := 17) dX6_unitsFor_13 (by decide) ?_
      exact z_iret dX6_unitsFor_17 rfl h
def wp_X6_validOf_0 (E : ZE) (l : Launch) (d b : Nat) (G0 : ZG) (Q : ZQ) (k : Nat) (q0 : Nat) (q1 : Nat) (x2 : Int32) (G : ZG) : Prop :=
  zW E l mX6_validOf d b G0 Q k 5 [some (.ref q0), some (.ref q1), some (.int x2), some (.int 0), some (.int 0), none] [] G
theorem wpt_X6_validOf_0 {E : ZE} {l : Launch} {d b : Nat} {G0 : ZG} {Q : ZQ} {k : Nat} {q0 : Nat} {q1 : Nat} {x2 : Int32} {G : ZG} (h : wp_X6_validOf_0 E l d b G0 Q k q0 q1 x2 G) : zW E l mX6_validOf d b G0 Q k 0 [some (.ref q0), some (.ref q1), some (.int x2), none, none, none] [] G := by
  unfold wp_X6_validOf_0 at h
  refine z_iconst (x := 0) (pc' := 1) dX6_validOf_0 (by decide) rfl ?_
  refine z_istore_n (pc' := 2) dX6_validOf_1 (by decide) rfl ?_
  refine z_iconst (x := 0) (pc' := 3) dX6_validOf_2 (by decide) rfl ?_
  refine z_istore (pc' := 5) dX6_validOf_3 (by decide) rfl ?_
  exact z_dr (ls' := [some (.ref q0), some (.ref q1), some (.int x2), some (.int 0), some (.int 0), none]) ⟨rfl, rfl, rfl, rfl, rfl, trivial⟩ h
def wp_X6_validOf_5 (E : ZE) (l : Launch) (d b : Nat) (G0 : ZG) (Q : ZQ) (k : Nat) (q0 : Nat) (q1 : Nat) (x2 : Int32) (x3 : Int32) (x4 : Int32) (G : ZG) : Prop :=
  zob G q0 7 ∧
  (((ziv G q0 5) ≤ x4 →
    Q (.inl (some (.int x3))) G) ∧
  (¬ ((ziv G q0 5) ≤ x4) →
    zob G q0 7 ∧
    xcR E l mX6_bookletAt d [.ref q0, .int x4] G k (fun X G9 => Q (.inr X) G9) (fun y1 G2 k3 =>
    ((y1 = 0 →
      zW E l mX6_validOf d b G0 Q k3 5 [some (.ref q0), some (.ref q1), some (.int x2), some (.int x3), some (.int (x4 + 1)), none] [] G2) ∧
    (¬ (y1 = 0) →
      zob G2 y1 2 ∧
      zob G2 q1 9 ∧
      ((¬ (ziv G2 y1 0) = (ziv G2 q1 0) →
        zW E l mX6_validOf d b G0 Q k3 5 [some (.ref q0), some (.ref q1), some (.int x2), some (.int x3), some (.int (x4 + 1)), none] [] G2) ∧
      (¬ (¬ (ziv G2 y1 0) = (ziv G2 q1 0)) →
        zob G2 y1 2 ∧
        xcI E l mX1_isValidOn d [.ref y1, .int x2] G2 k3 (fun X G9 => Q (.inr X) G9) (fun y4 G5 k6 =>
        ((y4 = 0 →
          zW E l mX6_validOf d b G0 Q k6 5 [some (.ref q0), some (.ref q1), some (.int x2), some (.int x3), some (.int (x4 + 1)), none] [] G5) ∧
        (¬ (y4 = 0) →
          zW E l mX6_validOf d b G0 Q k6 5 [some (.ref q0), some (.ref q1), some (.int x2), some (.int (x3 + 1)), some (.int (x4 + 1)), none] [] G5))))))))))
theorem wpt_X6_validOf_5 {E : ZE} {l : Launch} {d b : Nat} {G0 : ZG} {Q : ZQ} {k : Nat} {q0 : Nat} {q1 : Nat} {x2 : Int32} {x3 : Int32} {x4 : Int32} {G : ZG} (h : wp_X6_validOf_5 E l d b G0 Q k q0 q1 x2 x3 x4 G) : zW E l mX6_validOf d b G0 Q k 5 [some (.ref q0), some (.ref q1), some (.int x2), some (.int x3), some (.int x4), none] [] G := by
  unfold wp_X6_validOf_5 at h
  refine z_iload (pc' := 7) dX6_validOf_5 rfl rfl ?_
  refine z_aload_n (pc' := 8) dX6_validOf_7 rfl rfl ?_
  obtain ⟨h1, h⟩ := h
  refine z_getI (ci := 7) (kf := 5) (pc' := 11) dX6_validOf_8 kX6_21 (Or.inl rfl) (by decide) (by decide) rfl rfl h1 ?_
  refine z_icmp_ge (pt := 57) (pc' := 14) dX6_validOf_11 (by decide) rfl (fun hc => ?_) (fun hc => ?_)
  · have h := h.1 hc
    refine z_iload_n (pc' := 58) dX6_validOf_57 rfl rfl ?_
    exact z_iret dX6_validOf_58 rfl h
  · have h := h.2 hc
    refine z_aload_n (pc' := 15) dX6_validOf_14 rfl rfl ?_
    refine z_iload (pc' := 17) dX6_validOf_15 rfl rfl ?_
    obtain ⟨h1, h⟩ := h
    obtain ⟨d1, b1, Qz, hm, hdd, hb, hkx, hk⟩ := h
    refine z_callV (Y := mX6_bookletAt) (n := 1) (as := [.int x4]) (st := []) (pc' := 20) (ci := 7) (q := q0) hm dX6_validOf_17 kX6_113 vX6_bookletAt rfl rfl (by decide) rfl h1 hdd hb (Nat.le_of_ble_eq_true rfl) (fun r G2 hz => ?_) hkx
    obtain ⟨y1, rfl, h⟩ := hk r G2 hz
    refine z_astore (pc' := 22) dX6_validOf_20 (by decide) rfl ?_
    refine z_aload (pc' := 24) dX6_validOf_22 rfl rfl ?_
    refine z_ifnull (pt := 51) (pc' := 27) dX6_validOf_24 (by decide) rfl (fun hc => ?_) (fun hc => ?_)
    · have h := h.1 hc
      refine z_iinc (y := x4 + 1) (pc' := 54) dX6_validOf_51 rfl (zinc_1 _) (by decide) rfl ?_
      refine z_goto (pc' := 5) dX6_validOf_54 (by decide) ?_
      exact z_dr (ls' := [some (.ref q0), some (.ref q1), some (.int x2), some (.int x3), some (.int (x4 + 1)), none]) ⟨rfl, rfl, rfl, rfl, rfl, trivial⟩ h
    · have h := h.2 hc
      refine z_aload (pc' := 29) dX6_validOf_27 rfl rfl ?_
      obtain ⟨h1, h⟩ := h
      refine z_getI (ci := 2) (kf := 0) (pc' := 32) dX6_validOf_29 kX6_117 (Or.inl rfl) (by decide) (by decide) rfl rfl h1 ?_
      refine z_aload_n (pc' := 33) dX6_validOf_32 rfl rfl ?_
      obtain ⟨h1, h⟩ := h
      refine z_getI (ci := 9) (kf := 0) (pc' := 36) dX6_validOf_33 kX6_120 (Or.inl rfl) (by decide) (by decide) rfl rfl h1 ?_
      refine z_icmp_ne (pt := 51) (pc' := 39) dX6_validOf_36 (by decide) rfl (fun hc => ?_) (fun hc => ?_)
      · have h := h.1 hc
        refine z_iinc (y := x4 + 1) (pc' := 54) dX6_validOf_51 rfl (zinc_1 _) (by decide) rfl ?_
        refine z_goto (pc' := 5) dX6_validOf_54 (by decide) ?_
        exact z_dr (ls' := [some (.ref q0), some (.ref q1), some (.int x2), some (.int x3), some (.int (x4 + 1)), none]) ⟨rfl, rfl, rfl, rfl, rfl, trivial⟩ h
      · have h := h.2 hc
        refine z_aload (pc' := 41) dX6_validOf_39 rfl rfl ?_
        refine z_iload_n (pc' := 42) dX6_validOf_41 rfl rfl ?_
        obtain ⟨h1, h⟩ := h
        obtain ⟨d1, b1, Qz, hm, hdd, hb, hkx, hk⟩ := h
        refine z_callV (Y := mX1_isValidOn) (n := 1) (as := [.int x2]) (st := []) (pc' := 45) (ci := 2) (q := y1) hm dX6_validOf_42 kX6_125 vX1_isValidOn rfl rfl (by decide) rfl h1 hdd hb (Nat.le_of_ble_eq_true rfl) (fun r G5 hz => ?_) hkx
        obtain ⟨y4, rfl, h⟩ := hk r G5 hz
        refine z_if_eq (pt := 51) (pc' := 48) dX6_validOf_45 (by decide) rfl (fun hc => ?_) (fun hc => ?_)
        · have h := h.1 hc
          refine z_iinc (y := x4 + 1) (pc' := 54) dX6_validOf_51 rfl (zinc_1 _) (by decide) rfl ?_
          refine z_goto (pc' := 5) dX6_validOf_54 (by decide) ?_
          exact z_dr (ls' := [some (.ref q0), some (.ref q1), some (.int x2), some (.int x3), some (.int (x4 + 1)), none]) ⟨rfl, rfl, rfl, rfl, rfl, trivial⟩ h
        · have h := h.2 hc
          refine z_iinc (y := x3 + 1) (pc' := 51) dX6_validOf_48 rfl (zinc_1 _) (by decide) rfl ?_
          refine z_iinc (y := x4 + 1) (pc' := 54) dX6_validOf_51 rfl (zinc_1 _) (by decide) rfl ?_
          refine z_goto (pc' := 5) dX6_validOf_54 (by decide) ?_
          exact z_dr (ls' := [some (.ref q0), some (.ref q1), some (.int x2), some (.int (x3 + 1)), some (.int (x4 + 1)), none]) ⟨rfl, rfl, rfl, rfl, rfl, trivial⟩ h
def wp_X6_workAt_0 (E : ZE) (l : Launch) (d b : Nat) (G0 : ZG) (Q : ZQ) (k : Nat) (q0 : Nat) (x1 : Int32) (G : ZG) : Prop :=
  ((x1 < 0 →
    Q (.inl (some (.int 0))) G) ∧
  (¬ (x1 < 0) →
    ((x1 < 4 →
      zob G q0 7 ∧
      zob G q0 7 ∧
      zob G (zrv G q0 1) 3 ∧
      xcI E l mX2_unitsOn d [.ref (zrv G q0 1), .int x1, .int (ziv G q0 6)] G k (fun X G9 => Q (.inr X) G9) (fun y1 G2 k3 =>
      ((¬ x1 = 0 →
        zW E l mX6_workAt d b G0 Q k3 41 [some (.ref q0), some (.int x1), some (.int y1), some (.int 0), none] [] G2) ∧
      (¬ (¬ x1 = 0) →
        zob G2 q0 7 ∧
        xcI E l mJ9_max_7cf53 d [.int 0, .int (y1 - (ziv G2 q0 11))] G2 k3 (fun X G9 => Q (.inr X) G9) (fun y4 G5 k6 =>
        zW E l mX6_workAt d b G0 Q k6 41 [some (.ref q0), some (.int x1), some (.int y4), some (.int 0), none] [] G5))))) ∧
    (¬ (x1 < 4) →
      Q (.inl (some (.int 0))) G))))
theorem wpt_X6_workAt_0 {E : ZE} {l : Launch} {d b : Nat} {G0 : ZG} {Q : ZQ} {k : Nat} {q0 : Nat} {x1 : Int32} {G : ZG} (h : wp_X6_workAt_0 E l d b G0 Q k q0 x1 G) : zW E l mX6_workAt d b G0 Q k 0 [some (.ref q0), some (.int x1), none, none, none] [] G := by
  unfold wp_X6_workAt_0 at h
  refine z_iload_n (pc' := 1) dX6_workAt_0 rfl rfl ?_
  refine z_if_lt (pt := 9) (pc' := 4) dX6_workAt_1 (by decide) rfl (fun hc => ?_) (fun hc => ?_)
  · have h := h.1 hc
    refine z_iconst (x := 0) (pc' := 10) dX6_workAt_9 (by decide) rfl ?_
    exact z_iret dX6_workAt_10 rfl h
  · have h := h.2 hc
    refine z_iload_n (pc' := 5) dX6_workAt_4 rfl rfl ?_
    refine z_iconst (x := 4) (pc' := 6) dX6_workAt_5 (by decide) rfl ?_
    refine z_icmp_lt (pt := 11) (pc' := 9) dX6_workAt_6 (by decide) rfl (fun hc => ?_) (fun hc => ?_)
    · have h := h.1 hc
      refine z_aload_n (pc' := 12) dX6_workAt_11 rfl rfl ?_
      obtain ⟨h1, h⟩ := h
      refine z_getR (ci := 7) (kf := 1) (pc' := 15) dX6_workAt_12 kX6_53 (Or.inl rfl) (by decide) (by decide) rfl rfl h1 ?_
      refine z_iload_n (pc' := 16) dX6_workAt_15 rfl rfl ?_
      refine z_aload_n (pc' := 17) dX6_workAt_16 rfl rfl ?_
      obtain ⟨h1, h⟩ := h
      refine z_getI (ci := 7) (kf := 6) (pc' := 20) dX6_workAt_17 kX6_25 (Or.inl rfl) (by decide) (by decide) rfl rfl h1 ?_
      obtain ⟨h1, h⟩ := h
      obtain ⟨d1, b1, Qz, hm, hdd, hb, hkx, hk⟩ := h
      refine z_callV (Y := mX2_unitsOn) (n := 2) (as := [.int x1, .int (ziv G q0 6)]) (st := []) (pc' := 23) (ci := 3) (q := (zrv G q0 1)) hm dX6_workAt_20 kX6_181 vX2_unitsOn rfl rfl (by decide) rfl h1 hdd hb (Nat.le_of_ble_eq_true rfl) (fun r G2 hz => ?_) hkx
      obtain ⟨y1, rfl, h⟩ := hk r G2 hz
      refine z_istore_n (pc' := 24) dX6_workAt_23 (by decide) rfl ?_
      refine z_iload_n (pc' := 25) dX6_workAt_24 rfl rfl ?_
      refine z_if_ne (pt := 39) (pc' := 28) dX6_workAt_25 (by decide) rfl (fun hc => ?_) (fun hc => ?_)
      · have h := h.1 hc
        refine z_iconst (x := 0) (pc' := 40) dX6_workAt_39 (by decide) rfl ?_
        refine z_istore_n (pc' := 41) dX6_workAt_40 (by decide) rfl ?_
        exact z_dr (ls' := [some (.ref q0), some (.int x1), some (.int y1), some (.int 0), none]) ⟨rfl, rfl, rfl, rfl, trivial⟩ h
      · have h := h.2 hc
        refine z_iconst (x := 0) (pc' := 29) dX6_workAt_28 (by decide) rfl ?_
        refine z_iload_n (pc' := 30) dX6_workAt_29 rfl rfl ?_
        refine z_aload_n (pc' := 31) dX6_workAt_30 rfl rfl ?_
        obtain ⟨h1, h⟩ := h
        refine z_getI (ci := 7) (kf := 11) (pc' := 34) dX6_workAt_31 kX6_40 (Or.inl rfl) (by decide) (by decide) rfl rfl h1 ?_
        refine z_isub (pc' := 35) dX6_workAt_34 rfl rfl ?_
        obtain ⟨d1, b1, Qz, hm, hdd, hb, hkx, hk⟩ := h
        refine z_callS (Y := mJ9_max_7cf53) (n := 2) (as := [.int 0, .int (y1 - (ziv G2 q0 11))]) (st := []) (pc' := 38) hm dX6_workAt_35 kX6_184 sJ9_max_7cf53 rfl rfl hdd hb (Nat.le_of_ble_eq_true rfl) (fun r G5 hz => ?_) hkx
        obtain ⟨y4, rfl, h⟩ := hk r G5 hz
        refine z_istore_n (pc' := 39) dX6_workAt_38 (by decide) rfl ?_
        refine z_iconst (x := 0) (pc' := 40) dX6_workAt_39 (by decide) rfl ?_
        refine z_istore_n (pc' := 41) dX6_workAt_40 (by decide) rfl ?_
        exact z_dr (ls' := [some (.ref q0), some (.int x1), some (.int y4), some (.int 0), none]) ⟨rfl, rfl, rfl, rfl, trivial⟩ h
    · have h := h.2 hc
      refine z_iconst (x := 0) (pc' := 10) dX6_workAt_9 (by decide) rfl ?_
      exact z_iret dX6_workAt_10 rfl h
def wp_X6_workAt_41 (E : ZE) (l : Launch) (d b : Nat) (G0 : ZG) (Q : ZQ) (k : Nat) (q0 : Nat) (x1 : Int32) (x2 : Int32) (x3 : Int32) (G : ZG) : Prop :=
  zob G q0 7 ∧
  zob G (zrv G q0 3) 0 ∧
  xcI E l mJx4a65c_size_8abf5 d [.ref (zrv G q0 3)] G k (fun X G9 => Q (.inr X) G9) (fun y1 G2 k3 =>
  ((y1 ≤ x3 →
    Q (.inl (some (.int x2))) G2) ∧
  (¬ (y1 ≤ x3) →
    (zar G2 (zp 3602 0) 0 ∨ zrd G2 (zp 3602 0) .int) ∧ vp_in x1 (zln G2 (zp 3602 0)) ∧
    zob G2 q0 7 ∧
    xcR E l mX6_firstIn d [.ref q0, .int (ziv G2 (zp 3602 0) x1.toNatClampNeg)] G2 k3 (fun X G9 => Q (.inr X) G9) (fun y4 G5 k6 =>
    ((y4 = 0 →
      Q (.inl (some (.int x2))) G5) ∧
    (¬ (y4 = 0) →
      xcI E l mX6_unitsFor d [.int x1, .ref y4] G5 k6 (fun X G9 => Q (.inr X) G9) (fun y7 G8 k9 =>
      ((y7 ≤ x2 →
        ((¬ x1 = 3 →
          xcI E l mX6_unitsFor d [.int x1, .ref y4] G8 k9 (fun X G9 => Q (.inr X) G9) (fun y10 G11 k12 =>
          zob G11 q0 7 ∧
          xcV E l mX6_serve d [.ref q0, .int x1, .ref y4] G11 k12 (fun X G9 => Q (.inr X) G9) (fun G13 k14 =>
          zW E l mX6_workAt d b G0 Q k14 41 [some (.ref q0), some (.int x1), some (.int (x2 - y10)), some (.int (x3 + 1)), none] [] G13))) ∧
        (¬ (¬ x1 = 3) →
          zob G8 q0 7 ∧
          xcI E l mX6_canPrint d [.ref q0] G8 k9 (fun X G9 => Q (.inr X) G9) (fun y15 G16 k17 =>
          ((¬ y15 = 0 →
            xcI E l mX6_unitsFor d [.int x1, .ref y4] G16 k17 (fun X G9 => Q (.inr X) G9) (fun y18 G19 k20 =>
            zob G19 q0 7 ∧
            xcV E l mX6_serve d [.ref q0, .int x1, .ref y4] G19 k20 (fun X G9 => Q (.inr X) G9) (fun G21 k22 =>
            zW E l mX6_workAt d b G0 Q k22 41 [some (.ref q0), some (.int x1), some (.int (x2 - y18)), some (.int (x3 + 1)), none] [] G21))) ∧
          (¬ (¬ y15 = 0) →
            Q (.inl (some (.int x2))) G16)))))) ∧
      (¬ (y7 ≤ x2) →
        Q (.inl (some (.int x2))) G8)))))))))
theorem wpt_X6_workAt_41 {E : ZE} {l : Launch} {d b : Nat} {G0 : ZG} {Q : ZQ} {k : Nat} {q0 : Nat} {x1 : Int32} {x2 : Int32} {x3 : Int32} {G : ZG} (h : wp_X6_workAt_41 E l d b G0 Q k q0 x1 x2 x3 G) : zW E l mX6_workAt d b G0 Q k 41 [some (.ref q0), some (.int x1), some (.int x2), some (.int x3), none] [] G := by
  unfold wp_X6_workAt_41 at h
  refine z_iload_n (pc' := 42) dX6_workAt_41 rfl rfl ?_
  refine z_aload_n (pc' := 43) dX6_workAt_42 rfl rfl ?_
  obtain ⟨h1, h⟩ := h
  refine z_getR (ci := 7) (kf := 3) (pc' := 46) dX6_workAt_43 kX6_12 (Or.inl rfl) (by decide) (by decide) rfl rfl h1 ?_
  obtain ⟨h1, h⟩ := h
  obtain ⟨d1, b1, Qz, hm, hdd, hb, hkx, hk⟩ := h
  refine z_callV (Y := mJx4a65c_size_8abf5) (n := 0) (as := []) (st := [.int x3]) (pc' := 49) (ci := 0) (q := (zrv G q0 3)) hm dX6_workAt_46 kX6_68 vJx4a65c_size_8abf5 rfl rfl (by decide) rfl h1 hdd hb (Nat.le_of_ble_eq_true rfl) (fun r G2 hz => ?_) hkx
  obtain ⟨y1, rfl, h⟩ := hk r G2 hz
  refine z_icmp_ge (pt := 118) (pc' := 52) dX6_workAt_49 (by decide) rfl (fun hc => ?_) (fun hc => ?_)
  · have h := h.1 hc
    refine z_iload_n (pc' := 119) dX6_workAt_118 rfl rfl ?_
    exact z_iret dX6_workAt_119 rfl h
  · have h := h.2 hc
    refine z_aload_n (pc' := 53) dX6_workAt_52 rfl rfl ?_
    refine z_gets (x := ("PassportOffice$Desks", "STATE_AT", "[I", zp 3602 0)) (pc' := 56) (by simp [zstat]) dX6_workAt_53 kX6_142 rfl (by unfold zfx; decide) (by decide) ?_
    refine z_iload_n (pc' := 57) dX6_workAt_56 rfl rfl ?_
    obtain ⟨h1, h2, h⟩ := h
    refine z_iald (pc' := 58) dX6_workAt_57 rfl h1 h2 ?_
    obtain ⟨h1, h⟩ := h
    obtain ⟨d1, b1, Qz, hm, hdd, hb, hkx, hk⟩ := h
    refine z_callV (Y := mX6_firstIn) (n := 1) (as := [.int (ziv G2 (zp 3602 0) x1.toNatClampNeg)]) (st := []) (pc' := 61) (ci := 7) (q := q0) hm dX6_workAt_58 kX6_187 vX6_firstIn rfl rfl (by decide) rfl h1 hdd hb (Nat.le_of_ble_eq_true rfl) (fun r G5 hz => ?_) hkx
    obtain ⟨y4, rfl, h⟩ := hk r G5 hz
    refine z_astore (pc' := 63) dX6_workAt_61 (by decide) rfl ?_
    refine z_aload (pc' := 65) dX6_workAt_63 rfl rfl ?_
    refine z_ifnull (pt := 118) (pc' := 68) dX6_workAt_65 (by decide) rfl (fun hc => ?_) (fun hc => ?_)
    · have h := h.1 hc
      refine z_iload_n (pc' := 119) dX6_workAt_118 rfl rfl ?_
      exact z_iret dX6_workAt_119 rfl h
    · have h := h.2 hc
      refine z_iload_n (pc' := 69) dX6_workAt_68 rfl rfl ?_
      refine z_aload (pc' := 71) dX6_workAt_69 rfl rfl ?_
      obtain ⟨d1, b1, Qz, hm, hdd, hb, hkx, hk⟩ := h
      refine z_callS (Y := mX6_unitsFor) (n := 2) (as := [.int x1, .ref y4]) (st := []) (pc' := 74) hm dX6_workAt_71 kX6_191 sX6_unitsFor rfl rfl hdd hb (Nat.le_of_ble_eq_true rfl) (fun r G8 hz => ?_) hkx
      obtain ⟨y7, rfl, h⟩ := hk r G8 hz
      refine z_iload_n (pc' := 75) dX6_workAt_74 rfl rfl ?_
      refine z_icmp_le (pt := 81) (pc' := 78) dX6_workAt_75 (by decide) rfl (fun hc => ?_) (fun hc => ?_)
      · have h := h.1 hc
        refine z_iload_n (pc' := 82) dX6_workAt_81 rfl rfl ?_
        refine z_iconst (x := 3) (pc' := 83) dX6_workAt_82 (by decide) rfl ?_
        refine z_icmp_ne (pt := 96) (pc' := 86) dX6_workAt_83 (by decide) rfl (fun hc => ?_) (fun hc => ?_)
        · have h := h.1 hc
          refine z_iload_n (pc' := 97) dX6_workAt_96 rfl rfl ?_
          refine z_iload_n (pc' := 98) dX6_workAt_97 rfl rfl ?_
          refine z_aload (pc' := 100) dX6_workAt_98 rfl rfl ?_
          obtain ⟨d1, b1, Qz, hm, hdd, hb, hkx, hk⟩ := h
          refine z_callS (Y := mX6_unitsFor) (n := 2) (as := [.int x1, .ref y4]) (st := [.int x2]) (pc' := 103) hm dX6_workAt_100 kX6_191 sX6_unitsFor rfl rfl hdd hb (Nat.le_of_ble_eq_true rfl) (fun r G11 hz => ?_) hkx
          obtain ⟨y10, rfl, h⟩ := hk r G11 hz
          refine z_isub (pc' := 104) dX6_workAt_103 rfl rfl ?_
          refine z_istore_n (pc' := 105) dX6_workAt_104 (by decide) rfl ?_
          refine z_aload_n (pc' := 106) dX6_workAt_105 rfl rfl ?_
          refine z_iload_n (pc' := 107) dX6_workAt_106 rfl rfl ?_
          refine z_aload (pc' := 109) dX6_workAt_107 rfl rfl ?_
          obtain ⟨h1, h⟩ := h
          obtain ⟨d1, b1, Qz, hm, hdd, hb, hkx, hk⟩ := h
          refine z_callV (Y := mX6_serve) (n := 2) (as := [.int x1, .ref y4]) (st := []) (pc' := 112) (ci := 7) (q := q0) hm dX6_workAt_109 kX6_198 vX6_serve rfl rfl (by decide) rfl h1 hdd hb (Nat.le_of_ble_eq_true rfl) (fun r G13 hz => ?_) hkx
          obtain ⟨rfl, h⟩ := hk r G13 hz
          refine z_iinc (y := x3 + 1) (pc' := 115) dX6_workAt_112 rfl (zinc_1 _) (by decide) rfl ?_
          refine z_goto (pc' := 41) dX6_workAt_115 (by decide) ?_
          exact z_dr (ls' := [some (.ref q0), some (.int x1), some (.int (x2 - y10)), some (.int (x3 + 1)), none]) ⟨rfl, rfl, rfl, rfl, trivial⟩ h
        · have h := h.2 hc
          refine z_aload_n (pc' := 87) dX6_workAt_86 rfl rfl ?_
          obtain ⟨h1, h⟩ := h
          obtain ⟨d1, b1, Qz, hm, hdd, hb, hkx, hk⟩ := h
          refine z_callV (Y := mX6_canPrint) (n := 0) (as := []) (st := []) (pc' := 90) (ci := 7) (q := q0) hm dX6_workAt_87 kX6_195 vX6_canPrint rfl rfl (by decide) rfl h1 hdd hb (Nat.le_of_ble_eq_true rfl) (fun r G16 hz => ?_) hkx
          obtain ⟨y15, rfl, h⟩ := hk r G16 hz
          refine z_if_ne (pt := 96) (pc' := 93) dX6_workAt_90 (by decide) rfl (fun hc => ?_) (fun hc => ?_)
          · have h := h.1 hc
            refine z_iload_n (pc' := 97) dX6_workAt_96 rfl rfl ?_
            refine z_iload_n (pc' := 98) dX6_workAt_97 rfl rfl ?_
            refine z_aload (pc' := 100) dX6_workAt_98 rfl rfl ?_
            obtain ⟨d1, b1, Qz, hm, hdd, hb, hkx, hk⟩ := h
            refine z_callS (Y := mX6_unitsFor) (n := 2) (as := [.int x1, .ref y4]) (st := [.int x2]) (pc' := 103) hm dX6_workAt_100 kX6_191 sX6_unitsFor rfl rfl hdd hb (Nat.le_of_ble_eq_true rfl) (fun r G19 hz => ?_) hkx
            obtain ⟨y18, rfl, h⟩ := hk r G19 hz
            refine z_isub (pc' := 104) dX6_workAt_103 rfl rfl ?_
            refine z_istore_n (pc' := 105) dX6_workAt_104 (by decide) rfl ?_
            refine z_aload_n (pc' := 106) dX6_workAt_105 rfl rfl ?_
            refine z_iload_n (pc' := 107) dX6_workAt_106 rfl rfl ?_
            refine z_aload (pc' := 109) dX6_workAt_107 rfl rfl ?_
            obtain ⟨h1, h⟩ := h
            obtain ⟨d1, b1, Qz, hm, hdd, hb, hkx, hk⟩ := h
            refine z_callV (Y := mX6_serve) (n := 2) (as := [.int x1, .ref y4]) (st := []) (pc' := 112) (ci := 7) (q := q0) hm dX6_workAt_109 kX6_198 vX6_serve rfl rfl (by decide) rfl h1 hdd hb (Nat.le_of_ble_eq_true rfl) (fun r G21 hz => ?_) hkx
            obtain ⟨rfl, h⟩ := hk r G21 hz
            refine z_iinc (y := x3 + 1) (pc' := 115) dX6_workAt_112 rfl (zinc_1 _) (by decide) rfl ?_
            refine z_goto (pc' := 41) dX6_workAt_115 (by decide) ?_
            exact z_dr (ls' := [some (.ref q0), some (.int x1), some (.int (x2 - y18)), some (.int (x3 + 1)), none]) ⟨rfl, rfl, rfl, rfl, trivial⟩ h
          · have h := h.2 hc
            refine z_goto (pc' := 118) dX6_workAt_93 (by decide) ?_
            refine z_iload_n (pc' := 119) dX6_workAt_118 rfl rfl ?_
            exact z_iret dX6_workAt_119 rfl h
      · have h := h.2 hc
        refine z_goto (pc' := 118) dX6_workAt_78 (by decide) ?_
        refine z_iload_n (pc' := 119) dX6_workAt_118 rfl rfl ?_
        exact z_iret dX6_workAt_119 rfl h
def wp_X7_init_0 (E : ZE) (l : Launch) (d b : Nat) (G0 : ZG) (Q : ZQ) (k : Nat) (q0 : Nat) (G : ZG) : Prop :=
  zal G q0 ∧ 1 ≤ d ∧
  4 ≤ k ∧ ∃ t1, t1 ≠ 0 ∧ t1 < 448 ∧ t1 / 32 = 0 ∧
  ∀ q_2, q_2 = zp t1 (zcn G t1) → ∀ G3, G3 = znw G t1 0 → ∀ k4, k4 = k - 4 →
  zal G3 q_2 ∧
  xcV E l mJx4a65c_init_da8c8 d [.ref q_2] G3 k4 (fun X G9 => Q (.inr X) G9) (fun G5 k6 =>
  zob G5 q0 8 ∧
  ∀ G7, G7 = zsr G5 q0 0 q_2 →
  Q (.inl none) G7)
theorem wpt_X7_init_0 {E : ZE} {l : Launch} {d b : Nat} {G0 : ZG} {Q : ZQ} {k : Nat} {q0 : Nat} {G : ZG} (h : wp_X7_init_0 E l d b G0 Q k q0 G) : zW E l mX7_init d b G0 Q k 0 [some (.ref q0)] [] G := by
  unfold wp_X7_init_0 at h
  refine z_aload_n (pc' := 1) dX7_init_0 rfl rfl ?_
  obtain ⟨h1, h2, h⟩ := h
  refine z_objInit (pc' := 4) dX7_init_1 kX7_1 o_inst o_code rfl h2 h1 (Nat.le_of_ble_eq_true rfl) ?_
  refine z_aload_n (pc' := 5) dX7_init_4 rfl rfl ?_
  obtain ⟨h1, t1, h2, h3, h4, h⟩ := h
  obtain ⟨q_2, hq⟩ : ∃ z, z = zp t1 (zcn G t1) := ⟨_, rfl⟩
  obtain ⟨G3, hG⟩ : ∃ z, z = znw G t1 0 := ⟨_, rfl⟩
  have h := h _ hq _ hG _ rfl
  refine z_new (ci := 0) (t := t1) (pc' := 8) dX7_init_5 kX7_7 n0_inst n0_ini (by decide) rfl h2 h3 h4 h1 (z_df (by decide)) ?_
  refine z_mk hq hG ?_
  refine z_dup (pc' := 9) dX7_init_8 rfl rfl ?_
  obtain ⟨h1, h⟩ := h
  obtain ⟨d1, b1, Qz, hm, hdd, hb, hkx, hk⟩ := h
  refine z_callI (Y := mJx4a65c_init_da8c8) (n := 0) (as := []) (st := [.ref q_2, .ref q0]) (pc' := 12) (q := q_2) hm dX7_init_9 kX7_9 iJx4a65c_init_da8c8 rfl rfl h1 hdd hb (Nat.le_of_ble_eq_true rfl) (fun r G5 hz => ?_) hkx
  obtain ⟨rfl, h⟩ := hk r G5 hz
  obtain ⟨h1, h⟩ := h
  obtain ⟨G7, hG⟩ : ∃ z, z = zsr G5 q0 0 q_2 := ⟨_, rfl⟩
  have h := h _ hG
  refine z_putR (ci := 8) (kf := 0) (pc' := 15) dX7_init_12 kX7_10 (Or.inl rfl) (by decide) (by decide) rfl (Or.inr ⟨rfl, rfl⟩) rfl h1 ?_
  refine z_st hG ?_
  exact z_vret dX7_init_15 rfl h
def wp_X7_isNearOne_0 (E : ZE) (l : Launch) (d b : Nat) (G0 : ZG) (Q : ZQ) (k : Nat) (q0 : Nat) (q1 : Nat) (x2 : Int32) (x3 : Int32) (G : ZG) : Prop :=
  zW E l mX7_isNearOne d b G0 Q k 3 [some (.ref q0), some (.ref q1), some (.int x2), some (.int x3), some (.int 0), none, none] [] G
theorem wpt_X7_isNearOne_0 {E : ZE} {l : Launch} {d b : Nat} {G0 : ZG} {Q : ZQ} {k : Nat} {q0 : Nat} {q1 : Nat} {x2 : Int32} {x3 : Int32} {G : ZG} (h : wp_X7_isNearOne_0 E l d b G0 Q k q0 q1 x2 x3 G) : zW E l mX7_isNearOne d b G0 Q k 0 [some (.ref q0), some (.ref q1), some (.int x2), some (.int x3), none, none, none] [] G := by
  unfold wp_X7_isNearOne_0 at h
  refine z_iconst (x := 0) (pc' := 1) dX7_isNearOne_0 (by decide) rfl ?_
  refine z_istore (pc' := 3) dX7_isNearOne_1 (by decide) rfl ?_
  exact z_dr (ls' := [some (.ref q0), some (.ref q1), some (.int x2), some (.int x3), some (.int 0), none, none]) ⟨rfl, rfl, rfl, rfl, rfl, trivial⟩ h
def wp_X7_isNearOne_3 (E : ZE) (l : Launch) (d b : Nat) (G0 : ZG) (Q : ZQ) (k : Nat) (q0 : Nat) (q1 : Nat) (x2 : Int32) (x3 : Int32) (x4 : Int32) (G : ZG) : Prop :=
  zob G q0 8 ∧
  zob G (zrv G q0 0) 0 ∧
  xcI E l mJx4a65c_size_8abf5 d [.ref (zrv G q0 0)] G k (fun X G9 => Q (.inr X) G9) (fun y1 G2 k3 =>
  ((y1 ≤ x4 →
    Q (.inl (some (.int 0))) G2) ∧
  (¬ (y1 ≤ x4) →
    zob G2 q0 8 ∧
    zob G2 (zrv G2 q0 0) 0 ∧
    xcR E l mJx4a65c_get_915e3 d [.ref (zrv G2 q0 0), .int x4] G2 k3 (fun X G9 => Q (.inr X) G9) (fun y4 G5 k6 =>
    zob G5 y4 9 ∧
    zob G5 q1 9 ∧
    ((x4 = (ziv G5 q1 0) →
      zW E l mX7_isNearOne d b G0 Q k6 53 [some (.ref q0), some (.ref q1), some (.int x2), some (.int x3), some (.int x4), some (.ref y4), none] [.int 0] G5) ∧
    (¬ (x4 = (ziv G5 q1 0)) →
      zob G5 q1 9 ∧
      xcI E l mX8_toldWith d [.ref q1, .ref y4] G5 k6 (fun X G9 => Q (.inr X) G9) (fun y7 G8 k9 =>
      ((¬ y7 = x2 →
        zW E l mX7_isNearOne d b G0 Q k9 53 [some (.ref q0), some (.ref q1), some (.int x2), some (.int x3), some (.int x4), some (.ref y4), none] [.int 0] G8) ∧
      (¬ (¬ y7 = x2) →
        zW E l mX7_isNearOne d b G0 Q k9 53 [some (.ref q0), some (.ref q1), some (.int x2), some (.int x3), some (.int x4), some (.ref y4), none] [.int 1] G8)))))))))
theorem wpt_X7_isNearOne_3 {E : ZE} {l : Launch} {d b : Nat} {G0 : ZG} {Q : ZQ} {k : Nat} {q0 : Nat} {q1 : Nat} {x2 : Int32} {x3 : Int32} {x4 : Int32} {G : ZG} (h : wp_X7_isNearOne_3 E l d b G0 Q k q0 q1 x2 x3 x4 G) : zW E l mX7_isNearOne d b G0 Q k 3 [some (.ref q0), some (.ref q1), some (.int x2), some (.int x3), some (.int x4), none, none] [] G := by
  unfold wp_X7_isNearOne_3 at h
  refine z_iload (pc' := 5) dX7_isNearOne_3 rfl rfl ?_
  refine z_aload_n (pc' := 6) dX7_isNearOne_5 rfl rfl ?_
  obtain ⟨h1, h⟩ := h
  refine z_getR (ci := 8) (kf := 0) (pc' := 9) dX7_isNearOne_6 kX7_10 (Or.inl rfl) (by decide) (by decide) rfl rfl h1 ?_
  obtain ⟨h1, h⟩ := h
  obtain ⟨d1, b1, Qz, hm, hdd, hb, hkx, hk⟩ := h
  refine z_callV (Y := mJx4a65c_size_8abf5) (n := 0) (as := []) (st := [.int x4]) (pc' := 12) (ci := 0) (q := (zrv G q0 0)) hm dX7_isNearOne_9 kX7_16 vJx4a65c_size_8abf5 rfl rfl (by decide) rfl h1 hdd hb (Nat.le_of_ble_eq_true rfl) (fun r G2 hz => ?_) hkx
  obtain ⟨y1, rfl, h⟩ := hk r G2 hz
  refine z_icmp_ge (pt := 78) (pc' := 15) dX7_isNearOne_12 (by decide) rfl (fun hc => ?_) (fun hc => ?_)
  · have h := h.1 hc
    refine z_iconst (x := 0) (pc' := 79) dX7_isNearOne_78 (by decide) rfl ?_
    exact z_zret (ty := .boolean) dX7_isNearOne_79 rfl (by decide) h
  · have h := h.2 hc
    refine z_aload_n (pc' := 16) dX7_isNearOne_15 rfl rfl ?_
    obtain ⟨h1, h⟩ := h
    refine z_getR (ci := 8) (kf := 0) (pc' := 19) dX7_isNearOne_16 kX7_10 (Or.inl rfl) (by decide) (by decide) rfl rfl h1 ?_
    refine z_iload (pc' := 21) dX7_isNearOne_19 rfl rfl ?_
    obtain ⟨h1, h⟩ := h
    obtain ⟨d1, b1, Qz, hm, hdd, hb, hkx, hk⟩ := h
    refine z_callV (Y := mJx4a65c_get_915e3) (n := 1) (as := [.int x4]) (st := []) (pc' := 24) (ci := 0) (q := (zrv G2 q0 0)) hm dX7_isNearOne_21 kX7_20 vJx4a65c_get_915e3 rfl rfl (by decide) rfl h1 hdd hb (Nat.le_of_ble_eq_true rfl) (fun r G5 hz => ?_) hkx
    obtain ⟨y4, rfl, h⟩ := hk r G5 hz
    obtain ⟨h1, h⟩ := h
    refine z_castO (ci := 9) (pc' := 27) dX7_isNearOne_24 kX7_24 (by decide) rfl h1 ?_
    refine z_astore (pc' := 29) dX7_isNearOne_27 (by decide) rfl ?_
    refine z_iload (pc' := 31) dX7_isNearOne_29 rfl rfl ?_
    refine z_aload_n (pc' := 32) dX7_isNearOne_31 rfl rfl ?_
    obtain ⟨h1, h⟩ := h
    refine z_getI (ci := 9) (kf := 0) (pc' := 35) dX7_isNearOne_32 kX7_26 (Or.inl rfl) (by decide) (by decide) rfl rfl h1 ?_
    refine z_icmp_eq (pt := 52) (pc' := 38) dX7_isNearOne_35 (by decide) rfl (fun hc => ?_) (fun hc => ?_)
    · have h := h.1 hc
      refine z_iconst (x := 0) (pc' := 53) dX7_isNearOne_52 (by decide) rfl ?_
      exact z_dr (ls' := [some (.ref q0), some (.ref q1), some (.int x2), some (.int x3), some (.int x4), some (.ref y4), none]) ⟨rfl, rfl, rfl, rfl, rfl, rfl, trivial⟩ h
    · have h := h.2 hc
      refine z_aload_n (pc' := 39) dX7_isNearOne_38 rfl rfl ?_
      refine z_aload (pc' := 41) dX7_isNearOne_39 rfl rfl ?_
      obtain ⟨h1, h⟩ := h
      obtain ⟨d1, b1, Qz, hm, hdd, hb, hkx, hk⟩ := h
      refine z_callV (Y := mX8_toldWith) (n := 1) (as := [.ref y4]) (st := []) (pc' := 44) (ci := 9) (q := q1) hm dX7_isNearOne_41 kX7_30 vX8_toldWith rfl rfl (by decide) rfl h1 hdd hb (Nat.le_of_ble_eq_true rfl) (fun r G8 hz => ?_) hkx
      obtain ⟨y7, rfl, h⟩ := hk r G8 hz
      refine z_iload_n (pc' := 45) dX7_isNearOne_44 rfl rfl ?_
      refine z_icmp_ne (pt := 52) (pc' := 48) dX7_isNearOne_45 (by decide) rfl (fun hc => ?_) (fun hc => ?_)
      · have h := h.1 hc
        refine z_iconst (x := 0) (pc' := 53) dX7_isNearOne_52 (by decide) rfl ?_
        exact z_dr (ls' := [some (.ref q0), some (.ref q1), some (.int x2), some (.int x3), some (.int x4), some (.ref y4), none]) ⟨rfl, rfl, rfl, rfl, rfl, rfl, trivial⟩ h
      · have h := h.2 hc
        refine z_iconst (x := 1) (pc' := 49) dX7_isNearOne_48 (by decide) rfl ?_
        refine z_goto (pc' := 53) dX7_isNearOne_49 (by decide) ?_
        exact z_dr (ls' := [some (.ref q0), some (.ref q1), some (.int x2), some (.int x3), some (.int x4), some (.ref y4), none]) ⟨rfl, rfl, rfl, rfl, rfl, rfl, trivial⟩ h
def wp_X7_isNearOne_53 (E : ZE) (l : Launch) (d b : Nat) (G0 : ZG) (Q : ZQ) (k : Nat) (q0 : Nat) (q1 : Nat) (x2 : Int32) (x3 : Int32) (x4 : Int32) (q5 : Nat) (s0 : Int32) (G : ZG) : Prop :=
  ((s0 = 0 →
    zW E l mX7_isNearOne d b G0 Q k 3 [some (.ref q0), some (.ref q1), some (.int x2), some (.int x3), some (.int (x4 + 1)), none, none] [] G) ∧
  (¬ (s0 = 0) →
    zob G q1 9 ∧
    xcI E l mX8_farFrom d [.ref q1, .ref q5] G k (fun X G9 => Q (.inr X) G9) (fun y1 G2 k3 =>
    ((x3 < y1 →
      zW E l mX7_isNearOne d b G0 Q k3 3 [some (.ref q0), some (.ref q1), some (.int x2), some (.int x3), some (.int (x4 + 1)), none, none] [] G2) ∧
    (¬ (x3 < y1) →
      Q (.inl (some (.int 1))) G2)))))
theorem wpt_X7_isNearOne_53 {E : ZE} {l : Launch} {d b : Nat} {G0 : ZG} {Q : ZQ} {k : Nat} {q0 : Nat} {q1 : Nat} {x2 : Int32} {x3 : Int32} {x4 : Int32} {q5 : Nat} {s0 : Int32} {G : ZG} (h : wp_X7_isNearOne_53 E l d b G0 Q k q0 q1 x2 x3 x4 q5 s0 G) : zW E l mX7_isNearOne d b G0 Q k 53 [some (.ref q0), some (.ref q1), some (.int x2), some (.int x3), some (.int x4), some (.ref q5), none] [.int s0] G := by
  unfold wp_X7_isNearOne_53 at h
  refine z_istore (pc' := 55) dX7_isNearOne_53 (by decide) rfl ?_
  refine z_iload (pc' := 57) dX7_isNearOne_55 rfl rfl ?_
  refine z_if_eq (pt := 72) (pc' := 60) dX7_isNearOne_57 (by decide) rfl (fun hc => ?_) (fun hc => ?_)
  · have h := h.1 hc
    refine z_iinc (y := x4 + 1) (pc' := 75) dX7_isNearOne_72 rfl (zinc_1 _) (by decide) rfl ?_
    refine z_goto (pc' := 3) dX7_isNearOne_75 (by decide) ?_
    exact z_dr (ls' := [some (.ref q0), some (.ref q1), some (.int x2), some (.int x3), some (.int (x4 + 1)), none, none]) ⟨rfl, rfl, rfl, rfl, rfl, trivial⟩ h
  · have h := h.2 hc
    refine z_aload_n (pc' := 61) dX7_isNearOne_60 rfl rfl ?_
    refine z_aload (pc' := 63) dX7_isNearOne_61 rfl rfl ?_
    obtain ⟨h1, h⟩ := h
    obtain ⟨d1, b1, Qz, hm, hdd, hb, hkx, hk⟩ := h
    refine z_callV (Y := mX8_farFrom) (n := 1) (as := [.ref q5]) (st := []) (pc' := 66) (ci := 9) (q := q1) hm dX7_isNearOne_63 kX7_34 vX8_farFrom rfl rfl (by decide) rfl h1 hdd hb (Nat.le_of_ble_eq_true rfl) (fun r G2 hz => ?_) hkx
    obtain ⟨y1, rfl, h⟩ := hk r G2 hz
    refine z_iload_n (pc' := 67) dX7_isNearOne_66 rfl rfl ?_
    refine z_icmp_gt (pt := 72) (pc' := 70) dX7_isNearOne_67 (by decide) rfl (fun hc => ?_) (fun hc => ?_)
    · have h := h.1 hc
      refine z_iinc (y := x4 + 1) (pc' := 75) dX7_isNearOne_72 rfl (zinc_1 _) (by decide) rfl ?_
      refine z_goto (pc' := 3) dX7_isNearOne_75 (by decide) ?_
      exact z_dr (ls' := [some (.ref q0), some (.ref q1), some (.int x2), some (.int x3), some (.int (x4 + 1)), none, none]) ⟨rfl, rfl, rfl, rfl, rfl, trivial⟩ h
    · have h := h.2 hc
      refine z_iconst (x := 1) (pc' := 71) dX7_isNearOne_70 (by decide) rfl ?_
      exact z_zret (ty := .boolean) dX7_isNearOne_71 rfl (by decide) h
def wp_X8_farFrom_0 (E : ZE) (l : Launch) (d b : Nat) (G0 : ZG) (Q : ZQ) (k : Nat) (q0 : Nat) (q1 : Nat) (G : ZG) : Prop :=
  zW E l mX8_farFrom d b G0 Q k 4 [some (.ref q0), some (.ref q1), some (.int 0), some (.int 0), none] [] G
theorem wpt_X8_farFrom_0 {E : ZE} {l : Launch} {d b : Nat} {G0 : ZG} {Q : ZQ} {k : Nat} {q0 : Nat} {q1 : Nat} {G : ZG} (h : wp_X8_farFrom_0 E l d b G0 Q k q0 q1 G) : zW E l mX8_farFrom d b G0 Q k 0 [some (.ref q0), some (.ref q1), none, none, none] [] G := by
  unfold wp_X8_farFrom_0 at h
  refine z_iconst (x := 0) (pc' := 1) dX8_farFrom_0 (by decide) rfl ?_
  refine z_istore_n (pc' := 2) dX8_farFrom_1 (by decide) rfl ?_
  refine z_iconst (x := 0) (pc' := 3) dX8_farFrom_2 (by decide) rfl ?_
  refine z_istore_n (pc' := 4) dX8_farFrom_3 (by decide) rfl ?_
  exact z_dr (ls' := [some (.ref q0), some (.ref q1), some (.int 0), some (.int 0), none]) ⟨rfl, rfl, rfl, rfl, trivial⟩ h
def wp_X8_farFrom_4 (E : ZE) (l : Launch) (d b : Nat) (G0 : ZG) (Q : ZQ) (k : Nat) (q0 : Nat) (q1 : Nat) (x2 : Int32) (x3 : Int32) (G : ZG) : Prop :=
  zob G q0 9 ∧
  (zar G (zrv G q0 4) 0 ∨ zrd G (zrv G q0 4) .int) ∧
  (((Int32.ofNat (zln G (zrv G q0 4))) ≤ x3 →
    Q (.inl (some (.int x2))) G) ∧
  (¬ ((Int32.ofNat (zln G (zrv G q0 4))) ≤ x3) →
    zob G q1 9 ∧
    (zar G (zrv G q1 4) 0 ∨ zrd G (zrv G q1 4) .int) ∧
    (((Int32.ofNat (zln G (zrv G q1 4))) ≤ x3 →
      Q (.inl (some (.int x2))) G) ∧
    (¬ ((Int32.ofNat (zln G (zrv G q1 4))) ≤ x3) →
      zob G q0 9 ∧
      (zar G (zrv G q0 4) 0 ∨ zrd G (zrv G q0 4) .int) ∧ vp_in x3 (zln G (zrv G q0 4)) ∧
      zob G q1 9 ∧
      (zar G (zrv G q1 4) 0 ∨ zrd G (zrv G q1 4) .int) ∧ vp_in x3 (zln G (zrv G q1 4)) ∧
      zW E l mX8_farFrom d b G0 Q k 4 [some (.ref q0), some (.ref q1), some (.int (x2 + (((ziv G (zrv G q0 4) x3.toNatClampNeg) - (ziv G (zrv G q1 4) x3.toNatClampNeg)) * ((ziv G (zrv G q0 4) x3.toNatClampNeg) - (ziv G (zrv G q1 4) x3.toNatClampNeg))))), some (.int (x3 + 1)), none] [] G))))
theorem wpt_X8_farFrom_4 {E : ZE} {l : Launch} {d b : Nat} {G0 : ZG} {Q : ZQ} {k : Nat} {q0 : Nat} {q1 : Nat} {x2 : Int32} {x3 : Int32} {G : ZG} (h : wp_X8_farFrom_4 E l d b G0 Q k q0 q1 x2 x3 G) : zW E l mX8_farFrom d b G0 Q k 4 [some (.ref q0), some (.ref q1), some (.int x2), some (.int x3), none] [] G := by
  unfold wp_X8_farFrom_4 at h
  refine z_iload_n (pc' := 5) dX8_farFrom_4 rfl rfl ?_
  refine z_aload_n (pc' := 6) dX8_farFrom_5 rfl rfl ?_
  obtain ⟨h1, h⟩ := h
  refine z_getR (ci := 9) (kf := 4) (pc' := 9) dX8_farFrom_6 kX8_30 (Or.inl rfl) (by decide) (by decide) rfl rfl h1 ?_
  obtain ⟨h1, h⟩ := h
  refine z_alen (pc' := 10) dX8_farFrom_9 rfl (h1.imp (fun h => ⟨0, by decide, h⟩) (fun h => ⟨_, h⟩)) rfl ?_
  refine z_icmp_ge (pt := 51) (pc' := 13) dX8_farFrom_10 (by decide) rfl (fun hc => ?_) (fun hc => ?_)
  · have h := h.1 hc
    refine z_iload_n (pc' := 52) dX8_farFrom_51 rfl rfl ?_
    exact z_iret dX8_farFrom_52 rfl h
  · have h := h.2 hc
    refine z_iload_n (pc' := 14) dX8_farFrom_13 rfl rfl ?_
    refine z_aload_n (pc' := 15) dX8_farFrom_14 rfl rfl ?_
    obtain ⟨h1, h⟩ := h
    refine z_getR (ci := 9) (kf := 4) (pc' := 18) dX8_farFrom_15 kX8_30 (Or.inl rfl) (by decide) (by decide) rfl rfl h1 ?_
    obtain ⟨h1, h⟩ := h
    refine z_alen (pc' := 19) dX8_farFrom_18 rfl (h1.imp (fun h => ⟨0, by decide, h⟩) (fun h => ⟨_, h⟩)) rfl ?_
    refine z_icmp_ge (pt := 51) (pc' := 22) dX8_farFrom_19 (by decide) rfl (fun hc => ?_) (fun hc => ?_)
    · have h := h.1 hc
      refine z_iload_n (pc' := 52) dX8_farFrom_51 rfl rfl ?_
      exact z_iret dX8_farFrom_52 rfl h
    · have h := h.2 hc
      refine z_aload_n (pc' := 23) dX8_farFrom_22 rfl rfl ?_
      obtain ⟨h1, h⟩ := h
      refine z_getR (ci := 9) (kf := 4) (pc' := 26) dX8_farFrom_23 kX8_30 (Or.inl rfl) (by decide) (by decide) rfl rfl h1 ?_
      refine z_iload_n (pc' := 27) dX8_farFrom_26 rfl rfl ?_
      obtain ⟨h1, h2, h⟩ := h
      refine z_iald (pc' := 28) dX8_farFrom_27 rfl h1 h2 ?_
      refine z_aload_n (pc' := 29) dX8_farFrom_28 rfl rfl ?_
      obtain ⟨h1, h⟩ := h
      refine z_getR (ci := 9) (kf := 4) (pc' := 32) dX8_farFrom_29 kX8_30 (Or.inl rfl) (by decide) (by decide) rfl rfl h1 ?_
      refine z_iload_n (pc' := 33) dX8_farFrom_32 rfl rfl ?_
      obtain ⟨h1, h2, h⟩ := h
      refine z_iald (pc' := 34) dX8_farFrom_33 rfl h1 h2 ?_
      refine z_isub (pc' := 35) dX8_farFrom_34 rfl rfl ?_
      refine z_istore (pc' := 37) dX8_farFrom_35 (by decide) rfl ?_
      refine z_iload_n (pc' := 38) dX8_farFrom_37 rfl rfl ?_
      refine z_iload (pc' := 40) dX8_farFrom_38 rfl rfl ?_
      refine z_iload (pc' := 42) dX8_farFrom_40 rfl rfl ?_
      refine z_imul (pc' := 43) dX8_farFrom_42 rfl rfl ?_
      refine z_iadd (pc' := 44) dX8_farFrom_43 rfl rfl ?_
      refine z_istore_n (pc' := 45) dX8_farFrom_44 (by decide) rfl ?_
      refine z_iinc (y := x3 + 1) (pc' := 48) dX8_farFrom_45 rfl (zinc_1 _) (by decide) rfl ?_
      refine z_goto (pc' := 4) dX8_farFrom_48 (by decide) ?_
      exact z_dr (ls' := [some (.ref q0), some (.ref q1), some (.int (x2 + (((ziv G (zrv G q0 4) x3.toNatClampNeg) - (ziv G (zrv G q1 4) x3.toNatClampNeg)) * ((ziv G (zrv G q0 4) x3.toNatClampNeg) - (ziv G (zrv G q1 4) x3.toNatClampNeg))))), some (.int (x3 + 1)), none]) ⟨rfl, rfl, rfl, rfl, trivial⟩ h
def wp_X8_init_0 (E : ZE) (l : Launch) (d b : Nat) (G0 : ZG) (Q : ZQ) (k : Nat) (q0 : Nat) (x1 : Int32) (x2 : Int32) (x3 : Int32) (q4 : Nat) (G : ZG) : Prop :=
  zal G q0 ∧ 1 ≤ d ∧
  zob G q0 9 ∧
  ∀ G1, G1 = zsr G q0 3 0 →
  ¬ (80 : Int32) < 0 ∧ (80 : Int32).toNatClampNeg ≤ 67108864 ∧ (80 : Int32).toNatClampNeg + 1 ≤ k ∧ ∃ t2, 1024 ≤ t2 ∧ t2 < 3584 ∧ (t2 - 1024) / 512 = 0 ∧
  ∀ q_3, q_3 = zp t2 (zcn G1 t2) → ∀ G4, G4 = znw G1 t2 (80 : Int32).toNatClampNeg → ∀ k5, k5 = k - ((80 : Int32).toNatClampNeg + 1) →
  zob G4 q0 9 ∧
  ∀ G6, G6 = zsr G4 q0 5 q_3 →
  zob G6 q0 9 ∧
  ∀ G7, G7 = zsi G6 q0 0 x1 →
  zob G7 q0 9 ∧
  ∀ G8, G8 = zsi G7 q0 1 x2 →
  zob G8 q0 9 ∧
  zok .boolean x3 ∧
  ∀ G9, G9 = zsi G8 q0 2 x3 →
  zob G9 q0 9 ∧
  ∀ G10, G10 = zsr G9 q0 4 q4 →
  Q (.inl none) G10
theorem wpt_X8_init_0 {E : ZE} {l : Launch} {d b : Nat} {G0 : ZG} {Q : ZQ} {k : Nat} {q0 : Nat} {x1 : Int32} {x2 : Int32} {x3 : Int32} {q4 : Nat} {G : ZG} (h : wp_X8_init_0 E l d b G0 Q k q0 x1 x2 x3 q4 G) : zW E l mX8_init d b G0 Q k 0 [some (.ref q0), some (.int x1), some (.int x2), some (.int x3), some (.ref q4)] [] G := by
  unfold wp_X8_init_0 at h
  refine z_aload_n (pc' := 1) dX8_init_0 rfl rfl ?_
  obtain ⟨h1, h2, h⟩ := h
  refine z_objInit (pc' := 4) dX8_init_1 kX8_3 o_inst o_code rfl h2 h1 (Nat.le_of_ble_eq_true rfl) ?_
  refine z_aload_n (pc' := 5) dX8_init_4 rfl rfl ?_
  refine z_null (pc' := 6) dX8_init_5 rfl ?_
  obtain ⟨h1, h⟩ := h
  obtain ⟨G1, hG⟩ : ∃ z, z = zsr G q0 3 0 := ⟨_, rfl⟩
  have h := h _ hG
  refine z_putR (ci := 9) (kf := 3) (pc' := 9) dX8_init_6 kX8_9 (Or.inl rfl) (by decide) (by decide) rfl (Or.inl rfl) rfl h1 ?_
  refine z_st hG ?_
  refine z_aload_n (pc' := 10) dX8_init_9 rfl rfl ?_
  refine z_bipush (x := 80) (pc' := 12) dX8_init_10 (by decide) rfl ?_
  obtain ⟨h1, h2, h3, t2, h4, h5, h6, h⟩ := h
  obtain ⟨q_3, hq⟩ : ∃ z, z = zp t2 (zcn G1 t2) := ⟨_, rfl⟩
  obtain ⟨G4, hG⟩ : ∃ z, z = znw G1 t2 (80 : Int32).toNatClampNeg := ⟨_, rfl⟩
  have h := h _ hq _ hG _ rfl
  refine z_newa (t := t2) (kd := 0) (pc' := 14) dX8_init_12 rfl (by decide) a_int rfl h4 h5 h6 h1 rfl h2 h3 ?_
  refine z_mk hq hG ?_
  obtain ⟨h1, h⟩ := h
  obtain ⟨G6, hG⟩ : ∃ z, z = zsr G4 q0 5 q_3 := ⟨_, rfl⟩
  have h := h _ hG
  refine z_putR (ci := 9) (kf := 5) (pc' := 17) dX8_init_14 kX8_15 (Or.inl rfl) (by decide) (by decide) rfl (Or.inr ⟨rfl, rfl⟩) rfl h1 ?_
  refine z_st hG ?_
  refine z_aload_n (pc' := 18) dX8_init_17 rfl rfl ?_
  refine z_iload_n (pc' := 19) dX8_init_18 rfl rfl ?_
  obtain ⟨h1, h⟩ := h
  obtain ⟨G7, hG⟩ : ∃ z, z = zsi G6 q0 0 x1 := ⟨_, rfl⟩
  have h := h _ hG
  refine z_putI (ci := 9) (kf := 0) (pc' := 22) dX8_init_19 kX8_19 (Or.inl rfl) (by decide) (by decide) rfl (Or.inr ⟨rfl, rfl⟩) rfl h1 (zok_int _) ?_
  refine z_st hG ?_
  refine z_aload_n (pc' := 23) dX8_init_22 rfl rfl ?_
  refine z_iload_n (pc' := 24) dX8_init_23 rfl rfl ?_
  obtain ⟨h1, h⟩ := h
  obtain ⟨G8, hG⟩ : ∃ z, z = zsi G7 q0 1 x2 := ⟨_, rfl⟩
  have h := h _ hG
  refine z_putI (ci := 9) (kf := 1) (pc' := 27) dX8_init_24 kX8_23 (Or.inl rfl) (by decide) (by decide) rfl (Or.inr ⟨rfl, rfl⟩) rfl h1 (zok_int _) ?_
  refine z_st hG ?_
  refine z_aload_n (pc' := 28) dX8_init_27 rfl rfl ?_
  refine z_iload_n (pc' := 29) dX8_init_28 rfl rfl ?_
  obtain ⟨h1, h⟩ := h
  obtain ⟨h2, h⟩ := h
  obtain ⟨G9, hG⟩ : ∃ z, z = zsi G8 q0 2 x3 := ⟨_, rfl⟩
  have h := h _ hG
  refine z_putI (ci := 9) (kf := 2) (pc' := 32) dX8_init_29 kX8_26 (Or.inl rfl) (by decide) (by decide) rfl (Or.inr ⟨rfl, rfl⟩) rfl h1 h2 ?_
  refine z_st hG ?_
  refine z_aload_n (pc' := 33) dX8_init_32 rfl rfl ?_
  refine z_aload (pc' := 35) dX8_init_33 rfl rfl ?_
  obtain ⟨h1, h⟩ := h
  obtain ⟨G10, hG⟩ : ∃ z, z = zsr G9 q0 4 q4 := ⟨_, rfl⟩
  have h := h _ hG
  refine z_putR (ci := 9) (kf := 4) (pc' := 38) dX8_init_35 kX8_30 (Or.inl rfl) (by decide) (by decide) rfl (Or.inr ⟨rfl, rfl⟩) rfl h1 ?_
  refine z_st hG ?_
  exact z_vret dX8_init_38 rfl h
def wp_X8_putTold_0 (E : ZE) (l : Launch) (d b : Nat) (G0 : ZG) (Q : ZQ) (k : Nat) (q0 : Nat) (q1 : Nat) (x2 : Int32) (G : ZG) : Prop :=
  zob G q1 9 ∧
  (((ziv G q1 0) < 0 →
    Q (.inl none) G) ∧
  (¬ ((ziv G q1 0) < 0) →
    zob G q1 9 ∧
    zob G q0 9 ∧
    (zar G (zrv G q0 5) 0 ∨ zrd G (zrv G q0 5) .int) ∧
    (((Int32.ofNat (zln G (zrv G q0 5))) ≤ (ziv G q1 0) →
      Q (.inl none) G) ∧
    (¬ ((Int32.ofNat (zln G (zrv G q0 5))) ≤ (ziv G q1 0)) →
      zob G q0 9 ∧
      zob G q1 9 ∧
      zar G (zrv G q0 5) 0 ∧ vp_in (ziv G q1 0) (zln G (zrv G q0 5)) ∧
      ∀ G1, G1 = zsi G (zrv G q0 5) (ziv G q1 0).toNatClampNeg x2 →
      Q (.inl none) G1))))
theorem wpt_X8_putTold_0 {E : ZE} {l : Launch} {d b : Nat} {G0 : ZG} {Q : ZQ} {k : Nat} {q0 : Nat} {q1 : Nat} {x2 : Int32} {G : ZG} (h : wp_X8_putTold_0 E l d b G0 Q k q0 q1 x2 G) : zW E l mX8_putTold d b G0 Q k 0 [some (.ref q0), some (.ref q1), some (.int x2)] [] G := by
  unfold wp_X8_putTold_0 at h
  refine z_aload_n (pc' := 1) dX8_putTold_0 rfl rfl ?_
  obtain ⟨h1, h⟩ := h
  refine z_getI (ci := 9) (kf := 0) (pc' := 4) dX8_putTold_1 kX8_19 (Or.inl rfl) (by decide) (by decide) rfl rfl h1 ?_
  refine z_if_lt (pt := 29) (pc' := 7) dX8_putTold_4 (by decide) rfl (fun hc => ?_) (fun hc => ?_)
  · have h := h.1 hc
    exact z_vret dX8_putTold_29 rfl h
  · have h := h.2 hc
    refine z_aload_n (pc' := 8) dX8_putTold_7 rfl rfl ?_
    obtain ⟨h1, h⟩ := h
    refine z_getI (ci := 9) (kf := 0) (pc' := 11) dX8_putTold_8 kX8_19 (Or.inl rfl) (by decide) (by decide) rfl rfl h1 ?_
    refine z_aload_n (pc' := 12) dX8_putTold_11 rfl rfl ?_
    obtain ⟨h1, h⟩ := h
    refine z_getR (ci := 9) (kf := 5) (pc' := 15) dX8_putTold_12 kX8_15 (Or.inl rfl) (by decide) (by decide) rfl rfl h1 ?_
    obtain ⟨h1, h⟩ := h
    refine z_alen (pc' := 16) dX8_putTold_15 rfl (h1.imp (fun h => ⟨0, by decide, h⟩) (fun h => ⟨_, h⟩)) rfl ?_
    refine z_icmp_ge (pt := 29) (pc' := 19) dX8_putTold_16 (by decide) rfl (fun hc => ?_) (fun hc => ?_)
    · have h := h.1 hc
      exact z_vret dX8_putTold_29 rfl h
    · have h := h.2 hc
      refine z_aload_n (pc' := 20) dX8_putTold_19 rfl rfl ?_
      obtain ⟨h1, h⟩ := h
      refine z_getR (ci := 9) (kf := 5) (pc' := 23) dX8_putTold_20 kX8_15 (Or.inl rfl) (by decide) (by decide) rfl rfl h1 ?_
      refine z_aload_n (pc' := 24) dX8_putTold_23 rfl rfl ?_
      obtain ⟨h1, h⟩ := h
      refine z_getI (ci := 9) (kf := 0) (pc' := 27) dX8_putTold_24 kX8_19 (Or.inl rfl) (by decide) (by decide) rfl rfl h1 ?_
      refine z_iload_n (pc' := 28) dX8_putTold_27 rfl rfl ?_
      obtain ⟨h1, h2, h⟩ := h
      obtain ⟨G1, hG⟩ : ∃ z, z = zsi G (zrv G q0 5) (ziv G q1 0).toNatClampNeg x2 := ⟨_, rfl⟩
      have h := h _ hG
      refine z_iast (pc' := 29) dX8_putTold_28 rfl h1 h2  ?_
      refine z_st hG ?_
      exact z_vret dX8_putTold_29 rfl h
def wp_X8_toldWith_0 (E : ZE) (l : Launch) (d b : Nat) (G0 : ZG) (Q : ZQ) (k : Nat) (q0 : Nat) (q1 : Nat) (G : ZG) : Prop :=
  zob G q1 9 ∧
  (((ziv G q1 0) < 0 →
    (((0 : Int32) = 0 →
      Q (.inl (some (.int 0))) G) ∧
    (¬ ((0 : Int32) = 0) →
      zob G q0 9 ∧
      zob G q1 9 ∧
      (zar G (zrv G q0 5) 0 ∨ zrd G (zrv G q0 5) .int) ∧ vp_in (ziv G q1 0) (zln G (zrv G q0 5)) ∧
      Q (.inl (some (.int (ziv G (zrv G q0 5) (ziv G q1 0).toNatClampNeg)))) G))) ∧
  (¬ ((ziv G q1 0) < 0) →
    zob G q1 9 ∧
    zob G q0 9 ∧
    (zar G (zrv G q0 5) 0 ∨ zrd G (zrv G q0 5) .int) ∧
    (((Int32.ofNat (zln G (zrv G q0 5))) ≤ (ziv G q1 0) →
      (((0 : Int32) = 0 →
        Q (.inl (some (.int 0))) G) ∧
      (¬ ((0 : Int32) = 0) →
        zob G q0 9 ∧
        zob G q1 9 ∧
        (zar G (zrv G q0 5) 0 ∨ zrd G (zrv G q0 5) .int) ∧ vp_in (ziv G q1 0) (zln G (zrv G q0 5)) ∧
        Q (.inl (some (.int (ziv G (zrv G q0 5) (ziv G q1 0).toNatClampNeg)))) G))) ∧
    (¬ ((Int32.ofNat (zln G (zrv G q0 5))) ≤ (ziv G q1 0)) →
      (((1 : Int32) = 0 →
        Q (.inl (some (.int 0))) G) ∧
      (¬ ((1 : Int32) = 0) →
        zob G q0 9 ∧
        zob G q1 9 ∧
        (zar G (zrv G q0 5) 0 ∨ zrd G (zrv G q0 5) .int) ∧ vp_in (ziv G q1 0) (zln G (zrv G q0 5)) ∧
        Q (.inl (some (.int (ziv G (zrv G q0 5) (ziv G q1 0).toNatClampNeg)))) G))))))
theorem wpt_X8_toldWith_0 {E : ZE} {l : Launch} {d b : Nat} {G0 : ZG} {Q : ZQ} {k : Nat} {q0 : Nat} {q1 : Nat} {G : ZG} (h : wp_X8_toldWith_0 E l d b G0 Q k q0 q1 G) : zW E l mX8_toldWith d b G0 Q k 0 [some (.ref q0), some (.ref q1), none] [] G := by
  unfold wp_X8_toldWith_0 at h
  refine z_aload_n (pc' := 1) dX8_toldWith_0 rfl rfl ?_
  obtain ⟨h1, h⟩ := h
  refine z_getI (ci := 9) (kf := 0) (pc' := 4) dX8_toldWith_1 kX8_19 (Or.inl rfl) (by decide) (by decide) rfl rfl h1 ?_
  refine z_if_lt (pt := 23) (pc' := 7) dX8_toldWith_4 (by decide) rfl (fun hc => ?_) (fun hc => ?_)
  · have h := h.1 hc
    refine z_iconst (x := 0) (pc' := 24) dX8_toldWith_23 (by decide) rfl ?_
    refine z_istore_n (pc' := 25) dX8_toldWith_24 (by decide) rfl ?_
    refine z_iload_n (pc' := 26) dX8_toldWith_25 rfl rfl ?_
    refine z_if_eq (pt := 41) (pc' := 29) dX8_toldWith_26 (by decide) rfl (fun hc => ?_) (fun hc => ?_)
    · have h := h.1 hc
      refine z_iconst (x := 0) (pc' := 42) dX8_toldWith_41 (by decide) rfl ?_
      exact z_iret dX8_toldWith_42 rfl h
    · have h := h.2 hc
      refine z_aload_n (pc' := 30) dX8_toldWith_29 rfl rfl ?_
      obtain ⟨h1, h⟩ := h
      refine z_getR (ci := 9) (kf := 5) (pc' := 33) dX8_toldWith_30 kX8_15 (Or.inl rfl) (by decide) (by decide) rfl rfl h1 ?_
      refine z_aload_n (pc' := 34) dX8_toldWith_33 rfl rfl ?_
      obtain ⟨h1, h⟩ := h
      refine z_getI (ci := 9) (kf := 0) (pc' := 37) dX8_toldWith_34 kX8_19 (Or.inl rfl) (by decide) (by decide) rfl rfl h1 ?_
      obtain ⟨h1, h2, h⟩ := h
      refine z_iald (pc' := 38) dX8_toldWith_37 rfl h1 h2 ?_
      refine z_goto (pc' := 42) dX8_toldWith_38 (by decide) ?_
      exact z_iret dX8_toldWith_42 rfl h
  · have h := h.2 hc
    refine z_aload_n (pc' := 8) dX8_toldWith_7 rfl rfl ?_
    obtain ⟨h1, h⟩ := h
    refine z_getI (ci := 9) (kf := 0) (pc' := 11) dX8_toldWith_8 kX8_19 (Or.inl rfl) (by decide) (by decide) rfl rfl h1 ?_
    refine z_aload_n (pc' := 12) dX8_toldWith_11 rfl rfl ?_
    obtain ⟨h1, h⟩ := h
    refine z_getR (ci := 9) (kf := 5) (pc' := 15) dX8_toldWith_12 kX8_15 (Or.inl rfl) (by decide) (by decide) rfl rfl h1 ?_
    obtain ⟨h1, h⟩ := h
    refine z_alen (pc' := 16) dX8_toldWith_15 rfl (h1.imp (fun h => ⟨0, by decide, h⟩) (fun h => ⟨_, h⟩)) rfl ?_
    refine z_icmp_ge (pt := 23) (pc' := 19) dX8_toldWith_16 (by decide) rfl (fun hc => ?_) (fun hc => ?_)
    · have h := h.1 hc
      refine z_iconst (x := 0) (pc' := 24) dX8_toldWith_23 (by decide) rfl ?_
      refine z_istore_n (pc' := 25) dX8_toldWith_24 (by decide) rfl ?_
      refine z_iload_n (pc' := 26) dX8_toldWith_25 rfl rfl ?_
      refine z_if_eq (pt := 41) (pc' := 29) dX8_toldWith_26 (by decide) rfl (fun hc => ?_) (fun hc => ?_)
      · have h := h.1 hc
        refine z_iconst (x := 0) (pc' := 42) dX8_toldWith_41 (by decide) rfl ?_
        exact z_iret dX8_toldWith_42 rfl h
      · have h := h.2 hc
        refine z_aload_n (pc' := 30) dX8_toldWith_29 rfl rfl ?_
        obtain ⟨h1, h⟩ := h
        refine z_getR (ci := 9) (kf := 5) (pc' := 33) dX8_toldWith_30 kX8_15 (Or.inl rfl) (by decide) (by decide) rfl rfl h1 ?_
        refine z_aload_n (pc' := 34) dX8_toldWith_33 rfl rfl ?_
        obtain ⟨h1, h⟩ := h
        refine z_getI (ci := 9) (kf := 0) (pc' := 37) dX8_toldWith_34 kX8_19 (Or.inl rfl) (by decide) (by decide) rfl rfl h1 ?_
        obtain ⟨h1, h2, h⟩ := h
        refine z_iald (pc' := 38) dX8_toldWith_37 rfl h1 h2 ?_
        refine z_goto (pc' := 42) dX8_toldWith_38 (by decide) ?_
        exact z_iret dX8_toldWith_42 rfl h
    · have h := h.2 hc
      refine z_iconst (x := 1) (pc' := 20) dX8_toldWith_19 (by decide) rfl ?_
      refine z_goto (pc' := 24) dX8_toldWith_20 (by decide) ?_
      refine z_istore_n (pc' := 25) dX8_toldWith_24 (by decide) rfl ?_
      refine z_iload_n (pc' := 26) dX8_toldWith_25 rfl rfl ?_
      refine z_if_eq (pt := 41) (pc' := 29) dX8_toldWith_26 (by decide) rfl (fun hc => ?_) (fun hc => ?_)
      · have h := h.1 hc
        refine z_iconst (x := 0) (pc' := 42) dX8_toldWith_41 (by decide) rfl ?_
        exact z_iret dX8_toldWith_42 rfl h
      · have h := h.2 hc
        refine z_aload_n (pc' := 30) dX8_toldWith_29 rfl rfl ?_
        obtain ⟨h1, h⟩ := h
        refine z_getR (ci := 9) (kf := 5) (pc' := 33) dX8_toldWith_30 kX8_15 (Or.inl rfl) (by decide) (by decide) rfl rfl h1 ?_
        refine z_aload_n (pc' := 34) dX8_toldWith_33 rfl rfl ?_
        obtain ⟨h1, h⟩ := h
        refine z_getI (ci := 9) (kf := 0) (pc' := 37) dX8_toldWith_34 kX8_19 (Or.inl rfl) (by decide) (by decide) rfl rfl h1 ?_
        obtain ⟨h1, h2, h⟩ := h
        refine z_iald (pc' := 38) dX8_toldWith_37 rfl h1 h2 ?_
        refine z_goto (pc' := 42) dX8_toldWith_38 (by decide) ?_
        exact z_iret dX8_toldWith_42 rfl h
def wp_X9_init_0 (E : ZE) (l : Launch) (d b : Nat) (G0 : ZG) (Q : ZQ) (k : Nat) (q0 : Nat) (G : ZG) : Prop :=
  zal G q0 ∧ 1 ≤ d ∧
  zob G q0 10 ∧
  ∀ G1, G1 = zsi G q0 0 20 →
  zob G1 q0 10 ∧
  ∀ G2, G2 = zsi G1 q0 1 30 →
  zob G2 q0 10 ∧
  ∀ G3, G3 = zsi G2 q0 2 10 →
  zob G3 q0 10 ∧
  ∀ G4, G4 = zsi G3 q0 3 2 →
  zob G4 q0 10 ∧
  ∀ G5, G5 = zsi G4 q0 4 9 →
  zob G5 q0 10 ∧
  ∀ G6, G6 = zsi G5 q0 5 1 →
  zob G6 q0 10 ∧
  ∀ G7, G7 = zsi G6 q0 6 0 →
  Q (.inl none) G7
theorem wpt_X9_init_0 {E : ZE} {l : Launch} {d b : Nat} {G0 : ZG} {Q : ZQ} {k : Nat} {q0 : Nat} {G : ZG} (h : wp_X9_init_0 E l d b G0 Q k q0 G) : zW E l mX9_init d b G0 Q k 0 [some (.ref q0)] [] G := by
  unfold wp_X9_init_0 at h
  refine z_aload_n (pc' := 1) dX9_init_0 rfl rfl ?_
  obtain ⟨h1, h2, h⟩ := h
  refine z_objInit (pc' := 4) dX9_init_1 kX9_1 o_inst o_code rfl h2 h1 (Nat.le_of_ble_eq_true rfl) ?_
  refine z_aload_n (pc' := 5) dX9_init_4 rfl rfl ?_
  refine z_bipush (x := 20) (pc' := 7) dX9_init_5 (by decide) rfl ?_
  obtain ⟨h1, h⟩ := h
  obtain ⟨G1, hG⟩ : ∃ z, z = zsi G q0 0 20 := ⟨_, rfl⟩
  have h := h _ hG
  refine z_putI (ci := 10) (kf := 0) (pc' := 10) dX9_init_7 kX9_7 (Or.inl rfl) (by decide) (by decide) rfl (Or.inl rfl) rfl h1 (zok_int _) ?_
  refine z_st hG ?_
  refine z_aload_n (pc' := 11) dX9_init_10 rfl rfl ?_
  refine z_bipush (x := 30) (pc' := 13) dX9_init_11 (by decide) rfl ?_
  obtain ⟨h1, h⟩ := h
  obtain ⟨G2, hG⟩ : ∃ z, z = zsi G1 q0 1 30 := ⟨_, rfl⟩
  have h := h _ hG
  refine z_putI (ci := 10) (kf := 1) (pc' := 16) dX9_init_13 kX9_13 (Or.inl rfl) (by decide) (by decide) rfl (Or.inl rfl) rfl h1 (zok_int _) ?_
  refine z_st hG ?_
  refine z_aload_n (pc' := 17) dX9_init_16 rfl rfl ?_
  refine z_bipush (x := 10) (pc' := 19) dX9_init_17 (by decide) rfl ?_
  obtain ⟨h1, h⟩ := h
  obtain ⟨G3, hG⟩ : ∃ z, z = zsi G2 q0 2 10 := ⟨_, rfl⟩
  have h := h _ hG
  refine z_putI (ci := 10) (kf := 2) (pc' := 22) dX9_init_19 kX9_16 (Or.inl rfl) (by decide) (by decide) rfl (Or.inl rfl) rfl h1 (zok_int _) ?_
  refine z_st hG ?_
  refine z_aload_n (pc' := 23) dX9_init_22 rfl rfl ?_
  refine z_iconst (x := 2) (pc' := 24) dX9_init_23 (by decide) rfl ?_
  obtain ⟨h1, h⟩ := h
  obtain ⟨G4, hG⟩ : ∃ z, z = zsi G3 q0 3 2 := ⟨_, rfl⟩
  have h := h _ hG
  refine z_putI (ci := 10) (kf := 3) (pc' := 27) dX9_init_24 kX9_19 (Or.inl rfl) (by decide) (by decide) rfl (Or.inl rfl) rfl h1 (zok_int _) ?_
  refine z_st hG ?_
  refine z_aload_n (pc' := 28) dX9_init_27 rfl rfl ?_
  refine z_bipush (x := 9) (pc' := 30) dX9_init_28 (by decide) rfl ?_
  obtain ⟨h1, h⟩ := h
  obtain ⟨G5, hG⟩ : ∃ z, z = zsi G4 q0 4 9 := ⟨_, rfl⟩
  have h := h _ hG
  refine z_putI (ci := 10) (kf := 4) (pc' := 33) dX9_init_30 kX9_22 (Or.inl rfl) (by decide) (by decide) rfl (Or.inl rfl) rfl h1 (zok_int _) ?_
  refine z_st hG ?_
  refine z_aload_n (pc' := 34) dX9_init_33 rfl rfl ?_
  refine z_iconst (x := 1) (pc' := 35) dX9_init_34 (by decide) rfl ?_
  obtain ⟨h1, h⟩ := h
  obtain ⟨G6, hG⟩ : ∃ z, z = zsi G5 q0 5 1 := ⟨_, rfl⟩
  have h := h _ hG
  refine z_putI (ci := 10) (kf := 5) (pc' := 38) dX9_init_35 kX9_25 (Or.inl rfl) (by decide) (by decide) rfl (Or.inl rfl) rfl h1 (zok_int _) ?_
  refine z_st hG ?_
  refine z_aload_n (pc' := 39) dX9_init_38 rfl rfl ?_
  refine z_iconst (x := 0) (pc' := 40) dX9_init_39 (by decide) rfl ?_
  obtain ⟨h1, h⟩ := h
  obtain ⟨G7, hG⟩ : ∃ z, z = zsi G6 q0 6 0 := ⟨_, rfl⟩
  have h := h _ hG
  refine z_putI (ci := 10) (kf := 6) (pc' := 43) dX9_init_40 kX9_28 (Or.inl rfl) (by decide) (by decide) rfl (Or.inl rfl) rfl h1 (zok_int _) ?_
  refine z_st hG ?_
  exact z_vret dX9_init_43 rfl h
