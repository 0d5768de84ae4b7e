/-! what the methods come to -/
def wp_X5_firstWrong_0 (E : ZE) (l : Launch) (d b : Nat) (G0 : ZG) (Q : ZQ) (k : Nat) (q0 : Nat) (G : ZG) : Prop :=
  zW E l mX5_firstWrong d b G0 Q k 4 [some (.ref q0), some (.int 1), some (.int 0), none] [] G
theorem wpt_X5_firstWrong_0 {E : ZE} {l : Launch} {d b : Nat} {G0 : ZG} {Q : ZQ} {k : Nat} {q0 : Nat} {G : ZG} (h : wp_X5_firstWrong_0 E l d b G0 Q k q0 G) : zW E l mX5_firstWrong d b G0 Q k 0 [some (.ref q0), none, none, none] [] G := by
  unfold wp_X5_firstWrong_0 at h
  refine z_iconst (x := 1) (pc' := 1) dX5_firstWrong_0 (by decide) rfl ?_
  refine z_istore_n (pc' := 2) dX5_firstWrong_1 (by decide) rfl ?_
  refine z_iconst (x := 0) (pc' := 3) dX5_firstWrong_2 (by decide) rfl ?_
  refine z_istore_n (pc' := 4) dX5_firstWrong_3 (by decide) rfl ?_
  exact z_dr (ls' := [some (.ref q0), some (.int 1), some (.int 0), none]) ⟨rfl, rfl, rfl, trivial⟩ h
def wp_X5_firstWrong_4 (E : ZE) (l : Launch) (d b : Nat) (G0 : ZG) (Q : ZQ) (k : Nat) (q0 : Nat) (x1 : Int32) (x2 : Int32) (G : ZG) : Prop :=
  (zar G q0 0 ∨ zrd G q0 .int) ∧
  (((Int32.ofNat (zln G q0)) ≤ x2 →
    ((x1 = 0 →
      Q (.inl (some (.int (-1)))) G) ∧
    (¬ (x1 = 0) →
      (zar G q0 0 ∨ zrd G q0 .int) ∧
      Q (.inl (some (.int (Int32.ofNat (zln G q0))))) G))) ∧
  (¬ ((Int32.ofNat (zln G q0)) ≤ x2) →
    (zar G q0 0 ∨ zrd G q0 .int) ∧ vp_in x2 (zln G q0) ∧
    xcI E l mX5_isGap d [.int (ziv G q0 x2.toNatClampNeg)] G k (fun X G9 => Q (.inr X) G9) (fun y1 G2 k3 =>
    ((24 ≤ x2 →
      Q (.inl (some (.int x2))) G2) ∧
    (¬ (24 ≤ x2) →
      ((y1 = 0 →
        zW E l mX5_firstWrong d b G0 Q k3 33 [some (.ref q0), none, some (.int x2), some (.int y1)] [] G2) ∧
      (¬ (y1 = 0) →
        ((x1 = 0 →
          zW E l mX5_firstWrong d b G0 Q k3 33 [some (.ref q0), none, some (.int x2), some (.int y1)] [] G2) ∧
        (¬ (x1 = 0) →
          Q (.inl (some (.int x2))) G2)))))))))
theorem wpt_X5_firstWrong_4 {E : ZE} {l : Launch} {d b : Nat} {G0 : ZG} {Q : ZQ} {k : Nat} {q0 : Nat} {x1 : Int32} {x2 : Int32} {G : ZG} (h : wp_X5_firstWrong_4 E l d b G0 Q k q0 x1 x2 G) : zW E l mX5_firstWrong d b G0 Q k 4 [some (.ref q0), some (.int x1), some (.int x2), none] [] G := by
  unfold wp_X5_firstWrong_4 at h
  refine z_iload_n (pc' := 5) dX5_firstWrong_4 rfl rfl ?_
  refine z_aload_n (pc' := 6) dX5_firstWrong_5 rfl rfl ?_
  obtain ⟨h1, h⟩ := h
  refine z_alen (pc' := 7) dX5_firstWrong_6 rfl (h1.imp (fun h => ⟨0, by decide, h⟩) (fun h => ⟨_, h⟩)) rfl ?_
  refine z_icmp_ge (pt := 66) (pc' := 10) dX5_firstWrong_7 (by decide) rfl (fun hc => ?_) (fun hc => ?_)
  · have h := h.1 hc
    refine z_iload_n (pc' := 67) dX5_firstWrong_66 rfl rfl ?_
    refine z_if_eq (pt := 75) (pc' := 70) dX5_firstWrong_67 (by decide) rfl (fun hc => ?_) (fun hc => ?_)
    · have h := h.1 hc
      refine z_iconst (x := (-1)) (pc' := 76) dX5_firstWrong_75 (by decide) rfl ?_
      exact z_iret dX5_firstWrong_76 rfl h
    · have h := h.2 hc
      refine z_aload_n (pc' := 71) dX5_firstWrong_70 rfl rfl ?_
      obtain ⟨h1, h⟩ := h
      refine z_alen (pc' := 72) dX5_firstWrong_71 rfl (h1.imp (fun h => ⟨0, by decide, h⟩) (fun h => ⟨_, h⟩)) rfl ?_
      refine z_goto (pc' := 76) dX5_firstWrong_72 (by decide) ?_
      exact z_iret dX5_firstWrong_76 rfl h
  · have h := h.2 hc
    refine z_aload_n (pc' := 11) dX5_firstWrong_10 rfl rfl ?_
    refine z_iload_n (pc' := 12) dX5_firstWrong_11 rfl rfl ?_
    obtain ⟨h1, h2, h⟩ := h
    refine z_iald (pc' := 13) dX5_firstWrong_12 rfl h1 h2 ?_
    obtain ⟨d1, b1, Qz, hm, hdd, hb, hkx, hk⟩ := h
    refine z_callS (Y := mX5_isGap) (n := 1) (as := [.int (ziv G q0 x2.toNatClampNeg)]) (st := []) (pc' := 16) hm dX5_firstWrong_13 kX5_29 sX5_isGap rfl rfl hdd hb (Nat.le_of_ble_eq_true rfl) (fun r G2 hz => ?_) hkx
    obtain ⟨y1, rfl, h⟩ := hk r G2 hz
    refine z_istore_n (pc' := 17) dX5_firstWrong_16 (by decide) rfl ?_
    refine z_iload_n (pc' := 18) dX5_firstWrong_17 rfl rfl ?_
    refine z_bipush (x := 24) (pc' := 20) dX5_firstWrong_18 (by decide) rfl ?_
    refine z_icmp_ge (pt := 31) (pc' := 23) dX5_firstWrong_20 (by decide) rfl (fun hc => ?_) (fun hc => ?_)
    · have h := h.1 hc
      refine z_iload_n (pc' := 32) dX5_firstWrong_31 rfl rfl ?_
      exact z_iret dX5_firstWrong_32 rfl h
    · have h := h.2 hc
      refine z_iload_n (pc' := 24) dX5_firstWrong_23 rfl rfl ?_
      refine z_if_eq (pt := 33) (pc' := 27) dX5_firstWrong_24 (by decide) rfl (fun hc => ?_) (fun hc => ?_)
      · have h := h.1 hc
        exact z_dr (ls' := [some (.ref q0), none, some (.int x2), some (.int y1)]) ⟨rfl, rfl, rfl, trivial⟩ h
      · have h := h.2 hc
        refine z_iload_n (pc' := 28) dX5_firstWrong_27 rfl rfl ?_
        refine z_if_eq (pt := 33) (pc' := 31) dX5_firstWrong_28 (by decide) rfl (fun hc => ?_) (fun hc => ?_)
        · have h := h.1 hc
          exact z_dr (ls' := [some (.ref q0), none, some (.int x2), some (.int y1)]) ⟨rfl, rfl, rfl, trivial⟩ h
        · have h := h.2 hc
          refine z_iload_n (pc' := 32) dX5_firstWrong_31 rfl rfl ?_
          exact z_iret dX5_firstWrong_32 rfl h
def wp_X5_firstWrong_33 (E : ZE) (l : Launch) (d b : Nat) (G0 : ZG) (Q : ZQ) (k : Nat) (q0 : Nat) (x2 : Int32) (x3 : Int32) (G : ZG) : Prop :=
  ((¬ x3 = 0 →
    zW E l mX5_firstWrong d b G0 Q k 4 [some (.ref q0), some (.int x3), some (.int (x2 + 1)), none] [] G) ∧
  (¬ (¬ x3 = 0) →
    (zar G q0 0 ∨ zrd G q0 .int) ∧ vp_in x2 (zln G q0) ∧
    xcI E l mX5_isLetter d [.int (ziv G q0 x2.toNatClampNeg)] G k (fun X G9 => Q (.inr X) G9) (fun y1 G2 k3 =>
    ((¬ y1 = 0 →
      zW E l mX5_firstWrong d b G0 Q k3 4 [some (.ref q0), some (.int x3), some (.int (x2 + 1)), none] [] G2) ∧
    (¬ (¬ y1 = 0) →
      (zar G2 q0 0 ∨ zrd G2 q0 .int) ∧ vp_in x2 (zln G2 q0) ∧
      xcI E l mX5_markedNumber d [.int (ziv G2 q0 x2.toNatClampNeg)] G2 k3 (fun X G9 => Q (.inr X) G9) (fun y4 G5 k6 =>
      ((¬ y4 = (-1) →
        zW E l mX5_firstWrong d b G0 Q k6 4 [some (.ref q0), some (.int x3), some (.int (x2 + 1)), none] [] G5) ∧
      (¬ (¬ y4 = (-1)) →
        Q (.inl (some (.int x2))) G5))))))))
theorem wpt_X5_firstWrong_33 {E : ZE} {l : Launch} {d b : Nat} {G0 : ZG} {Q : ZQ} {k : Nat} {q0 : Nat} {x2 : Int32} {x3 : Int32} {G : ZG} (h : wp_X5_firstWrong_33 E l d b G0 Q k q0 x2 x3 G) : zW E l mX5_firstWrong d b G0 Q k 33 [some (.ref q0), none, some (.int x2), some (.int x3)] [] G := by
  unfold wp_X5_firstWrong_33 at h
  refine z_iload_n (pc' := 34) dX5_firstWrong_33 rfl rfl ?_
  refine z_if_ne (pt := 58) (pc' := 37) dX5_firstWrong_34 (by decide) rfl (fun hc => ?_) (fun hc => ?_)
  · have h := h.1 hc
    refine z_iload_n (pc' := 59) dX5_firstWrong_58 rfl rfl ?_
    refine z_istore_n (pc' := 60) dX5_firstWrong_59 (by decide) rfl ?_
    refine z_iinc (y := x2 + 1) (pc' := 63) dX5_firstWrong_60 rfl (zinc_1 _) (by decide) rfl ?_
    refine z_goto (pc' := 4) dX5_firstWrong_63 (by decide) ?_
    exact z_dr (ls' := [some (.ref q0), some (.int x3), some (.int (x2 + 1)), none]) ⟨rfl, rfl, rfl, trivial⟩ h
  · have h := h.2 hc
    refine z_aload_n (pc' := 38) dX5_firstWrong_37 rfl rfl ?_
    refine z_iload_n (pc' := 39) dX5_firstWrong_38 rfl rfl ?_
    obtain ⟨h1, h2, h⟩ := h
    refine z_iald (pc' := 40) dX5_firstWrong_39 rfl h1 h2 ?_
    obtain ⟨d1, b1, Qz, hm, hdd, hb, hkx, hk⟩ := h
    refine z_callS (Y := mX5_isLetter) (n := 1) (as := [.int (ziv G q0 x2.toNatClampNeg)]) (st := []) (pc' := 43) hm dX5_firstWrong_40 kX5_33 sX5_isLetter rfl rfl hdd hb (Nat.le_of_ble_eq_true rfl) (fun r G2 hz => ?_) hkx
    obtain ⟨y1, rfl, h⟩ := hk r G2 hz
    refine z_if_ne (pt := 58) (pc' := 46) dX5_firstWrong_43 (by decide) rfl (fun hc => ?_) (fun hc => ?_)
    · have h := h.1 hc
      refine z_iload_n (pc' := 59) dX5_firstWrong_58 rfl rfl ?_
      refine z_istore_n (pc' := 60) dX5_firstWrong_59 (by decide) rfl ?_
      refine z_iinc (y := x2 + 1) (pc' := 63) dX5_firstWrong_60 rfl (zinc_1 _) (by decide) rfl ?_
      refine z_goto (pc' := 4) dX5_firstWrong_63 (by decide) ?_
      exact z_dr (ls' := [some (.ref q0), some (.int x3), some (.int (x2 + 1)), none]) ⟨rfl, rfl, rfl, trivial⟩ h
    · have h := h.2 hc
      refine z_aload_n (pc' := 47) dX5_firstWrong_46 rfl rfl ?_
      refine z_iload_n (pc' := 48) dX5_firstWrong_47 rfl rfl ?_
      obtain ⟨h1, h2, h⟩ := h
      refine z_iald (pc' := 49) dX5_firstWrong_48 rfl h1 h2 ?_
      obtain ⟨d1, b1, Qz, hm, hdd, hb, hkx, hk⟩ := h
      refine z_callS (Y := mX5_markedNumber) (n := 1) (as := [.int (ziv G2 q0 x2.toNatClampNeg)]) (st := []) (pc' := 52) hm dX5_firstWrong_49 kX5_36 sX5_markedNumber rfl rfl hdd hb (Nat.le_of_ble_eq_true rfl) (fun r G5 hz => ?_) hkx
      obtain ⟨y4, rfl, h⟩ := hk r G5 hz
      refine z_iconst (x := (-1)) (pc' := 53) dX5_firstWrong_52 (by decide) rfl ?_
      refine z_icmp_ne (pt := 58) (pc' := 56) dX5_firstWrong_53 (by decide) rfl (fun hc => ?_) (fun hc => ?_)
      · have h := h.1 hc
        refine z_iload_n (pc' := 59) dX5_firstWrong_58 rfl rfl ?_
        refine z_istore_n (pc' := 60) dX5_firstWrong_59 (by decide) rfl ?_
        refine z_iinc (y := x2 + 1) (pc' := 63) dX5_firstWrong_60 rfl (zinc_1 _) (by decide) rfl ?_
        refine z_goto (pc' := 4) dX5_firstWrong_63 (by decide) ?_
        exact z_dr (ls' := [some (.ref q0), some (.int x3), some (.int (x2 + 1)), none]) ⟨rfl, rfl, rfl, trivial⟩ h
      · have h := h.2 hc
        refine z_iload_n (pc' := 57) dX5_firstWrong_56 rfl rfl ?_
        exact z_iret dX5_firstWrong_57 rfl h
def wp_X5_init_0 (E : ZE) (l : Launch) (d b : Nat) (G0 : ZG) (Q : ZQ) (k : Nat) (q0 : Nat) (q1 : Nat) (G : ZG) : Prop :=
  zal G q0 ∧ 1 ≤ d ∧
  ¬ (24 : Int32) < 0 ∧ (24 : Int32).toNatClampNeg ≤ 67108864 ∧ (24 : Int32).toNatClampNeg + 1 ≤ k ∧ ∃ t1, 1024 ≤ t1 ∧ t1 < 3584 ∧ (t1 - 1024) / 512 = 0 ∧
  ∀ q_2, q_2 = zp t1 (zcn G t1) → ∀ G3, G3 = znw G t1 (24 : Int32).toNatClampNeg → ∀ k4, k4 = k - ((24 : Int32).toNatClampNeg + 1) →
  zob G3 q0 6 ∧
  ∀ G5, G5 = zsr G3 q0 0 q_2 →
  zob G5 q0 6 ∧
  ∀ G6, G6 = zsi G5 q0 1 0 →
  zob G6 q0 6 ∧
  xcV E l mJ7_fill_53178 d [.ref (zrv G6 q0 0), .int 60] G6 k4 (fun X G9 => Q (.inr X) G9) (fun G7 k8 =>
  zW E l mX5_init d b G0 Q k8 28 [some (.ref q0), some (.ref q1), some (.int 0)] [] G7)
theorem wpt_X5_init_0 {E : ZE} {l : Launch} {d b : Nat} {G0 : ZG} {Q : ZQ} {k : Nat} {q0 : Nat} {q1 : Nat} {G : ZG} (h : wp_X5_init_0 E l d b G0 Q k q0 q1 G) : zW E l mX5_init d b G0 Q k 0 [some (.ref q0), some (.ref q1), none] [] G := by
  unfold wp_X5_init_0 at h
  refine z_aload_n (pc' := 1) dX5_init_0 rfl rfl ?_
  obtain ⟨h1, h2, h⟩ := h
  refine z_objInit (pc' := 4) dX5_init_1 kX5_3 o_inst o_code rfl h2 h1 (Nat.le_of_ble_eq_true rfl) ?_
  refine z_aload_n (pc' := 5) dX5_init_4 rfl rfl ?_
  refine z_bipush (x := 24) (pc' := 7) dX5_init_5 (by decide) rfl ?_
  obtain ⟨h1, h2, h3, t1, h4, h5, h6, h⟩ := h
  obtain ⟨q_2, hq⟩ : ∃ z, z = zp t1 (zcn G t1) := ⟨_, rfl⟩
  obtain ⟨G3, hG⟩ : ∃ z, z = znw G t1 (24 : Int32).toNatClampNeg := ⟨_, rfl⟩
  have h := h _ hq _ hG _ rfl
  refine z_newa (t := t1) (kd := 0) (pc' := 9) dX5_init_7 rfl (by decide) a_int rfl h4 h5 h6 h1 rfl h2 h3 ?_
  refine z_mk hq hG ?_
  obtain ⟨h1, h⟩ := h
  obtain ⟨G5, hG⟩ : ∃ z, z = zsr G3 q0 0 q_2 := ⟨_, rfl⟩
  have h := h _ hG
  refine z_putR (ci := 6) (kf := 0) (pc' := 12) dX5_init_9 kX5_11 (Or.inl rfl) (by decide) (by decide) rfl (Or.inr ⟨rfl, rfl⟩) rfl h1 ?_
  refine z_st hG ?_
  refine z_aload_n (pc' := 13) dX5_init_12 rfl rfl ?_
  refine z_iconst (x := 0) (pc' := 14) dX5_init_13 (by decide) rfl ?_
  obtain ⟨h1, h⟩ := h
  obtain ⟨G6, hG⟩ : ∃ z, z = zsi G5 q0 1 0 := ⟨_, rfl⟩
  have h := h _ hG
  refine z_putI (ci := 6) (kf := 1) (pc' := 17) dX5_init_14 kX5_15 (Or.inl rfl) (by decide) (by decide) rfl (Or.inl rfl) rfl h1 (zok_int _) ?_
  refine z_st hG ?_
  refine z_aload_n (pc' := 18) dX5_init_17 rfl rfl ?_
  obtain ⟨h1, h⟩ := h
  refine z_getR (ci := 6) (kf := 0) (pc' := 21) dX5_init_18 kX5_11 (Or.inl rfl) (by decide) (by decide) rfl rfl h1 ?_
  refine z_bipush (x := 60) (pc' := 23) dX5_init_21 (by decide) rfl ?_
  obtain ⟨d1, b1, Qz, hm, hdd, hb, hkx, hk⟩ := h
  refine z_callS (Y := mJ7_fill_53178) (n := 2) (as := [.ref (zrv G6 q0 0), .int 60]) (st := []) (pc' := 26) hm dX5_init_23 kX5_19 sJ7_fill_53178 rfl rfl hdd hb (Nat.le_of_ble_eq_true rfl) (fun r G7 hz => ?_) hkx
  obtain ⟨rfl, h⟩ := hk r G7 hz
  refine z_iconst (x := 0) (pc' := 27) dX5_init_26 (by decide) rfl ?_
  refine z_istore_n (pc' := 28) dX5_init_27 (by decide) rfl ?_
  exact z_dr (ls' := [some (.ref q0), some (.ref q1), some (.int 0)]) ⟨rfl, rfl, rfl, trivial⟩ h
def wp_X5_init_28 (E : ZE) (l : Launch) (d b : Nat) (G0 : ZG) (Q : ZQ) (k : Nat) (q0 : Nat) (q1 : Nat) (x2 : Int32) (G : ZG) : Prop :=
  (zar G q1 0 ∨ zrd G q1 .int) ∧
  (((Int32.ofNat (zln G q1)) ≤ x2 →
    Q (.inl none) G) ∧
  (¬ ((Int32.ofNat (zln G q1)) ≤ x2) →
    (zar G q1 0 ∨ zrd G q1 .int) ∧ vp_in x2 (zln G q1) ∧
    zob G q0 6 ∧
    xcV E l mX5_write d [.ref q0, .int (ziv G q1 x2.toNatClampNeg)] G k (fun X G9 => Q (.inr X) G9) (fun G1 k2 =>
    zW E l mX5_init d b G0 Q k2 28 [some (.ref q0), some (.ref q1), some (.int (x2 + 1))] [] G1)))
theorem wpt_X5_init_28 {E : ZE} {l : Launch} {d b : Nat} {G0 : ZG} {Q : ZQ} {k : Nat} {q0 : Nat} {q1 : Nat} {x2 : Int32} {G : ZG} (h : wp_X5_init_28 E l d b G0 Q k q0 q1 x2 G) : zW E l mX5_init d b G0 Q k 28 [some (.ref q0), some (.ref q1), some (.int x2)] [] G := by
  unfold wp_X5_init_28 at h
  refine z_iload_n (pc' := 29) dX5_init_28 rfl rfl ?_
  refine z_aload_n (pc' := 30) dX5_init_29 rfl rfl ?_
  obtain ⟨h1, h⟩ := h
  refine z_alen (pc' := 31) dX5_init_30 rfl (h1.imp (fun h => ⟨0, by decide, h⟩) (fun h => ⟨_, h⟩)) rfl ?_
  refine z_icmp_ge (pt := 47) (pc' := 34) dX5_init_31 (by decide) rfl (fun hc => ?_) (fun hc => ?_)
  · have h := h.1 hc
    exact z_vret dX5_init_47 rfl h
  · have h := h.2 hc
    refine z_aload_n (pc' := 35) dX5_init_34 rfl rfl ?_
    refine z_aload_n (pc' := 36) dX5_init_35 rfl rfl ?_
    refine z_iload_n (pc' := 37) dX5_init_36 rfl rfl ?_
    obtain ⟨h1, h2, h⟩ := h
    refine z_iald (pc' := 38) dX5_init_37 rfl h1 h2 ?_
    obtain ⟨h1, h⟩ := h
    obtain ⟨d1, b1, Qz, hm, hdd, hb, hkx, hk⟩ := h
    refine z_callV (Y := mX5_write) (n := 1) (as := [.int (ziv G q1 x2.toNatClampNeg)]) (st := []) (pc' := 41) (ci := 6) (q := q0) hm dX5_init_38 kX5_25 vX5_write rfl rfl (by decide) rfl h1 hdd hb (Nat.le_of_ble_eq_true rfl) (fun r G1 hz => ?_) hkx
    obtain ⟨rfl, h⟩ := hk r G1 hz
    refine z_iinc (y := x2 + 1) (pc' := 44) dX5_init_41 rfl (zinc_1 _) (by decide) rfl ?_
    refine z_goto (pc' := 28) dX5_init_44 (by decide) ?_
    exact z_dr (ls' := [some (.ref q0), some (.ref q1), some (.int (x2 + 1))]) ⟨rfl, rfl, rfl, trivial⟩ h
def wp_X5_isGap_0 (E : ZE) (l : Launch) (d b : Nat) (G0 : ZG) (Q : ZQ) (k : Nat) (x0 : Int32) (G : ZG) : Prop :=
  ((x0 = 32 →
    Q (.inl (some (.int 1))) G) ∧
  (¬ (x0 = 32) →
    ((¬ x0 = 45 →
      Q (.inl (some (.int 0))) G) ∧
    (¬ (¬ x0 = 45) →
      Q (.inl (some (.int 1))) G))))
theorem wpt_X5_isGap_0 {E : ZE} {l : Launch} {d b : Nat} {G0 : ZG} {Q : ZQ} {k : Nat} {x0 : Int32} {G : ZG} (h : wp_X5_isGap_0 E l d b G0 Q k x0 G) : zW E l mX5_isGap d b G0 Q k 0 [some (.int x0)] [] G := by
  unfold wp_X5_isGap_0 at h
  refine z_iload_n (pc' := 1) dX5_isGap_0 rfl rfl ?_
  refine z_bipush (x := 32) (pc' := 3) dX5_isGap_1 (by decide) rfl ?_
  refine z_icmp_eq (pt := 12) (pc' := 6) dX5_isGap_3 (by decide) rfl (fun hc => ?_) (fun hc => ?_)
  · have h := h.1 hc
    refine z_iconst (x := 1) (pc' := 13) dX5_isGap_12 (by decide) rfl ?_
    refine z_goto (pc' := 17) dX5_isGap_13 (by decide) ?_
    exact z_zret (ty := .boolean) dX5_isGap_17 rfl (by decide) h
  · have h := h.2 hc
    refine z_iload_n (pc' := 7) dX5_isGap_6 rfl rfl ?_
    refine z_bipush (x := 45) (pc' := 9) dX5_isGap_7 (by decide) rfl ?_
    refine z_icmp_ne (pt := 16) (pc' := 12) dX5_isGap_9 (by decide) rfl (fun hc => ?_) (fun hc => ?_)
    · have h := h.1 hc
      refine z_iconst (x := 0) (pc' := 17) dX5_isGap_16 (by decide) rfl ?_
      exact z_zret (ty := .boolean) dX5_isGap_17 rfl (by decide) h
    · have h := h.2 hc
      refine z_iconst (x := 1) (pc' := 13) dX5_isGap_12 (by decide) rfl ?_
      refine z_goto (pc' := 17) dX5_isGap_13 (by decide) ?_
      exact z_zret (ty := .boolean) dX5_isGap_17 rfl (by decide) h
def wp_X5_isLetter_0 (E : ZE) (l : Launch) (d b : Nat) (G0 : ZG) (Q : ZQ) (k : Nat) (x0 : Int32) (G : ZG) : Prop :=
  ((x0 < 97 →
    ((x0 < 65 →
      Q (.inl (some (.int 0))) G) ∧
    (¬ (x0 < 65) →
      ((90 < x0 →
        Q (.inl (some (.int 0))) G) ∧
      (¬ (90 < x0) →
        Q (.inl (some (.int 1))) G))))) ∧
  (¬ (x0 < 97) →
    ((x0 ≤ 122 →
      Q (.inl (some (.int 1))) G) ∧
    (¬ (x0 ≤ 122) →
      ((x0 < 65 →
        Q (.inl (some (.int 0))) G) ∧
      (¬ (x0 < 65) →
        ((90 < x0 →
          Q (.inl (some (.int 0))) G) ∧
        (¬ (90 < x0) →
          Q (.inl (some (.int 1))) G))))))))
theorem wpt_X5_isLetter_0 {E : ZE} {l : Launch} {d b : Nat} {G0 : ZG} {Q : ZQ} {k : Nat} {x0 : Int32} {G : ZG} (h : wp_X5_isLetter_0 E l d b G0 Q k x0 G) : zW E l mX5_isLetter d b G0 Q k 0 [some (.int x0)] [] G := by
  unfold wp_X5_isLetter_0 at h
  refine z_iload_n (pc' := 1) dX5_isLetter_0 rfl rfl ?_
  refine z_bipush (x := 97) (pc' := 3) dX5_isLetter_1 (by decide) rfl ?_
  refine z_icmp_lt (pt := 12) (pc' := 6) dX5_isLetter_3 (by decide) rfl (fun hc => ?_) (fun hc => ?_)
  · have h := h.1 hc
    refine z_iload_n (pc' := 13) dX5_isLetter_12 rfl rfl ?_
    refine z_bipush (x := 65) (pc' := 15) dX5_isLetter_13 (by decide) rfl ?_
    refine z_icmp_lt (pt := 28) (pc' := 18) dX5_isLetter_15 (by decide) rfl (fun hc => ?_) (fun hc => ?_)
    · have h := h.1 hc
      refine z_iconst (x := 0) (pc' := 29) dX5_isLetter_28 (by decide) rfl ?_
      exact z_zret (ty := .boolean) dX5_isLetter_29 rfl (by decide) h
    · have h := h.2 hc
      refine z_iload_n (pc' := 19) dX5_isLetter_18 rfl rfl ?_
      refine z_bipush (x := 90) (pc' := 21) dX5_isLetter_19 (by decide) rfl ?_
      refine z_icmp_gt (pt := 28) (pc' := 24) dX5_isLetter_21 (by decide) rfl (fun hc => ?_) (fun hc => ?_)
      · have h := h.1 hc
        refine z_iconst (x := 0) (pc' := 29) dX5_isLetter_28 (by decide) rfl ?_
        exact z_zret (ty := .boolean) dX5_isLetter_29 rfl (by decide) h
      · have h := h.2 hc
        refine z_iconst (x := 1) (pc' := 25) dX5_isLetter_24 (by decide) rfl ?_
        refine z_goto (pc' := 29) dX5_isLetter_25 (by decide) ?_
        exact z_zret (ty := .boolean) dX5_isLetter_29 rfl (by decide) h
  · have h := h.2 hc
    refine z_iload_n (pc' := 7) dX5_isLetter_6 rfl rfl ?_
    refine z_bipush (x := 122) (pc' := 9) dX5_isLetter_7 (by decide) rfl ?_
    refine z_icmp_le (pt := 24) (pc' := 12) dX5_isLetter_9 (by decide) rfl (fun hc => ?_) (fun hc => ?_)
    · have h := h.1 hc
      refine z_iconst (x := 1) (pc' := 25) dX5_isLetter_24 (by decide) rfl ?_
      refine z_goto (pc' := 29) dX5_isLetter_25 (by decide) ?_
      exact z_zret (ty := .boolean) dX5_isLetter_29 rfl (by decide) h
    · have h := h.2 hc
      refine z_iload_n (pc' := 13) dX5_isLetter_12 rfl rfl ?_
      refine z_bipush (x := 65) (pc' := 15) dX5_isLetter_13 (by decide) rfl ?_
      refine z_icmp_lt (pt := 28) (pc' := 18) dX5_isLetter_15 (by decide) rfl (fun hc => ?_) (fun hc => ?_)
      · have h := h.1 hc
        refine z_iconst (x := 0) (pc' := 29) dX5_isLetter_28 (by decide) rfl ?_
        exact z_zret (ty := .boolean) dX5_isLetter_29 rfl (by decide) h
      · have h := h.2 hc
        refine z_iload_n (pc' := 19) dX5_isLetter_18 rfl rfl ?_
        refine z_bipush (x := 90) (pc' := 21) dX5_isLetter_19 (by decide) rfl ?_
        refine z_icmp_gt (pt := 28) (pc' := 24) dX5_isLetter_21 (by decide) rfl (fun hc => ?_) (fun hc => ?_)
        · have h := h.1 hc
          refine z_iconst (x := 0) (pc' := 29) dX5_isLetter_28 (by decide) rfl ?_
          exact z_zret (ty := .boolean) dX5_isLetter_29 rfl (by decide) h
        · have h := h.2 hc
          refine z_iconst (x := 1) (pc' := 25) dX5_isLetter_24 (by decide) rfl ?_
          refine z_goto (pc' := 29) dX5_isLetter_25 (by decide) ?_
          exact z_zret (ty := .boolean) dX5_isLetter_29 rfl (by decide) h
def wp_X5_markedNumber_0 (E : ZE) (l : Launch) (d b : Nat) (G0 : ZG) (Q : ZQ) (k : Nat) (x0 : Int32) (G : ZG) : Prop :=
  zW E l mX5_markedNumber d b G0 Q k 2 [some (.int x0), some (.int 0)] [] G
theorem wpt_X5_markedNumber_0 {E : ZE} {l : Launch} {d b : Nat} {G0 : ZG} {Q : ZQ} {k : Nat} {x0 : Int32} {G : ZG} (h : wp_X5_markedNumber_0 E l d b G0 Q k x0 G) : zW E l mX5_markedNumber d b G0 Q k 0 [some (.int x0), none] [] G := by
  unfold wp_X5_markedNumber_0 at h
  refine z_iconst (x := 0) (pc' := 1) dX5_markedNumber_0 (by decide) rfl ?_
  refine z_istore_n (pc' := 2) dX5_markedNumber_1 (by decide) rfl ?_
  exact z_dr (ls' := [some (.int x0), some (.int 0)]) ⟨rfl, rfl, trivial⟩ h
def wp_X5_markedNumber_2 (E : ZE) (l : Launch) (d b : Nat) (G0 : ZG) (Q : ZQ) (k : Nat) (x0 : Int32) (x1 : Int32) (G : ZG) : Prop :=
  (zar G (zp 3601 0) 0 ∨ zrd G (zp 3601 0) .int) ∧
  (((Int32.ofNat (zln G (zp 3601 0))) ≤ x1 →
    Q (.inl (some (.int (-1)))) G) ∧
  (¬ ((Int32.ofNat (zln G (zp 3601 0))) ≤ x1) →
    (zar G (zp 3601 0) 0 ∨ zrd G (zp 3601 0) .int) ∧ vp_in x1 (zln G (zp 3601 0)) ∧
    ((¬ (ziv G (zp 3601 0) x1.toNatClampNeg) = x0 →
      zW E l mX5_markedNumber d b G0 Q k 2 [some (.int x0), some (.int (x1 + 1))] [] G) ∧
    (¬ (¬ (ziv G (zp 3601 0) x1.toNatClampNeg) = x0) →
      Q (.inl (some (.int x1))) G))))
theorem wpt_X5_markedNumber_2 {E : ZE} {l : Launch} {d b : Nat} {G0 : ZG} {Q : ZQ} {k : Nat} {x0 : Int32} {x1 : Int32} {G : ZG} (h : wp_X5_markedNumber_2 E l d b G0 Q k x0 x1 G) : zW E l mX5_markedNumber d b G0 Q k 2 [some (.int x0), some (.int x1)] [] G := by
  unfold wp_X5_markedNumber_2 at h
  refine z_iload_n (pc' := 3) dX5_markedNumber_2 rfl rfl ?_
  refine z_gets (x := ("PassportOffice$Name", "MARKED", "[I", zp 3601 0)) (pc' := 6) (by simp [zstat]) dX5_markedNumber_3 kX5_40 rfl (by unfold zfx; decide) (by decide) ?_
  obtain ⟨h1, h⟩ := h
  refine z_alen (pc' := 7) dX5_markedNumber_6 rfl (h1.imp (fun h => ⟨0, by decide, h⟩) (fun h => ⟨_, h⟩)) rfl ?_
  refine z_icmp_ge (pt := 27) (pc' := 10) dX5_markedNumber_7 (by decide) rfl (fun hc => ?_) (fun hc => ?_)
  · have h := h.1 hc
    refine z_iconst (x := (-1)) (pc' := 28) dX5_markedNumber_27 (by decide) rfl ?_
    exact z_iret dX5_markedNumber_28 rfl h
  · have h := h.2 hc
    refine z_gets (x := ("PassportOffice$Name", "MARKED", "[I", zp 3601 0)) (pc' := 13) (by simp [zstat]) dX5_markedNumber_10 kX5_40 rfl (by unfold zfx; decide) (by decide) ?_
    refine z_iload_n (pc' := 14) dX5_markedNumber_13 rfl rfl ?_
    obtain ⟨h1, h2, h⟩ := h
    refine z_iald (pc' := 15) dX5_markedNumber_14 rfl h1 h2 ?_
    refine z_iload_n (pc' := 16) dX5_markedNumber_15 rfl rfl ?_
    refine z_icmp_ne (pt := 21) (pc' := 19) dX5_markedNumber_16 (by decide) rfl (fun hc => ?_) (fun hc => ?_)
    · have h := h.1 hc
      refine z_iinc (y := x1 + 1) (pc' := 24) dX5_markedNumber_21 rfl (zinc_1 _) (by decide) rfl ?_
      refine z_goto (pc' := 2) dX5_markedNumber_24 (by decide) ?_
      exact z_dr (ls' := [some (.int x0), some (.int (x1 + 1))]) ⟨rfl, rfl, trivial⟩ h
    · have h := h.2 hc
      refine z_iload_n (pc' := 20) dX5_markedNumber_19 rfl rfl ?_
      exact z_iret dX5_markedNumber_20 rfl h
def wp_X5_write_0 (E : ZE) (l : Launch) (d b : Nat) (G0 : ZG) (Q : ZQ) (k : Nat) (q0 : Nat) (x1 : Int32) (G : ZG) : Prop :=
  xcI E l mX5_markedNumber d [.int x1] G k (fun X G9 => Q (.inr X) G9) (fun y1 G2 k3 =>
  ((y1 < 0 →
    zW E l mX5_write d b G0 Q k3 61 [some (.ref q0), some (.int x1), none] [] G2) ∧
  (¬ (y1 < 0) →
    ∃ n4, n4 < 32 ∧ (zp 1000 7) = zp 1000 n4 ∧ zstr G2 n4 ∧ 4 ≤ d ∧
    (((Int32.ofNat (zstl n4)) ≤ y1 →
      zW E l mX5_write d b G0 Q k3 61 [some (.ref q0), some (.int x1), none] [] G2) ∧
    (¬ ((Int32.ofNat (zstl n4)) ≤ y1) →
      ∃ n5, n5 < 32 ∧ (zp 1000 8) = zp 1000 n5 ∧ zstr G2 n5 ∧ 4 ≤ d ∧
      (((Int32.ofNat (zstl n5)) ≤ y1 →
        zW E l mX5_write d b G0 Q k3 61 [some (.ref q0), some (.int x1), none] [] G2) ∧
      (¬ ((Int32.ofNat (zstl n5)) ≤ y1) →
        ∃ n6, n6 < 32 ∧ (zp 1000 7) = zp 1000 n6 ∧ zstr G2 n6 ∧ 6 ≤ d ∧ vp_in y1 (zstl n6) ∧
        zob G2 q0 6 ∧
        xcV E l mX5_append d [.ref q0, .int (zstc n6 y1.toNatClampNeg)] G2 k3 (fun X G9 => Q (.inr X) G9) (fun G7 k8 =>
        ∃ n9, n9 < 32 ∧ (zp 1000 8) = zp 1000 n9 ∧ zstr G7 n9 ∧ 6 ≤ d ∧ vp_in y1 (zstl n9) ∧
        (((zstc n9 y1.toNatClampNeg) = 32 →
          Q (.inl none) G7) ∧
        (¬ ((zstc n9 y1.toNatClampNeg) = 32) →
          ∃ n10, n10 < 32 ∧ (zp 1000 8) = zp 1000 n10 ∧ zstr G7 n10 ∧ 6 ≤ d ∧ vp_in y1 (zstl n10) ∧
          zob G7 q0 6 ∧
          xcV E l mX5_append d [.ref q0, .int (zstc n10 y1.toNatClampNeg)] G7 k8 (fun X G9 => Q (.inr X) G9) (fun G11 k12 =>
          Q (.inl none) G11)))))))))))
theorem wpt_X5_write_0 {E : ZE} {l : Launch} {d b : Nat} {G0 : ZG} {Q : ZQ} {k : Nat} {q0 : Nat} {x1 : Int32} {G : ZG} (h : wp_X5_write_0 E l d b G0 Q k q0 x1 G) : zW E l mX5_write d b G0 Q k 0 [some (.ref q0), some (.int x1), none] [] G := by
  unfold wp_X5_write_0 at h
  refine z_iload_n (pc' := 1) dX5_write_0 rfl rfl ?_
  obtain ⟨d1, b1, Qz, hm, hdd, hb, hkx, hk⟩ := h
  refine z_callS (Y := mX5_markedNumber) (n := 1) (as := [.int x1]) (st := []) (pc' := 4) hm dX5_write_1 kX5_36 sX5_markedNumber rfl rfl hdd hb (Nat.le_of_ble_eq_true rfl) (fun r G2 hz => ?_) hkx
  obtain ⟨y1, rfl, h⟩ := hk r G2 hz
  refine z_istore_n (pc' := 5) dX5_write_4 (by decide) rfl ?_
  refine z_iload_n (pc' := 6) dX5_write_5 rfl rfl ?_
  refine z_if_lt (pt := 61) (pc' := 9) dX5_write_6 (by decide) rfl (fun hc => ?_) (fun hc => ?_)
  · have h := h.1 hc
    exact z_dr (ls' := [some (.ref q0), some (.int x1), none]) ⟨rfl, rfl, trivial⟩ h
  · have h := h.2 hc
    refine z_iload_n (pc' := 10) dX5_write_9 rfl rfl ?_
    refine z_ldcS (n := 7) (pc' := 12) (own := RX5) (tx := "AAAAOOOOUUSAANNEEEECC") rfl (by decide) dX5_write_10 rfl ?_
    obtain ⟨n4, h1, h2, h2b, h3, h⟩ := h
    refine z_strlen (n := n4) (st := [.int y1]) (pc' := 15) dX5_write_12 kX5_45 rfl h1 h2 h2b h3 (Nat.le_of_ble_eq_true rfl) ?_
    refine z_icmp_ge (pt := 61) (pc' := 18) dX5_write_15 (by decide) rfl (fun hc => ?_) (fun hc => ?_)
    · have h := h.1 hc
      exact z_dr (ls' := [some (.ref q0), some (.int x1), none]) ⟨rfl, rfl, trivial⟩ h
    · have h := h.2 hc
      refine z_iload_n (pc' := 19) dX5_write_18 rfl rfl ?_
      refine z_ldcS (n := 8) (pc' := 21) (own := RX5) (tx := "EEEEEEEEEESAA        ") rfl (by decide) dX5_write_19 rfl ?_
      obtain ⟨n5, h1, h2, h2b, h3, h⟩ := h
      refine z_strlen (n := n5) (st := [.int y1]) (pc' := 24) dX5_write_21 kX5_45 rfl h1 h2 h2b h3 (Nat.le_of_ble_eq_true rfl) ?_
      refine z_icmp_ge (pt := 61) (pc' := 27) dX5_write_24 (by decide) rfl (fun hc => ?_) (fun hc => ?_)
      · have h := h.1 hc
        exact z_dr (ls' := [some (.ref q0), some (.int x1), none]) ⟨rfl, rfl, trivial⟩ h
      · have h := h.2 hc
        refine z_aload_n (pc' := 28) dX5_write_27 rfl rfl ?_
        refine z_ldcS (n := 7) (pc' := 30) (own := RX5) (tx := "AAAAOOOOUUSAANNEEEECC") rfl (by decide) dX5_write_28 rfl ?_
        refine z_iload_n (pc' := 31) dX5_write_30 rfl rfl ?_
        obtain ⟨n6, h1, h2, h2b, h3, h4, h⟩ := h
        refine z_strat (n := n6) (st := [.ref q0]) (pc' := 34) dX5_write_31 kX5_52 rfl h1 h2 h2b h3 h4 (Nat.le_of_ble_eq_true rfl) ?_
        obtain ⟨h1, h⟩ := h
        obtain ⟨d1, b1, Qz, hm, hdd, hb, hkx, hk⟩ := h
        refine z_callV (Y := mX5_append) (n := 1) (as := [.int (zstc n6 y1.toNatClampNeg)]) (st := []) (pc' := 37) (ci := 6) (q := q0) hm dX5_write_34 kX5_56 vX5_append rfl rfl (by decide) rfl h1 hdd hb (Nat.le_of_ble_eq_true rfl) (fun r G7 hz => ?_) hkx
        obtain ⟨rfl, h⟩ := hk r G7 hz
        refine z_ldcS (n := 8) (pc' := 39) (own := RX5) (tx := "EEEEEEEEEESAA        ") rfl (by decide) dX5_write_37 rfl ?_
        refine z_iload_n (pc' := 40) dX5_write_39 rfl rfl ?_
        obtain ⟨n9, h1, h2, h2b, h3, h4, h⟩ := h
        refine z_strat (n := n9) (st := []) (pc' := 43) dX5_write_40 kX5_52 rfl h1 h2 h2b h3 h4 (Nat.le_of_ble_eq_true rfl) ?_
        refine z_bipush (x := 32) (pc' := 45) dX5_write_43 (by decide) rfl ?_
        refine z_icmp_eq (pt := 98) (pc' := 48) dX5_write_45 (by decide) rfl (fun hc => ?_) (fun hc => ?_)
        · have h := h.1 hc
          exact z_vret dX5_write_98 rfl h
        · have h := h.2 hc
          refine z_aload_n (pc' := 49) dX5_write_48 rfl rfl ?_
          refine z_ldcS (n := 8) (pc' := 51) (own := RX5) (tx := "EEEEEEEEEESAA        ") rfl (by decide) dX5_write_49 rfl ?_
          refine z_iload_n (pc' := 52) dX5_write_51 rfl rfl ?_
          obtain ⟨n10, h1, h2, h2b, h3, h4, h⟩ := h
          refine z_strat (n := n10) (st := [.ref q0]) (pc' := 55) dX5_write_52 kX5_52 rfl h1 h2 h2b h3 h4 (Nat.le_of_ble_eq_true rfl) ?_
          obtain ⟨h1, h⟩ := h
          obtain ⟨d1, b1, Qz, hm, hdd, hb, hkx, hk⟩ := h
          refine z_callV (Y := mX5_append) (n := 1) (as := [.int (zstc n10 y1.toNatClampNeg)]) (st := []) (pc' := 58) (ci := 6) (q := q0) hm dX5_write_55 kX5_56 vX5_append rfl rfl (by decide) rfl h1 hdd hb (Nat.le_of_ble_eq_true rfl) (fun r G11 hz => ?_) hkx
          obtain ⟨rfl, h⟩ := hk r G11 hz
          refine z_goto (pc' := 98) dX5_write_58 (by decide) ?_
          exact z_vret dX5_write_98 rfl h
def wp_X5_write_61 (E : ZE) (l : Launch) (d b : Nat) (G0 : ZG) (Q : ZQ) (k : Nat) (q0 : Nat) (x1 : Int32) (G : ZG) : Prop :=
  xcI E l mX5_isGap d [.int x1] G k (fun X G9 => Q (.inr X) G9) (fun y1 G2 k3 =>
  ((y1 = 0 →
    ((x1 < 97 →
      zob G2 q0 6 ∧
      xcV E l mX5_append d [.ref q0, .int x1] G2 k3 (fun X G9 => Q (.inr X) G9) (fun G4 k5 =>
      Q (.inl none) G4)) ∧
    (¬ (x1 < 97) →
      zob G2 q0 6 ∧
      xcV E l mX5_append d [.ref q0, .int ((x1 - 97) + 65)] G2 k3 (fun X G9 => Q (.inr X) G9) (fun G6 k7 =>
      Q (.inl none) G6)))) ∧
  (¬ (y1 = 0) →
    zob G2 q0 6 ∧
    xcV E l mX5_append d [.ref q0, .int 60] G2 k3 (fun X G9 => Q (.inr X) G9) (fun G8 k9 =>
    Q (.inl none) G8))))
theorem wpt_X5_write_61 {E : ZE} {l : Launch} {d b : Nat} {G0 : ZG} {Q : ZQ} {k : Nat} {q0 : Nat} {x1 : Int32} {G : ZG} (h : wp_X5_write_61 E l d b G0 Q k q0 x1 G) : zW E l mX5_write d b G0 Q k 61 [some (.ref q0), some (.int x1), none] [] G := by
  unfold wp_X5_write_61 at h
  refine z_iload_n (pc' := 62) dX5_write_61 rfl rfl ?_
  obtain ⟨d1, b1, Qz, hm, hdd, hb, hkx, hk⟩ := h
  refine z_callS (Y := mX5_isGap) (n := 1) (as := [.int x1]) (st := []) (pc' := 65) hm dX5_write_62 kX5_29 sX5_isGap rfl rfl hdd hb (Nat.le_of_ble_eq_true rfl) (fun r G2 hz => ?_) hkx
  obtain ⟨y1, rfl, h⟩ := hk r G2 hz
  refine z_if_eq (pt := 77) (pc' := 68) dX5_write_65 (by decide) rfl (fun hc => ?_) (fun hc => ?_)
  · have h := h.1 hc
    refine z_aload_n (pc' := 78) dX5_write_77 rfl rfl ?_
    refine z_iload_n (pc' := 79) dX5_write_78 rfl rfl ?_
    refine z_bipush (x := 97) (pc' := 81) dX5_write_79 (by decide) rfl ?_
    refine z_icmp_lt (pt := 94) (pc' := 84) dX5_write_81 (by decide) rfl (fun hc => ?_) (fun hc => ?_)
    · have h := h.1 hc
      refine z_iload_n (pc' := 95) dX5_write_94 rfl rfl ?_
      obtain ⟨h1, h⟩ := h
      obtain ⟨d1, b1, Qz, hm, hdd, hb, hkx, hk⟩ := h
      refine z_callV (Y := mX5_append) (n := 1) (as := [.int x1]) (st := []) (pc' := 98) (ci := 6) (q := q0) hm dX5_write_95 kX5_56 vX5_append rfl rfl (by decide) rfl h1 hdd hb (Nat.le_of_ble_eq_true rfl) (fun r G4 hz => ?_) hkx
      obtain ⟨rfl, h⟩ := hk r G4 hz
      exact z_vret dX5_write_98 rfl h
    · have h := h.2 hc
      refine z_iload_n (pc' := 85) dX5_write_84 rfl rfl ?_
      refine z_bipush (x := 97) (pc' := 87) dX5_write_85 (by decide) rfl ?_
      refine z_isub (pc' := 88) dX5_write_87 rfl rfl ?_
      refine z_bipush (x := 65) (pc' := 90) dX5_write_88 (by decide) rfl ?_
      refine z_iadd (pc' := 91) dX5_write_90 rfl rfl ?_
      refine z_goto (pc' := 95) dX5_write_91 (by decide) ?_
      obtain ⟨h1, h⟩ := h
      obtain ⟨d1, b1, Qz, hm, hdd, hb, hkx, hk⟩ := h
      refine z_callV (Y := mX5_append) (n := 1) (as := [.int ((x1 - 97) + 65)]) (st := []) (pc' := 98) (ci := 6) (q := q0) hm dX5_write_95 kX5_56 vX5_append rfl rfl (by decide) rfl h1 hdd hb (Nat.le_of_ble_eq_true rfl) (fun r G6 hz => ?_) hkx
      obtain ⟨rfl, h⟩ := hk r G6 hz
      exact z_vret dX5_write_98 rfl h
  · have h := h.2 hc
    refine z_aload_n (pc' := 69) dX5_write_68 rfl rfl ?_
    refine z_bipush (x := 60) (pc' := 71) dX5_write_69 (by decide) rfl ?_
    obtain ⟨h1, h⟩ := h
    obtain ⟨d1, b1, Qz, hm, hdd, hb, hkx, hk⟩ := h
    refine z_callV (Y := mX5_append) (n := 1) (as := [.int 60]) (st := []) (pc' := 74) (ci := 6) (q := q0) hm dX5_write_71 kX5_56 vX5_append rfl rfl (by decide) rfl h1 hdd hb (Nat.le_of_ble_eq_true rfl) (fun r G8 hz => ?_) hkx
    obtain ⟨rfl, h⟩ := hk r G8 hz
    refine z_goto (pc' := 98) dX5_write_74 (by decide) ?_
    exact z_vret dX5_write_98 rfl h
def wp_X6_arrive_0 (E : ZE) (l : Launch) (d b : Nat) (G0 : ZG) (Q : ZQ) (k : Nat) (q0 : Nat) (q1 : Nat) (G : ZG) : Prop :=
  zob G q1 1 ∧
  ∀ G1, G1 = zsi G q1 7 7 →
  zob G1 q0 7 ∧
  zob G1 q1 1 ∧
  ∀ G2, G2 = zsi G1 q1 12 (ziv G1 q0 6) →
  zob G2 q1 1 ∧
  zob G2 (zrv G2 q1 6) 11 ∧
  (((ziv G2 (zrv G2 q1 6) 3) = (-1) →
    Q (.inl none) G2) ∧
  (¬ ((ziv G2 (zrv G2 q1 6) 3) = (-1)) →
    zob G2 q1 1 ∧
    zob G2 q1 1 ∧
    zob G2 q1 1 ∧
    zob G2 (zrv G2 q1 6) 11 ∧
    ((((ziv G2 q1 12) - (ziv G2 q1 4)) ≤ (ziv G2 (zrv G2 q1 6) 3) →
      Q (.inl none) G2) ∧
    (¬ (((ziv G2 q1 12) - (ziv G2 q1 4)) ≤ (ziv G2 (zrv G2 q1 6) 3)) →
      zob G2 q1 1 ∧
      ∀ G3, G3 = zsi G2 q1 9 1 →
      zob G3 q0 7 ∧
      zob G3 q1 1 ∧
      zob G3 (zrv G3 q1 6) 11 ∧
      zob G3 q0 7 ∧
      ∀ G4, G4 = zsi G3 q0 10 ((ziv G3 q0 10) + (ziv G3 (zrv G3 q1 6) 1)) →
      Q (.inl none) G4))))
theorem wpt_X6_arrive_0 {E : ZE} {l : Launch} {d b : Nat} {G0 : ZG} {Q : ZQ} {k : Nat} {q0 : Nat} {q1 : Nat} {G : ZG} (h : wp_X6_arrive_0 E l d b G0 Q k q0 q1 G) : zW E l mX6_arrive d b G0 Q k 0 [some (.ref q0), some (.ref q1)] [] G := by
  unfold wp_X6_arrive_0 at h
  refine z_aload_n (pc' := 1) dX6_arrive_0 rfl rfl ?_
  refine z_bipush (x := 7) (pc' := 3) dX6_arrive_1 (by decide) rfl ?_
  obtain ⟨h1, h⟩ := h
  obtain ⟨G1, hG⟩ : ∃ z, z = zsi G q1 7 7 := ⟨_, rfl⟩
  have h := h _ hG
  refine z_putI (ci := 1) (kf := 7) (pc' := 6) dX6_arrive_3 kX6_106 (Or.inl rfl) (by decide) (by decide) rfl (Or.inl rfl) rfl h1 (zok_int _) ?_
  refine z_st hG ?_
  refine z_aload_n (pc' := 7) dX6_arrive_6 rfl rfl ?_
  refine z_aload_n (pc' := 8) dX6_arrive_7 rfl rfl ?_
  obtain ⟨h1, h⟩ := h
  refine z_getI (ci := 7) (kf := 6) (pc' := 11) dX6_arrive_8 kX6_25 (Or.inl rfl) (by decide) (by decide) rfl rfl h1 ?_
  obtain ⟨h1, h⟩ := h
  obtain ⟨G2, hG⟩ : ∃ z, z = zsi G1 q1 12 (ziv G1 q0 6) := ⟨_, rfl⟩
  have h := h _ hG
  refine z_putI (ci := 1) (kf := 12) (pc' := 14) dX6_arrive_11 kX6_279 (Or.inl rfl) (by decide) (by decide) rfl (Or.inl rfl) rfl h1 (zok_int _) ?_
  refine z_st hG ?_
  refine z_aload_n (pc' := 15) dX6_arrive_14 rfl rfl ?_
  obtain ⟨h1, h⟩ := h
  refine z_getR (ci := 1) (kf := 6) (pc' := 18) dX6_arrive_15 kX6_205 (Or.inl rfl) (by decide) (by decide) rfl rfl h1 ?_
  obtain ⟨h1, h⟩ := h
  refine z_getI (ci := 11) (kf := 3) (pc' := 21) dX6_arrive_18 kX6_282 (Or.inl rfl) (by decide) (by decide) rfl rfl h1 ?_
  refine z_iconst (x := (-1)) (pc' := 22) dX6_arrive_21 (by decide) rfl ?_
  refine z_icmp_eq (pt := 65) (pc' := 25) dX6_arrive_22 (by decide) rfl (fun hc => ?_) (fun hc => ?_)
  · have h := h.1 hc
    exact z_vret dX6_arrive_65 rfl h
  · have h := h.2 hc
    refine z_aload_n (pc' := 26) dX6_arrive_25 rfl rfl ?_
    obtain ⟨h1, h⟩ := h
    refine z_getI (ci := 1) (kf := 12) (pc' := 29) dX6_arrive_26 kX6_279 (Or.inl rfl) (by decide) (by decide) rfl rfl h1 ?_
    refine z_aload_n (pc' := 30) dX6_arrive_29 rfl rfl ?_
    obtain ⟨h1, h⟩ := h
    refine z_getI (ci := 1) (kf := 4) (pc' := 33) dX6_arrive_30 kX6_156 (Or.inl rfl) (by decide) (by decide) rfl rfl h1 ?_
    refine z_isub (pc' := 34) dX6_arrive_33 rfl rfl ?_
    refine z_aload_n (pc' := 35) dX6_arrive_34 rfl rfl ?_
    obtain ⟨h1, h⟩ := h
    refine z_getR (ci := 1) (kf := 6) (pc' := 38) dX6_arrive_35 kX6_205 (Or.inl rfl) (by decide) (by decide) rfl rfl h1 ?_
    obtain ⟨h1, h⟩ := h
    refine z_getI (ci := 11) (kf := 3) (pc' := 41) dX6_arrive_38 kX6_282 (Or.inl rfl) (by decide) (by decide) rfl rfl h1 ?_
    refine z_icmp_le (pt := 65) (pc' := 44) dX6_arrive_41 (by decide) rfl (fun hc => ?_) (fun hc => ?_)
    · have h := h.1 hc
      exact z_vret dX6_arrive_65 rfl h
    · have h := h.2 hc
      refine z_aload_n (pc' := 45) dX6_arrive_44 rfl rfl ?_
      refine z_iconst (x := 1) (pc' := 46) dX6_arrive_45 (by decide) rfl ?_
      obtain ⟨h1, h⟩ := h
      obtain ⟨G3, hG⟩ : ∃ z, z = zsi G2 q1 9 1 := ⟨_, rfl⟩
      have h := h _ hG
      refine z_putI (ci := 1) (kf := 9) (pc' := 49) dX6_arrive_46 kX6_285 (Or.inl rfl) (by decide) (by decide) rfl (Or.inl rfl) rfl h1 zok_1 ?_
      refine z_st hG ?_
      refine z_aload_n (pc' := 50) dX6_arrive_49 rfl rfl ?_
      refine z_dup (pc' := 51) dX6_arrive_50 rfl rfl ?_
      obtain ⟨h1, h⟩ := h
      refine z_getI (ci := 7) (kf := 10) (pc' := 54) dX6_arrive_51 kX6_37 (Or.inl rfl) (by decide) (by decide) rfl rfl h1 ?_
      refine z_aload_n (pc' := 55) dX6_arrive_54 rfl rfl ?_
      obtain ⟨h1, h⟩ := h
      refine z_getR (ci := 1) (kf := 6) (pc' := 58) dX6_arrive_55 kX6_205 (Or.inl rfl) (by decide) (by decide) rfl rfl h1 ?_
      obtain ⟨h1, h⟩ := h
      refine z_getI (ci := 11) (kf := 1) (pc' := 61) dX6_arrive_58 kX6_288 (Or.inl rfl) (by decide) (by decide) rfl rfl h1 ?_
      refine z_iadd (pc' := 62) dX6_arrive_61 rfl rfl ?_
      obtain ⟨h1, h⟩ := h
      obtain ⟨G4, hG⟩ : ∃ z, z = zsi G3 q0 10 ((ziv G3 q0 10) + (ziv G3 (zrv G3 q1 6) 1)) := ⟨_, rfl⟩
      have h := h _ hG
      refine z_putI (ci := 7) (kf := 10) (pc' := 65) dX6_arrive_62 kX6_37 (Or.inl rfl) (by decide) (by decide) rfl (Or.inl rfl) rfl h1 (zok_int _) ?_
      refine z_st hG ?_
      exact z_vret dX6_arrive_65 rfl h
def wp_X6_bookletAt_0 (E : ZE) (l : Launch) (d b : Nat) (G0 : ZG) (Q : ZQ) (k : Nat) (q0 : Nat) (x1 : Int32) (G : ZG) : Prop :=
  ((x1 < 0 →
    (((0 : Int32) = 0 →
      Q (.inl (some (.ref 0))) G) ∧
    (¬ ((0 : Int32) = 0) →
      zob G q0 7 ∧
      zob G (zrv G q0 4) 0 ∧
      xcR E l mJx4a65c_get_915e3 d [.ref (zrv G q0 4), .int x1] G k (fun X G9 => Q (.inr X) G9) (fun y1 G2 k3 =>
      zob G2 y1 2 ∧
      Q (.inl (some (.ref y1))) G2)))) ∧
  (¬ (x1 < 0) →
    zob G q0 7 ∧
    (((ziv G q0 5) ≤ x1 →
      (((0 : Int32) = 0 →
        Q (.inl (some (.ref 0))) G) ∧
      (¬ ((0 : Int32) = 0) →
        zob G q0 7 ∧
        zob G (zrv G q0 4) 0 ∧
        xcR E l mJx4a65c_get_915e3 d [.ref (zrv G q0 4), .int x1] G k (fun X G9 => Q (.inr X) G9) (fun y4 G5 k6 =>
        zob G5 y4 2 ∧
        Q (.inl (some (.ref y4))) G5)))) ∧
    (¬ ((ziv G q0 5) ≤ x1) →
      zob G q0 7 ∧
      zob G (zrv G q0 4) 0 ∧
      xcI E l mJx4a65c_size_8abf5 d [.ref (zrv G q0 4)] G k (fun X G9 => Q (.inr X) G9) (fun y7 G8 k9 =>
      ((y7 ≤ x1 →
        (((0 : Int32) = 0 →
          Q (.inl (some (.ref 0))) G8) ∧
        (¬ ((0 : Int32) = 0) →
          zob G8 q0 7 ∧
          zob G8 (zrv G8 q0 4) 0 ∧
          xcR E l mJx4a65c_get_915e3 d [.ref (zrv G8 q0 4), .int x1] G8 k9 (fun X G9 => Q (.inr X) G9) (fun y10 G11 k12 =>
          zob G11 y10 2 ∧
          Q (.inl (some (.ref y10))) G11)))) ∧
      (¬ (y7 ≤ x1) →
        (((1 : Int32) = 0 →
          Q (.inl (some (.ref 0))) G8) ∧
        (¬ ((1 : Int32) = 0) →
          zob G8 q0 7 ∧
          zob G8 (zrv G8 q0 4) 0 ∧
          xcR E l mJx4a65c_get_915e3 d [.ref (zrv G8 q0 4), .int x1] G8 k9 (fun X G9 => Q (.inr X) G9) (fun y13 G14 k15 =>
          zob G14 y13 2 ∧
          Q (.inl (some (.ref y13))) G14))))))))))
theorem wpt_X6_bookletAt_0 {E : ZE} {l : Launch} {d b : Nat} {G0 : ZG} {Q : ZQ} {k : Nat} {q0 : Nat} {x1 : Int32} {G : ZG} (h : wp_X6_bookletAt_0 E l d b G0 Q k q0 x1 G) : zW E l mX6_bookletAt d b G0 Q k 0 [some (.ref q0), some (.int x1), none] [] G := by
  unfold wp_X6_bookletAt_0 at h
  refine z_iload_n (pc' := 1) dX6_bookletAt_0 rfl rfl ?_
  refine z_if_lt (pt := 27) (pc' := 4) dX6_bookletAt_1 (by decide) rfl (fun hc => ?_) (fun hc => ?_)
  · have h := h.1 hc
    refine z_iconst (x := 0) (pc' := 28) dX6_bookletAt_27 (by decide) rfl ?_
    refine z_istore_n (pc' := 29) dX6_bookletAt_28 (by decide) rfl ?_
    refine z_iload_n (pc' := 30) dX6_bookletAt_29 rfl rfl ?_
    refine z_if_eq (pt := 47) (pc' := 33) dX6_bookletAt_30 (by decide) rfl (fun hc => ?_) (fun hc => ?_)
    · have h := h.1 hc
      refine z_null (pc' := 48) dX6_bookletAt_47 rfl ?_
      exact z_aret dX6_bookletAt_48 rfl (Or.inl ⟨_, rfl⟩) h
    · have h := h.2 hc
      refine z_aload_n (pc' := 34) dX6_bookletAt_33 rfl rfl ?_
      obtain ⟨h1, h⟩ := h
      refine z_getR (ci := 7) (kf := 4) (pc' := 37) dX6_bookletAt_34 kX6_18 (Or.inl rfl) (by decide) (by decide) rfl rfl h1 ?_
      refine z_iload_n (pc' := 38) dX6_bookletAt_37 rfl rfl ?_
      obtain ⟨h1, h⟩ := h
      obtain ⟨d1, b1, Qz, hm, hdd, hb, hkx, hk⟩ := h
      refine z_callV (Y := mJx4a65c_get_915e3) (n := 1) (as := [.int x1]) (st := []) (pc' := 41) (ci := 0) (q := (zrv G q0 4)) hm dX6_bookletAt_38 kX6_72 vJx4a65c_get_915e3 rfl rfl (by decide) rfl h1 hdd hb (Nat.le_of_ble_eq_true rfl) (fun r G2 hz => ?_) hkx
      obtain ⟨y1, rfl, h⟩ := hk r G2 hz
      obtain ⟨h1, h⟩ := h
      refine z_castO (ci := 2) (pc' := 44) dX6_bookletAt_41 kX6_94 (by decide) rfl h1 ?_
      refine z_goto (pc' := 48) dX6_bookletAt_44 (by decide) ?_
      exact z_aret dX6_bookletAt_48 rfl (Or.inl ⟨_, rfl⟩) h
  · have h := h.2 hc
    refine z_iload_n (pc' := 5) dX6_bookletAt_4 rfl rfl ?_
    refine z_aload_n (pc' := 6) dX6_bookletAt_5 rfl rfl ?_
    obtain ⟨h1, h⟩ := h
    refine z_getI (ci := 7) (kf := 5) (pc' := 9) dX6_bookletAt_6 kX6_21 (Or.inl rfl) (by decide) (by decide) rfl rfl h1 ?_
    refine z_icmp_ge (pt := 27) (pc' := 12) dX6_bookletAt_9 (by decide) rfl (fun hc => ?_) (fun hc => ?_)
    · have h := h.1 hc
      refine z_iconst (x := 0) (pc' := 28) dX6_bookletAt_27 (by decide) rfl ?_
      refine z_istore_n (pc' := 29) dX6_bookletAt_28 (by decide) rfl ?_
      refine z_iload_n (pc' := 30) dX6_bookletAt_29 rfl rfl ?_
      refine z_if_eq (pt := 47) (pc' := 33) dX6_bookletAt_30 (by decide) rfl (fun hc => ?_) (fun hc => ?_)
      · have h := h.1 hc
        refine z_null (pc' := 48) dX6_bookletAt_47 rfl ?_
        exact z_aret dX6_bookletAt_48 rfl (Or.inl ⟨_, rfl⟩) h
      · have h := h.2 hc
        refine z_aload_n (pc' := 34) dX6_bookletAt_33 rfl rfl ?_
        obtain ⟨h1, h⟩ := h
        refine z_getR (ci := 7) (kf := 4) (pc' := 37) dX6_bookletAt_34 kX6_18 (Or.inl rfl) (by decide) (by decide) rfl rfl h1 ?_
        refine z_iload_n (pc' := 38) dX6_bookletAt_37 rfl rfl ?_
        obtain ⟨h1, h⟩ := h
        obtain ⟨d1, b1, Qz, hm, hdd, hb, hkx, hk⟩ := h
        refine z_callV (Y := mJx4a65c_get_915e3) (n := 1) (as := [.int x1]) (st := []) (pc' := 41) (ci := 0) (q := (zrv G q0 4)) hm dX6_bookletAt_38 kX6_72 vJx4a65c_get_915e3 rfl rfl (by decide) rfl h1 hdd hb (Nat.le_of_ble_eq_true rfl) (fun r G5 hz => ?_) hkx
        obtain ⟨y4, rfl, h⟩ := hk r G5 hz
        obtain ⟨h1, h⟩ := h
        refine z_castO (ci := 2) (pc' := 44) dX6_bookletAt_41 kX6_94 (by decide) rfl h1 ?_
        refine z_goto (pc' := 48) dX6_bookletAt_44 (by decide) ?_
        exact z_aret dX6_bookletAt_48 rfl (Or.inl ⟨_, rfl⟩) h
    · have h := h.2 hc
      refine z_iload_n (pc' := 13) dX6_bookletAt_12 rfl rfl ?_
      refine z_aload_n (pc' := 14) dX6_bookletAt_13 rfl rfl ?_
      obtain ⟨h1, h⟩ := h
      refine z_getR (ci := 7) (kf := 4) (pc' := 17) dX6_bookletAt_14 kX6_18 (Or.inl rfl) (by decide) (by decide) rfl rfl h1 ?_
      obtain ⟨h1, h⟩ := h
      obtain ⟨d1, b1, Qz, hm, hdd, hb, hkx, hk⟩ := h
      refine z_callV (Y := mJx4a65c_size_8abf5) (n := 0) (as := []) (st := [.int x1]) (pc' := 20) (ci := 0) (q := (zrv G q0 4)) hm dX6_bookletAt_17 kX6_68 vJx4a65c_size_8abf5 rfl rfl (by decide) rfl h1 hdd hb (Nat.le_of_ble_eq_true rfl) (fun r G8 hz => ?_) hkx
      obtain ⟨y7, rfl, h⟩ := hk r G8 hz
      refine z_icmp_ge (pt := 27) (pc' := 23) dX6_bookletAt_20 (by decide) rfl (fun hc => ?_) (fun hc => ?_)
      · have h := h.1 hc
        refine z_iconst (x := 0) (pc' := 28) dX6_bookletAt_27 (by decide) rfl ?_
        refine z_istore_n (pc' := 29) dX6_bookletAt_28 (by decide) rfl ?_
        refine z_iload_n (pc' := 30) dX6_bookletAt_29 rfl rfl ?_
        refine z_if_eq (pt := 47) (pc' := 33) dX6_bookletAt_30 (by decide) rfl (fun hc => ?_) (fun hc => ?_)
        · have h := h.1 hc
          refine z_null (pc' := 48) dX6_bookletAt_47 rfl ?_
          exact z_aret dX6_bookletAt_48 rfl (Or.inl ⟨_, rfl⟩) h
        · have h := h.2 hc
          refine z_aload_n (pc' := 34) dX6_bookletAt_33 rfl rfl ?_
          obtain ⟨h1, h⟩ := h
          refine z_getR (ci := 7) (kf := 4) (pc' := 37) dX6_bookletAt_34 kX6_18 (Or.inl rfl) (by decide) (by decide) rfl rfl h1 ?_
          refine z_iload_n (pc' := 38) dX6_bookletAt_37 rfl rfl ?_
          obtain ⟨h1, h⟩ := h
          obtain ⟨d1, b1, Qz, hm, hdd, hb, hkx, hk⟩ := h
          refine z_callV (Y := mJx4a65c_get_915e3) (n := 1) (as := [.int x1]) (st := []) (pc' := 41) (ci := 0) (q := (zrv G8 q0 4)) hm dX6_bookletAt_38 kX6_72 vJx4a65c_get_915e3 rfl rfl (by decide) rfl h1 hdd hb (Nat.le_of_ble_eq_true rfl) (fun r G11 hz => ?_) hkx
          obtain ⟨y10, rfl, h⟩ := hk r G11 hz
          obtain ⟨h1, h⟩ := h
          refine z_castO (ci := 2) (pc' := 44) dX6_bookletAt_41 kX6_94 (by decide) rfl h1 ?_
          refine z_goto (pc' := 48) dX6_bookletAt_44 (by decide) ?_
          exact z_aret dX6_bookletAt_48 rfl (Or.inl ⟨_, rfl⟩) h
      · have h := h.2 hc
        refine z_iconst (x := 1) (pc' := 24) dX6_bookletAt_23 (by decide) rfl ?_
        refine z_goto (pc' := 28) dX6_bookletAt_24 (by decide) ?_
        refine z_istore_n (pc' := 29) dX6_bookletAt_28 (by decide) rfl ?_
        refine z_iload_n (pc' := 30) dX6_bookletAt_29 rfl rfl ?_
        refine z_if_eq (pt := 47) (pc' := 33) dX6_bookletAt_30 (by decide) rfl (fun hc => ?_) (fun hc => ?_)
        · have h := h.1 hc
          refine z_null (pc' := 48) dX6_bookletAt_47 rfl ?_
          exact z_aret dX6_bookletAt_48 rfl (Or.inl ⟨_, rfl⟩) h
        · have h := h.2 hc
          refine z_aload_n (pc' := 34) dX6_bookletAt_33 rfl rfl ?_
          obtain ⟨h1, h⟩ := h
          refine z_getR (ci := 7) (kf := 4) (pc' := 37) dX6_bookletAt_34 kX6_18 (Or.inl rfl) (by decide) (by decide) rfl rfl h1 ?_
          refine z_iload_n (pc' := 38) dX6_bookletAt_37 rfl rfl ?_
          obtain ⟨h1, h⟩ := h
          obtain ⟨d1, b1, Qz, hm, hdd, hb, hkx, hk⟩ := h
          refine z_callV (Y := mJx4a65c_get_915e3) (n := 1) (as := [.int x1]) (st := []) (pc' := 41) (ci := 0) (q := (zrv G8 q0 4)) hm dX6_bookletAt_38 kX6_72 vJx4a65c_get_915e3 rfl rfl (by decide) rfl h1 hdd hb (Nat.le_of_ble_eq_true rfl) (fun r G14 hz => ?_) hkx
          obtain ⟨y13, rfl, h⟩ := hk r G14 hz
          obtain ⟨h1, h⟩ := h
          refine z_castO (ci := 2) (pc' := 44) dX6_bookletAt_41 kX6_94 (by decide) rfl h1 ?_
          refine z_goto (pc' := 48) dX6_bookletAt_44 (by decide) ?_
          exact z_aret dX6_bookletAt_48 rfl (Or.inl ⟨_, rfl⟩) h
def wp_X6_canPrint_0 (E : ZE) (l : Launch) (d b : Nat) (G0 : ZG) (Q : ZQ) (k : Nat) (q0 : Nat) (G : ZG) : Prop :=
  zob G q0 7 ∧
  zob G (zrv G q0 2) 10 ∧
  zob G q0 7 ∧
  (((ziv G q0 6) < (ziv G (zrv G q0 2) 5) →
    zW E l mX6_canPrint d b G0 Q k 33 [some (.ref q0), none] [.int 0] G) ∧
  (¬ ((ziv G q0 6) < (ziv G (zrv G q0 2) 5)) →
    zob G q0 7 ∧
    zob G q0 7 ∧
    zob G (zrv G q0 2) 10 ∧
    (((ziv G (zrv G q0 2) 6) < (ziv G q0 6) →
      zW E l mX6_canPrint d b G0 Q k 33 [some (.ref q0), none] [.int 0] G) ∧
    (¬ ((ziv G (zrv G q0 2) 6) < (ziv G q0 6)) →
      zW E l mX6_canPrint d b G0 Q k 33 [some (.ref q0), none] [.int 1] G))))
theorem wpt_X6_canPrint_0 {E : ZE} {l : Launch} {d b : Nat} {G0 : ZG} {Q : ZQ} {k : Nat} {q0 : Nat} {G : ZG} (h : wp_X6_canPrint_0 E l d b G0 Q k q0 G) : zW E l mX6_canPrint d b G0 Q k 0 [some (.ref q0), none] [] G := by
  unfold wp_X6_canPrint_0 at h
  refine z_aload_n (pc' := 1) dX6_canPrint_0 rfl rfl ?_
  obtain ⟨h1, h⟩ := h
  refine z_getR (ci := 7) (kf := 2) (pc' := 4) dX6_canPrint_1 kX6_57 (Or.inl rfl) (by decide) (by decide) rfl rfl h1 ?_
  obtain ⟨h1, h⟩ := h
  refine z_getI (ci := 10) (kf := 5) (pc' := 7) dX6_canPrint_4 kX6_214 (Or.inl rfl) (by decide) (by decide) rfl rfl h1 ?_
  refine z_aload_n (pc' := 8) dX6_canPrint_7 rfl rfl ?_
  obtain ⟨h1, h⟩ := h
  refine z_getI (ci := 7) (kf := 6) (pc' := 11) dX6_canPrint_8 kX6_25 (Or.inl rfl) (by decide) (by decide) rfl rfl h1 ?_
  refine z_icmp_gt (pt := 32) (pc' := 14) dX6_canPrint_11 (by decide) rfl (fun hc => ?_) (fun hc => ?_)
  · have h := h.1 hc
    refine z_iconst (x := 0) (pc' := 33) dX6_canPrint_32 (by decide) rfl ?_
    exact z_dr (ls' := [some (.ref q0), none]) ⟨rfl, trivial⟩ h
  · have h := h.2 hc
    refine z_aload_n (pc' := 15) dX6_canPrint_14 rfl rfl ?_
    obtain ⟨h1, h⟩ := h
    refine z_getI (ci := 7) (kf := 6) (pc' := 18) dX6_canPrint_15 kX6_25 (Or.inl rfl) (by decide) (by decide) rfl rfl h1 ?_
    refine z_aload_n (pc' := 19) dX6_canPrint_18 rfl rfl ?_
    obtain ⟨h1, h⟩ := h
    refine z_getR (ci := 7) (kf := 2) (pc' := 22) dX6_canPrint_19 kX6_57 (Or.inl rfl) (by decide) (by decide) rfl rfl h1 ?_
    obtain ⟨h1, h⟩ := h
    refine z_getI (ci := 10) (kf := 6) (pc' := 25) dX6_canPrint_22 kX6_217 (Or.inl rfl) (by decide) (by decide) rfl rfl h1 ?_
    refine z_icmp_gt (pt := 32) (pc' := 28) dX6_canPrint_25 (by decide) rfl (fun hc => ?_) (fun hc => ?_)
    · have h := h.1 hc
      refine z_iconst (x := 0) (pc' := 33) dX6_canPrint_32 (by decide) rfl ?_
      exact z_dr (ls' := [some (.ref q0), none]) ⟨rfl, trivial⟩ h
    · have h := h.2 hc
      refine z_iconst (x := 1) (pc' := 29) dX6_canPrint_28 (by decide) rfl ?_
      refine z_goto (pc' := 33) dX6_canPrint_29 (by decide) ?_
      exact z_dr (ls' := [some (.ref q0), none]) ⟨rfl, trivial⟩ h
def wp_X6_canPrint_33 (E : ZE) (l : Launch) (d b : Nat) (G0 : ZG) (Q : ZQ) (k : Nat) (q0 : Nat) (s0 : Int32) (G : ZG) : Prop :=
  zob G q0 7 ∧
  (((ziv G q0 8) ≤ 0 →
    Q (.inl (some (.int 0))) G) ∧
  (¬ ((ziv G q0 8) ≤ 0) →
    zob G q0 7 ∧
    ((150 ≤ (ziv G q0 5) →
      Q (.inl (some (.int 0))) G) ∧
    (¬ (150 ≤ (ziv G q0 5)) →
      ((¬ s0 = 0 →
        Q (.inl (some (.int 0))) G) ∧
      (¬ (¬ s0 = 0) →
        Q (.inl (some (.int 1))) G))))))
theorem wpt_X6_canPrint_33 {E : ZE} {l : Launch} {d b : Nat} {G0 : ZG} {Q : ZQ} {k : Nat} {q0 : Nat} {s0 : Int32} {G : ZG} (h : wp_X6_canPrint_33 E l d b G0 Q k q0 s0 G) : zW E l mX6_canPrint d b G0 Q k 33 [some (.ref q0), none] [.int s0] G := by
  unfold wp_X6_canPrint_33 at h
  refine z_istore_n (pc' := 34) dX6_canPrint_33 (by decide) rfl ?_
  refine z_aload_n (pc' := 35) dX6_canPrint_34 rfl rfl ?_
  obtain ⟨h1, h⟩ := h
  refine z_getI (ci := 7) (kf := 8) (pc' := 38) dX6_canPrint_35 kX6_31 (Or.inl rfl) (by decide) (by decide) rfl rfl h1 ?_
  refine z_if_le (pt := 59) (pc' := 41) dX6_canPrint_38 (by decide) rfl (fun hc => ?_) (fun hc => ?_)
  · have h := h.1 hc
    refine z_iconst (x := 0) (pc' := 60) dX6_canPrint_59 (by decide) rfl ?_
    exact z_zret (ty := .boolean) dX6_canPrint_60 rfl (by decide) h
  · have h := h.2 hc
    refine z_aload_n (pc' := 42) dX6_canPrint_41 rfl rfl ?_
    obtain ⟨h1, h⟩ := h
    refine z_getI (ci := 7) (kf := 5) (pc' := 45) dX6_canPrint_42 kX6_21 (Or.inl rfl) (by decide) (by decide) rfl rfl h1 ?_
    refine z_sipush (x := 150) (pc' := 48) dX6_canPrint_45 (by decide) rfl ?_
    refine z_icmp_ge (pt := 59) (pc' := 51) dX6_canPrint_48 (by decide) rfl (fun hc => ?_) (fun hc => ?_)
    · have h := h.1 hc
      refine z_iconst (x := 0) (pc' := 60) dX6_canPrint_59 (by decide) rfl ?_
      exact z_zret (ty := .boolean) dX6_canPrint_60 rfl (by decide) h
    · have h := h.2 hc
      refine z_iload_n (pc' := 52) dX6_canPrint_51 rfl rfl ?_
      refine z_if_ne (pt := 59) (pc' := 55) dX6_canPrint_52 (by decide) rfl (fun hc => ?_) (fun hc => ?_)
      · have h := h.1 hc
        refine z_iconst (x := 0) (pc' := 60) dX6_canPrint_59 (by decide) rfl ?_
        exact z_zret (ty := .boolean) dX6_canPrint_60 rfl (by decide) h
      · have h := h.2 hc
        refine z_iconst (x := 1) (pc' := 56) dX6_canPrint_55 (by decide) rfl ?_
        refine z_goto (pc' := 60) dX6_canPrint_56 (by decide) ?_
        exact z_zret (ty := .boolean) dX6_canPrint_60 rfl (by decide) h
def wp_X6_check_0 (E : ZE) (l : Launch) (d b : Nat) (G0 : ZG) (Q : ZQ) (k : Nat) (q0 : Nat) (q1 : Nat) (G : ZG) : Prop :=
  zob G q1 1 ∧
  zob G (zrv G q1 6) 11 ∧
  ((¬ (ziv G (zrv G q1 6) 4) = 0 →
    zW E l mX6_check d b G0 Q k 32 [some (.ref q0), some (.ref q1), none] [.int 1] G) ∧
  (¬ (¬ (ziv G (zrv G q1 6) 4) = 0) →
    zob G q1 1 ∧
    zob G (zrv G q1 6) 11 ∧
    zob G q0 7 ∧
    zob G (zrv G q0 2) 10 ∧
    (((ziv G (zrv G q1 6) 2) ≤ (ziv G (zrv G q0 2) 2) →
      zW E l mX6_check d b G0 Q k 32 [some (.ref q0), some (.ref q1), none] [.int 0] G) ∧
    (¬ ((ziv G (zrv G q1 6) 2) ≤ (ziv G (zrv G q0 2) 2)) →
      zW E l mX6_check d b G0 Q k 32 [some (.ref q0), some (.ref q1), none] [.int 1] G))))
theorem wpt_X6_check_0 {E : ZE} {l : Launch} {d b : Nat} {G0 : ZG} {Q : ZQ} {k : Nat} {q0 : Nat} {q1 : Nat} {G : ZG} (h : wp_X6_check_0 E l d b G0 Q k q0 q1 G) : zW E l mX6_check d b G0 Q k 0 [some (.ref q0), some (.ref q1), none] [] G := by
  unfold wp_X6_check_0 at h
  refine z_aload_n (pc' := 1) dX6_check_0 rfl rfl ?_
  obtain ⟨h1, h⟩ := h
  refine z_getR (ci := 1) (kf := 6) (pc' := 4) dX6_check_1 kX6_205 (Or.inl rfl) (by decide) (by decide) rfl rfl h1 ?_
  obtain ⟨h1, h⟩ := h
  refine z_getI (ci := 11) (kf := 4) (pc' := 7) dX6_check_4 kX6_234 (Or.inl rfl) (by decide) (by decide) rfl rfl h1 ?_
  refine z_if_ne (pt := 27) (pc' := 10) dX6_check_7 (by decide) rfl (fun hc => ?_) (fun hc => ?_)
  · have h := h.1 hc
    refine z_iconst (x := 1) (pc' := 28) dX6_check_27 (by decide) rfl ?_
    refine z_goto (pc' := 32) dX6_check_28 (by decide) ?_
    exact z_dr (ls' := [some (.ref q0), some (.ref q1), none]) ⟨rfl, rfl, trivial⟩ h
  · have h := h.2 hc
    refine z_aload_n (pc' := 11) dX6_check_10 rfl rfl ?_
    obtain ⟨h1, h⟩ := h
    refine z_getR (ci := 1) (kf := 6) (pc' := 14) dX6_check_11 kX6_205 (Or.inl rfl) (by decide) (by decide) rfl rfl h1 ?_
    obtain ⟨h1, h⟩ := h
    refine z_getI (ci := 11) (kf := 2) (pc' := 17) dX6_check_14 kX6_209 (Or.inl rfl) (by decide) (by decide) rfl rfl h1 ?_
    refine z_aload_n (pc' := 18) dX6_check_17 rfl rfl ?_
    obtain ⟨h1, h⟩ := h
    refine z_getR (ci := 7) (kf := 2) (pc' := 21) dX6_check_18 kX6_57 (Or.inl rfl) (by decide) (by decide) rfl rfl h1 ?_
    obtain ⟨h1, h⟩ := h
    refine z_getI (ci := 10) (kf := 2) (pc' := 24) dX6_check_21 kX6_237 (Or.inl rfl) (by decide) (by decide) rfl rfl h1 ?_
    refine z_icmp_le (pt := 31) (pc' := 27) dX6_check_24 (by decide) rfl (fun hc => ?_) (fun hc => ?_)
    · have h := h.1 hc
      refine z_iconst (x := 0) (pc' := 32) dX6_check_31 (by decide) rfl ?_
      exact z_dr (ls' := [some (.ref q0), some (.ref q1), none]) ⟨rfl, rfl, trivial⟩ h
    · have h := h.2 hc
      refine z_iconst (x := 1) (pc' := 28) dX6_check_27 (by decide) rfl ?_
      refine z_goto (pc' := 32) dX6_check_28 (by decide) ?_
      exact z_dr (ls' := [some (.ref q0), some (.ref q1), none]) ⟨rfl, rfl, trivial⟩ h
def wp_X6_check_32 (E : ZE) (l : Launch) (d b : Nat) (G0 : ZG) (Q : ZQ) (k : Nat) (q0 : Nat) (q1 : Nat) (s0 : Int32) (G : ZG) : Prop :=
  zob G q0 7 ∧
  zob G q1 1 ∧
  zob G q0 7 ∧
  zob G (zrv G q0 2) 10 ∧
  zob G (zrv G q0 0) 8 ∧
  xcI E l mX7_isNearOne d [.ref (zrv G q0 0), .ref (zrv G q1 1), .int 1, .int (ziv G (zrv G q0 2) 1)] G k (fun X G9 => Q (.inr X) G9) (fun y1 G2 k3 =>
  ((y1 = 0 →
    zob G2 q0 7 ∧
    zob G2 q1 1 ∧
    zob G2 q0 7 ∧
    zob G2 (zrv G2 q0 2) 10 ∧
    zob G2 (zrv G2 q0 0) 8 ∧
    xcI E l mX7_isNearOne d [.ref (zrv G2 q0 0), .ref (zrv G2 q1 1), .int 0, .int (ziv G2 (zrv G2 q0 2) 1)] G2 k3 (fun X G9 => Q (.inr X) G9) (fun y4 G5 k6 =>
    ((y4 = 0 →
      ((s0 = 0 →
        zob G5 q1 1 ∧
        ∀ G7, G7 = zsi G5 q1 7 5 →
        Q (.inl none) G7) ∧
      (¬ (s0 = 0) →
        zob G5 q1 1 ∧
        ∀ G8, G8 = zsi G5 q1 7 4 →
        Q (.inl none) G8))) ∧
    (¬ (y4 = 0) →
      zob G5 q1 1 ∧
      ∀ G9, G9 = zsi G5 q1 7 3 →
      Q (.inl none) G9)))) ∧
  (¬ (y1 = 0) →
    zob G2 q1 1 ∧
    ∀ G10, G10 = zsi G2 q1 7 9 →
    Q (.inl none) G10)))
theorem wpt_X6_check_32 {E : ZE} {l : Launch} {d b : Nat} {G0 : ZG} {Q : ZQ} {k : Nat} {q0 : Nat} {q1 : Nat} {s0 : Int32} {G : ZG} (h : wp_X6_check_32 E l d b G0 Q k q0 q1 s0 G) : zW E l mX6_check d b G0 Q k 32 [some (.ref q0), some (.ref q1), none] [.int s0] G := by
  unfold wp_X6_check_32 at h
  refine z_istore_n (pc' := 33) dX6_check_32 (by decide) rfl ?_
  refine z_aload_n (pc' := 34) dX6_check_33 rfl rfl ?_
  obtain ⟨h1, h⟩ := h
  refine z_getR (ci := 7) (kf := 0) (pc' := 37) dX6_check_34 kX6_49 (Or.inl rfl) (by decide) (by decide) rfl rfl h1 ?_
  refine z_aload_n (pc' := 38) dX6_check_37 rfl rfl ?_
  obtain ⟨h1, h⟩ := h
  refine z_getR (ci := 1) (kf := 1) (pc' := 41) dX6_check_38 kX6_240 (Or.inl rfl) (by decide) (by decide) rfl rfl h1 ?_
  refine z_iconst (x := 1) (pc' := 42) dX6_check_41 (by decide) rfl ?_
  refine z_aload_n (pc' := 43) dX6_check_42 rfl rfl ?_
  obtain ⟨h1, h⟩ := h
  refine z_getR (ci := 7) (kf := 2) (pc' := 46) dX6_check_43 kX6_57 (Or.inl rfl) (by decide) (by decide) rfl rfl h1 ?_
  obtain ⟨h1, h⟩ := h
  refine z_getI (ci := 10) (kf := 1) (pc' := 49) dX6_check_46 kX6_245 (Or.inl rfl) (by decide) (by decide) rfl rfl h1 ?_
  obtain ⟨h1, h⟩ := h
  obtain ⟨d1, b1, Qz, hm, hdd, hb, hkx, hk⟩ := h
  refine z_callV (Y := mX7_isNearOne) (n := 3) (as := [.ref (zrv G q1 1), .int 1, .int (ziv G (zrv G q0 2) 1)]) (st := []) (pc' := 52) (ci := 8) (q := (zrv G q0 0)) hm dX6_check_49 kX6_248 vX7_isNearOne rfl rfl (by decide) rfl h1 hdd hb (Nat.le_of_ble_eq_true rfl) (fun r G2 hz => ?_) hkx
  obtain ⟨y1, rfl, h⟩ := hk r G2 hz
  refine z_if_eq (pt := 64) (pc' := 55) dX6_check_52 (by decide) rfl (fun hc => ?_) (fun hc => ?_)
  · have h := h.1 hc
    refine z_aload_n (pc' := 65) dX6_check_64 rfl rfl ?_
    obtain ⟨h1, h⟩ := h
    refine z_getR (ci := 7) (kf := 0) (pc' := 68) dX6_check_65 kX6_49 (Or.inl rfl) (by decide) (by decide) rfl rfl h1 ?_
    refine z_aload_n (pc' := 69) dX6_check_68 rfl rfl ?_
    obtain ⟨h1, h⟩ := h
    refine z_getR (ci := 1) (kf := 1) (pc' := 72) dX6_check_69 kX6_240 (Or.inl rfl) (by decide) (by decide) rfl rfl h1 ?_
    refine z_iconst (x := 0) (pc' := 73) dX6_check_72 (by decide) rfl ?_
    refine z_aload_n (pc' := 74) dX6_check_73 rfl rfl ?_
    obtain ⟨h1, h⟩ := h
    refine z_getR (ci := 7) (kf := 2) (pc' := 77) dX6_check_74 kX6_57 (Or.inl rfl) (by decide) (by decide) rfl rfl h1 ?_
    obtain ⟨h1, h⟩ := h
    refine z_getI (ci := 10) (kf := 1) (pc' := 80) dX6_check_77 kX6_245 (Or.inl rfl) (by decide) (by decide) rfl rfl h1 ?_
    obtain ⟨h1, h⟩ := h
    obtain ⟨d1, b1, Qz, hm, hdd, hb, hkx, hk⟩ := h
    refine z_callV (Y := mX7_isNearOne) (n := 3) (as := [.ref (zrv G2 q1 1), .int 0, .int (ziv G2 (zrv G2 q0 2) 1)]) (st := []) (pc' := 83) (ci := 8) (q := (zrv G2 q0 0)) hm dX6_check_80 kX6_248 vX7_isNearOne rfl rfl (by decide) rfl h1 hdd hb (Nat.le_of_ble_eq_true rfl) (fun r G5 hz => ?_) hkx
    obtain ⟨y4, rfl, h⟩ := hk r G5 hz
    refine z_if_eq (pt := 94) (pc' := 86) dX6_check_83 (by decide) rfl (fun hc => ?_) (fun hc => ?_)
    · have h := h.1 hc
      refine z_aload_n (pc' := 95) dX6_check_94 rfl rfl ?_
      refine z_iload_n (pc' := 96) dX6_check_95 rfl rfl ?_
      refine z_if_eq (pt := 103) (pc' := 99) dX6_check_96 (by decide) rfl (fun hc => ?_) (fun hc => ?_)
      · have h := h.1 hc
        refine z_iconst (x := 5) (pc' := 104) dX6_check_103 (by decide) rfl ?_
        obtain ⟨h1, h⟩ := h
        obtain ⟨G7, hG⟩ : ∃ z, z = zsi G5 q1 7 5 := ⟨_, rfl⟩
        have h := h _ hG
        refine z_putI (ci := 1) (kf := 7) (pc' := 107) dX6_check_104 kX6_106 (Or.inl rfl) (by decide) (by decide) rfl (Or.inl rfl) rfl h1 (zok_int _) ?_
        refine z_st hG ?_
        exact z_vret dX6_check_107 rfl h
      · have h := h.2 hc
        refine z_iconst (x := 4) (pc' := 100) dX6_check_99 (by decide) rfl ?_
        refine z_goto (pc' := 104) dX6_check_100 (by decide) ?_
        obtain ⟨h1, h⟩ := h
        obtain ⟨G8, hG⟩ : ∃ z, z = zsi G5 q1 7 4 := ⟨_, rfl⟩
        have h := h _ hG
        refine z_putI (ci := 1) (kf := 7) (pc' := 107) dX6_check_104 kX6_106 (Or.inl rfl) (by decide) (by decide) rfl (Or.inl rfl) rfl h1 (zok_int _) ?_
        refine z_st hG ?_
        exact z_vret dX6_check_107 rfl h
    · have h := h.2 hc
      refine z_aload_n (pc' := 87) dX6_check_86 rfl rfl ?_
      refine z_iconst (x := 3) (pc' := 88) dX6_check_87 (by decide) rfl ?_
      obtain ⟨h1, h⟩ := h
      obtain ⟨G9, hG⟩ : ∃ z, z = zsi G5 q1 7 3 := ⟨_, rfl⟩
      have h := h _ hG
      refine z_putI (ci := 1) (kf := 7) (pc' := 91) dX6_check_88 kX6_106 (Or.inl rfl) (by decide) (by decide) rfl (Or.inl rfl) rfl h1 (zok_int _) ?_
      refine z_st hG ?_
      refine z_goto (pc' := 107) dX6_check_91 (by decide) ?_
      exact z_vret dX6_check_107 rfl h
  · have h := h.2 hc
    refine z_aload_n (pc' := 56) dX6_check_55 rfl rfl ?_
    refine z_bipush (x := 9) (pc' := 58) dX6_check_56 (by decide) rfl ?_
    obtain ⟨h1, h⟩ := h
    obtain ⟨G10, hG⟩ : ∃ z, z = zsi G2 q1 7 9 := ⟨_, rfl⟩
    have h := h _ hG
    refine z_putI (ci := 1) (kf := 7) (pc' := 61) dX6_check_58 kX6_106 (Or.inl rfl) (by decide) (by decide) rfl (Or.inl rfl) rfl h1 (zok_int _) ?_
    refine z_st hG ?_
    refine z_goto (pc' := 107) dX6_check_61 (by decide) ?_
    exact z_vret dX6_check_107 rfl h
def wp_X6_checkHeldAgain_0 (E : ZE) (l : Launch) (d b : Nat) (G0 : ZG) (Q : ZQ) (k : Nat) (q0 : Nat) (G : ZG) : Prop :=
  zW E l mX6_checkHeldAgain d b G0 Q k 4 [some (.ref q0), some (.int 0), some (.int 0), none] [] G
theorem wpt_X6_checkHeldAgain_0 {E : ZE} {l : Launch} {d b : Nat} {G0 : ZG} {Q : ZQ} {k : Nat} {q0 : Nat} {G : ZG} (h : wp_X6_checkHeldAgain_0 E l d b G0 Q k q0 G) : zW E l mX6_checkHeldAgain d b G0 Q k 0 [some (.ref q0), none, none, none] [] G := by
  unfold wp_X6_checkHeldAgain_0 at h
  refine z_iconst (x := 0) (pc' := 1) dX6_checkHeldAgain_0 (by decide) rfl ?_
  refine z_istore_n (pc' := 2) dX6_checkHeldAgain_1 (by decide) rfl ?_
  refine z_iconst (x := 0) (pc' := 3) dX6_checkHeldAgain_2 (by decide) rfl ?_
  refine z_istore_n (pc' := 4) dX6_checkHeldAgain_3 (by decide) rfl ?_
  exact z_dr (ls' := [some (.ref q0), some (.int 0), some (.int 0), none]) ⟨rfl, rfl, rfl, trivial⟩ h
def wp_X6_checkHeldAgain_4 (E : ZE) (l : Launch) (d b : Nat) (G0 : ZG) (Q : ZQ) (k : Nat) (q0 : Nat) (x1 : Int32) (x2 : Int32) (G : ZG) : Prop :=
  zob G q0 7 ∧
  zob G (zrv G q0 3) 0 ∧
  xcI E l mJx4a65c_size_8abf5 d [.ref (zrv G q0 3)] G k (fun X G9 => Q (.inr X) G9) (fun y1 G2 k3 =>
  ((y1 ≤ x2 →
    Q (.inl (some (.int x1))) G2) ∧
  (¬ (y1 ≤ x2) →
    zob G2 q0 7 ∧
    zob G2 (zrv G2 q0 3) 0 ∧
    xcR E l mJx4a65c_get_915e3 d [.ref (zrv G2 q0 3), .int x2] G2 k3 (fun X G9 => Q (.inr X) G9) (fun y4 G5 k6 =>
    zob G5 y4 1 ∧
    zob G5 y4 1 ∧
    ((¬ (ziv G5 y4 7) = 3 →
      zW E l mX6_checkHeldAgain d b G0 Q k6 4 [some (.ref q0), some (.int x1), some (.int (x2 + 1)), none] [] G5) ∧
    (¬ (¬ (ziv G5 y4 7) = 3) →
      zob G5 q0 7 ∧
      xcV E l mX6_check d [.ref q0, .ref y4] G5 k6 (fun X G9 => Q (.inr X) G9) (fun G7 k8 =>
      zob G7 y4 1 ∧
      (((ziv G7 y4 7) = 3 →
        zW E l mX6_checkHeldAgain d b G0 Q k8 4 [some (.ref q0), some (.int x1), some (.int (x2 + 1)), none] [] G7) ∧
      (¬ ((ziv G7 y4 7) = 3) →
        zW E l mX6_checkHeldAgain d b G0 Q k8 4 [some (.ref q0), some (.int (x1 + 1)), some (.int (x2 + 1)), none] [] G7)))))))))
theorem wpt_X6_checkHeldAgain_4 {E : ZE} {l : Launch} {d b : Nat} {G0 : ZG} {Q : ZQ} {k : Nat} {q0 : Nat} {x1 : Int32} {x2 : Int32} {G : ZG} (h : wp_X6_checkHeldAgain_4 E l d b G0 Q k q0 x1 x2 G) : zW E l mX6_checkHeldAgain d b G0 Q k 4 [some (.ref q0), some (.int x1), some (.int x2), none] [] G := by
  unfold wp_X6_checkHeldAgain_4 at h
  refine z_iload_n (pc' := 5) dX6_checkHeldAgain_4 rfl rfl ?_
  refine z_aload_n (pc' := 6) dX6_checkHeldAgain_5 rfl rfl ?_
  obtain ⟨h1, h⟩ := h
  refine z_getR (ci := 7) (kf := 3) (pc' := 9) dX6_checkHeldAgain_6 kX6_12 (Or.inl rfl) (by decide) (by decide) rfl rfl h1 ?_
  obtain ⟨h1, h⟩ := h
  obtain ⟨d1, b1, Qz, hm, hdd, hb, hkx, hk⟩ := h
  refine z_callV (Y := mJx4a65c_size_8abf5) (n := 0) (as := []) (st := [.int x2]) (pc' := 12) (ci := 0) (q := (zrv G q0 3)) hm dX6_checkHeldAgain_9 kX6_68 vJx4a65c_size_8abf5 rfl rfl (by decide) rfl h1 hdd hb (Nat.le_of_ble_eq_true rfl) (fun r G2 hz => ?_) hkx
  obtain ⟨y1, rfl, h⟩ := hk r G2 hz
  refine z_icmp_ge (pt := 57) (pc' := 15) dX6_checkHeldAgain_12 (by decide) rfl (fun hc => ?_) (fun hc => ?_)
  · have h := h.1 hc
    refine z_iload_n (pc' := 58) dX6_checkHeldAgain_57 rfl rfl ?_
    exact z_iret dX6_checkHeldAgain_58 rfl h
  · have h := h.2 hc
    refine z_aload_n (pc' := 16) dX6_checkHeldAgain_15 rfl rfl ?_
    obtain ⟨h1, h⟩ := h
    refine z_getR (ci := 7) (kf := 3) (pc' := 19) dX6_checkHeldAgain_16 kX6_12 (Or.inl rfl) (by decide) (by decide) rfl rfl h1 ?_
    refine z_iload_n (pc' := 20) dX6_checkHeldAgain_19 rfl rfl ?_
    obtain ⟨h1, h⟩ := h
    obtain ⟨d1, b1, Qz, hm, hdd, hb, hkx, hk⟩ := h
    refine z_callV (Y := mJx4a65c_get_915e3) (n := 1) (as := [.int x2]) (st := []) (pc' := 23) (ci := 0) (q := (zrv G2 q0 3)) hm dX6_checkHeldAgain_20 kX6_72 vJx4a65c_get_915e3 rfl rfl (by decide) rfl h1 hdd hb (Nat.le_of_ble_eq_true rfl) (fun r G5 hz => ?_) hkx
    obtain ⟨y4, rfl, h⟩ := hk r G5 hz
    obtain ⟨h1, h⟩ := h
    refine z_castO (ci := 1) (pc' := 26) dX6_checkHeldAgain_23 kX6_76 (by decide) rfl h1 ?_
    refine z_astore_n (pc' := 27) dX6_checkHeldAgain_26 (by decide) rfl ?_
    refine z_aload_n (pc' := 28) dX6_checkHeldAgain_27 rfl rfl ?_
    obtain ⟨h1, h⟩ := h
    refine z_getI (ci := 1) (kf := 7) (pc' := 31) dX6_checkHeldAgain_28 kX6_106 (Or.inl rfl) (by decide) (by decide) rfl rfl h1 ?_
    refine z_iconst (x := 3) (pc' := 32) dX6_checkHeldAgain_31 (by decide) rfl ?_
    refine z_icmp_ne (pt := 51) (pc' := 35) dX6_checkHeldAgain_32 (by decide) rfl (fun hc => ?_) (fun hc => ?_)
    · have h := h.1 hc
      refine z_iinc (y := x2 + 1) (pc' := 54) dX6_checkHeldAgain_51 rfl (zinc_1 _) (by decide) rfl ?_
      refine z_goto (pc' := 4) dX6_checkHeldAgain_54 (by decide) ?_
      exact z_dr (ls' := [some (.ref q0), some (.int x1), some (.int (x2 + 1)), none]) ⟨rfl, rfl, rfl, trivial⟩ h
    · have h := h.2 hc
      refine z_aload_n (pc' := 36) dX6_checkHeldAgain_35 rfl rfl ?_
      refine z_aload_n (pc' := 37) dX6_checkHeldAgain_36 rfl rfl ?_
      obtain ⟨h1, h⟩ := h
      obtain ⟨d1, b1, Qz, hm, hdd, hb, hkx, hk⟩ := h
      refine z_callV (Y := mX6_check) (n := 1) (as := [.ref y4]) (st := []) (pc' := 40) (ci := 7) (q := q0) hm dX6_checkHeldAgain_37 kX6_222 vX6_check rfl rfl (by decide) rfl h1 hdd hb (Nat.le_of_ble_eq_true rfl) (fun r G7 hz => ?_) hkx
      obtain ⟨rfl, h⟩ := hk r G7 hz
      refine z_aload_n (pc' := 41) dX6_checkHeldAgain_40 rfl rfl ?_
      obtain ⟨h1, h⟩ := h
      refine z_getI (ci := 1) (kf := 7) (pc' := 44) dX6_checkHeldAgain_41 kX6_106 (Or.inl rfl) (by decide) (by decide) rfl rfl h1 ?_
      refine z_iconst (x := 3) (pc' := 45) dX6_checkHeldAgain_44 (by decide) rfl ?_
      refine z_icmp_eq (pt := 51) (pc' := 48) dX6_checkHeldAgain_45 (by decide) rfl (fun hc => ?_) (fun hc => ?_)
      · have h := h.1 hc
        refine z_iinc (y := x2 + 1) (pc' := 54) dX6_checkHeldAgain_51 rfl (zinc_1 _) (by decide) rfl ?_
        refine z_goto (pc' := 4) dX6_checkHeldAgain_54 (by decide) ?_
        exact z_dr (ls' := [some (.ref q0), some (.int x1), some (.int (x2 + 1)), none]) ⟨rfl, rfl, rfl, trivial⟩ h
      · have h := h.2 hc
        refine z_iinc (y := x1 + 1) (pc' := 51) dX6_checkHeldAgain_48 rfl (zinc_1 _) (by decide) rfl ?_
        refine z_iinc (y := x2 + 1) (pc' := 54) dX6_checkHeldAgain_51 rfl (zinc_1 _) (by decide) rfl ?_
        refine z_goto (pc' := 4) dX6_checkHeldAgain_54 (by decide) ?_
        exact z_dr (ls' := [some (.ref q0), some (.int (x1 + 1)), some (.int (x2 + 1)), none]) ⟨rfl, rfl, rfl, trivial⟩ h
def wp_X6_copyAskings_0 (E : ZE) (l : Launch) (d b : Nat) (G0 : ZG) (Q : ZQ) (k : Nat) (q0 : Nat) (q1 : Nat) (G : ZG) : Prop :=
  zW E l mX6_copyAskings d b G0 Q k 2 [some (.ref q0), some (.ref q1), some (.int 0), none] [] G
theorem wpt_X6_copyAskings_0 {E : ZE} {l : Launch} {d b : Nat} {G0 : ZG} {Q : ZQ} {k : Nat} {q0 : Nat} {q1 : Nat} {G : ZG} (h : wp_X6_copyAskings_0 E l d b G0 Q k q0 q1 G) : zW E l mX6_copyAskings d b G0 Q k 0 [some (.ref q0), some (.ref q1), none, none] [] G := by
  unfold wp_X6_copyAskings_0 at h
  refine z_iconst (x := 0) (pc' := 1) dX6_copyAskings_0 (by decide) rfl ?_
  refine z_istore_n (pc' := 2) dX6_copyAskings_1 (by decide) rfl ?_
  exact z_dr (ls' := [some (.ref q0), some (.ref q1), some (.int 0), none]) ⟨rfl, rfl, rfl, trivial⟩ h
def wp_X6_copyAskings_2 (E : ZE) (l : Launch) (d b : Nat) (G0 : ZG) (Q : ZQ) (k : Nat) (q0 : Nat) (q1 : Nat) (x2 : Int32) (G : ZG) : Prop :=
  zob G q1 7 ∧
  zob G (zrv G q1 3) 0 ∧
  xcI E l mJx4a65c_size_8abf5 d [.ref (zrv G q1 3)] G k (fun X G9 => Q (.inr X) G9) (fun y1 G2 k3 =>
  ((y1 ≤ x2 →
    Q (.inl none) G2) ∧
  (¬ (y1 ≤ x2) →
    zob G2 q1 7 ∧
    zob G2 (zrv G2 q1 3) 0 ∧
    xcR E l mJx4a65c_get_915e3 d [.ref (zrv G2 q1 3), .int x2] G2 k3 (fun X G9 => Q (.inr X) G9) (fun y4 G5 k6 =>
    zob G5 y4 1 ∧
    zob G5 q0 7 ∧
    zob G5 (zrv G5 q0 3) 0 ∧
    xcI E l mJx4a65c_size_8abf5 d [.ref (zrv G5 q0 3)] G5 k6 (fun X G9 => Q (.inr X) G9) (fun y7 G8 k9 =>
    ((x2 < y7 →
      zW E l mX6_copyAskings d b G0 Q k9 48 [some (.ref q0), some (.ref q1), some (.int x2), some (.ref y4)] [] G8) ∧
    (¬ (x2 < y7) →
      zob G8 q0 7 ∧
      zob G8 y4 1 ∧
      xcR E l mX0_twin d [.ref y4] G8 k9 (fun X G9 => Q (.inr X) G9) (fun y10 G11 k12 =>
      zob G11 (zrv G8 q0 3) 0 ∧
      xcI E l mJx4a65c_add_9ea2d d [.ref (zrv G8 q0 3), .ref y10] G11 k12 (fun X G9 => Q (.inr X) G9) (fun y13 G14 k15 =>
      zW E l mX6_copyAskings d b G0 Q k15 48 [some (.ref q0), some (.ref q1), some (.int x2), some (.ref y4)] [] G14)))))))))
theorem wpt_X6_copyAskings_2 {E : ZE} {l : Launch} {d b : Nat} {G0 : ZG} {Q : ZQ} {k : Nat} {q0 : Nat} {q1 : Nat} {x2 : Int32} {G : ZG} (h : wp_X6_copyAskings_2 E l d b G0 Q k q0 q1 x2 G) : zW E l mX6_copyAskings d b G0 Q k 2 [some (.ref q0), some (.ref q1), some (.int x2), none] [] G := by
  unfold wp_X6_copyAskings_2 at h
  refine z_iload_n (pc' := 3) dX6_copyAskings_2 rfl rfl ?_
  refine z_aload_n (pc' := 4) dX6_copyAskings_3 rfl rfl ?_
  obtain ⟨h1, h⟩ := h
  refine z_getR (ci := 7) (kf := 3) (pc' := 7) dX6_copyAskings_4 kX6_12 (Or.inl rfl) (by decide) (by decide) rfl rfl h1 ?_
  obtain ⟨h1, h⟩ := h
  obtain ⟨d1, b1, Qz, hm, hdd, hb, hkx, hk⟩ := h
  refine z_callV (Y := mJx4a65c_size_8abf5) (n := 0) (as := []) (st := [.int x2]) (pc' := 10) (ci := 0) (q := (zrv G q1 3)) hm dX6_copyAskings_7 kX6_68 vJx4a65c_size_8abf5 rfl rfl (by decide) rfl h1 hdd hb (Nat.le_of_ble_eq_true rfl) (fun r G2 hz => ?_) hkx
  obtain ⟨y1, rfl, h⟩ := hk r G2 hz
  refine z_icmp_ge (pt := 80) (pc' := 13) dX6_copyAskings_10 (by decide) rfl (fun hc => ?_) (fun hc => ?_)
  · have h := h.1 hc
    exact z_vret dX6_copyAskings_80 rfl h
  · have h := h.2 hc
    refine z_aload_n (pc' := 14) dX6_copyAskings_13 rfl rfl ?_
    obtain ⟨h1, h⟩ := h
    refine z_getR (ci := 7) (kf := 3) (pc' := 17) dX6_copyAskings_14 kX6_12 (Or.inl rfl) (by decide) (by decide) rfl rfl h1 ?_
    refine z_iload_n (pc' := 18) dX6_copyAskings_17 rfl rfl ?_
    obtain ⟨h1, h⟩ := h
    obtain ⟨d1, b1, Qz, hm, hdd, hb, hkx, hk⟩ := h
    refine z_callV (Y := mJx4a65c_get_915e3) (n := 1) (as := [.int x2]) (st := []) (pc' := 21) (ci := 0) (q := (zrv G2 q1 3)) hm dX6_copyAskings_18 kX6_72 vJx4a65c_get_915e3 rfl rfl (by decide) rfl h1 hdd hb (Nat.le_of_ble_eq_true rfl) (fun r G5 hz => ?_) hkx
    obtain ⟨y4, rfl, h⟩ := hk r G5 hz
    obtain ⟨h1, h⟩ := h
    refine z_castO (ci := 1) (pc' := 24) dX6_copyAskings_21 kX6_76 (by decide) rfl h1 ?_
    refine z_astore_n (pc' := 25) dX6_copyAskings_24 (by decide) rfl ?_
    refine z_iload_n (pc' := 26) dX6_copyAskings_25 rfl rfl ?_
    refine z_aload_n (pc' := 27) dX6_copyAskings_26 rfl rfl ?_
    obtain ⟨h1, h⟩ := h
    refine z_getR (ci := 7) (kf := 3) (pc' := 30) dX6_copyAskings_27 kX6_12 (Or.inl rfl) (by decide) (by decide) rfl rfl h1 ?_
    obtain ⟨h1, h⟩ := h
    obtain ⟨d1, b1, Qz, hm, hdd, hb, hkx, hk⟩ := h
    refine z_callV (Y := mJx4a65c_size_8abf5) (n := 0) (as := []) (st := [.int x2]) (pc' := 33) (ci := 0) (q := (zrv G5 q0 3)) hm dX6_copyAskings_30 kX6_68 vJx4a65c_size_8abf5 rfl rfl (by decide) rfl h1 hdd hb (Nat.le_of_ble_eq_true rfl) (fun r G8 hz => ?_) hkx
    obtain ⟨y7, rfl, h⟩ := hk r G8 hz
    refine z_icmp_lt (pt := 48) (pc' := 36) dX6_copyAskings_33 (by decide) rfl (fun hc => ?_) (fun hc => ?_)
    · have h := h.1 hc
      exact z_dr (ls' := [some (.ref q0), some (.ref q1), some (.int x2), some (.ref y4)]) ⟨rfl, rfl, rfl, rfl, trivial⟩ h
    · have h := h.2 hc
      refine z_aload_n (pc' := 37) dX6_copyAskings_36 rfl rfl ?_
      obtain ⟨h1, h⟩ := h
      refine z_getR (ci := 7) (kf := 3) (pc' := 40) dX6_copyAskings_37 kX6_12 (Or.inl rfl) (by decide) (by decide) rfl rfl h1 ?_
      refine z_aload_n (pc' := 41) dX6_copyAskings_40 rfl rfl ?_
      obtain ⟨h1, h⟩ := h
      obtain ⟨d1, b1, Qz, hm, hdd, hb, hkx, hk⟩ := h
      refine z_callV (Y := mX0_twin) (n := 0) (as := []) (st := [.ref (zrv G8 q0 3)]) (pc' := 44) (ci := 1) (q := y4) hm dX6_copyAskings_41 kX6_78 vX0_twin rfl rfl (by decide) rfl h1 hdd hb (Nat.le_of_ble_eq_true rfl) (fun r G11 hz => ?_) hkx
      obtain ⟨y10, rfl, h⟩ := hk r G11 hz
      obtain ⟨h1, h⟩ := h
      obtain ⟨d1, b1, Qz, hm, hdd, hb, hkx, hk⟩ := h
      refine z_callV (Y := mJx4a65c_add_9ea2d) (n := 1) (as := [.ref y10]) (st := []) (pc' := 47) (ci := 0) (q := (zrv G8 q0 3)) hm dX6_copyAskings_44 kX6_82 vJx4a65c_add_9ea2d rfl rfl (by decide) rfl h1 hdd hb (Nat.le_of_ble_eq_true rfl) (fun r G14 hz => ?_) hkx
      obtain ⟨y13, rfl, h⟩ := hk r G14 hz
      refine z_pop (pc' := 48) dX6_copyAskings_47 rfl rfl ?_
      exact z_dr (ls' := [some (.ref q0), some (.ref q1), some (.int x2), some (.ref y4)]) ⟨rfl, rfl, rfl, rfl, trivial⟩ h
def wp_X6_copyAskings_48 (E : ZE) (l : Launch) (d b : Nat) (G0 : ZG) (Q : ZQ) (k : Nat) (q0 : Nat) (q1 : Nat) (x2 : Int32) (q3 : Nat) (G : ZG) : Prop :=
  zob G q0 7 ∧
  zob G (zrv G q0 3) 0 ∧
  xcI E l mJx4a65c_size_8abf5 d [.ref (zrv G q0 3)] G k (fun X G9 => Q (.inr X) G9) (fun y1 G2 k3 =>
  ((y1 ≤ x2 →
    zW E l mX6_copyAskings d b G0 Q k3 2 [some (.ref q0), some (.ref q1), some (.int (x2 + 1)), none] [] G2) ∧
  (¬ (y1 ≤ x2) →
    zob G2 q0 7 ∧
    zob G2 (zrv G2 q0 3) 0 ∧
    xcR E l mJx4a65c_get_915e3 d [.ref (zrv G2 q0 3), .int x2] G2 k3 (fun X G9 => Q (.inr X) G9) (fun y4 G5 k6 =>
    zob G5 y4 1 ∧
    zob G5 y4 1 ∧
    xcV E l mX0_copyFrom d [.ref y4, .ref q3] G5 k6 (fun X G9 => Q (.inr X) G9) (fun G7 k8 =>
    zW E l mX6_copyAskings d b G0 Q k8 2 [some (.ref q0), some (.ref q1), some (.int (x2 + 1)), none] [] G7)))))
theorem wpt_X6_copyAskings_48 {E : ZE} {l : Launch} {d b : Nat} {G0 : ZG} {Q : ZQ} {k : Nat} {q0 : Nat} {q1 : Nat} {x2 : Int32} {q3 : Nat} {G : ZG} (h : wp_X6_copyAskings_48 E l d b G0 Q k q0 q1 x2 q3 G) : zW E l mX6_copyAskings d b G0 Q k 48 [some (.ref q0), some (.ref q1), some (.int x2), some (.ref q3)] [] G := by
  unfold wp_X6_copyAskings_48 at h
  refine z_iload_n (pc' := 49) dX6_copyAskings_48 rfl rfl ?_
  refine z_aload_n (pc' := 50) dX6_copyAskings_49 rfl rfl ?_
  obtain ⟨h1, h⟩ := h
  refine z_getR (ci := 7) (kf := 3) (pc' := 53) dX6_copyAskings_50 kX6_12 (Or.inl rfl) (by decide) (by decide) rfl rfl h1 ?_
  obtain ⟨h1, h⟩ := h
  obtain ⟨d1, b1, Qz, hm, hdd, hb, hkx, hk⟩ := h
  refine z_callV (Y := mJx4a65c_size_8abf5) (n := 0) (as := []) (st := [.int x2]) (pc' := 56) (ci := 0) (q := (zrv G q0 3)) hm dX6_copyAskings_53 kX6_68 vJx4a65c_size_8abf5 rfl rfl (by decide) rfl h1 hdd hb (Nat.le_of_ble_eq_true rfl) (fun r G2 hz => ?_) hkx
  obtain ⟨y1, rfl, h⟩ := hk r G2 hz
  refine z_icmp_ge (pt := 74) (pc' := 59) dX6_copyAskings_56 (by decide) rfl (fun hc => ?_) (fun hc => ?_)
  · have h := h.1 hc
    refine z_iinc (y := x2 + 1) (pc' := 77) dX6_copyAskings_74 rfl (zinc_1 _) (by decide) rfl ?_
    refine z_goto (pc' := 2) dX6_copyAskings_77 (by decide) ?_
    exact z_dr (ls' := [some (.ref q0), some (.ref q1), some (.int (x2 + 1)), none]) ⟨rfl, rfl, rfl, trivial⟩ h
  · have h := h.2 hc
    refine z_aload_n (pc' := 60) dX6_copyAskings_59 rfl rfl ?_
    obtain ⟨h1, h⟩ := h
    refine z_getR (ci := 7) (kf := 3) (pc' := 63) dX6_copyAskings_60 kX6_12 (Or.inl rfl) (by decide) (by decide) rfl rfl h1 ?_
    refine z_iload_n (pc' := 64) dX6_copyAskings_63 rfl rfl ?_
    obtain ⟨h1, h⟩ := h
    obtain ⟨d1, b1, Qz, hm, hdd, hb, hkx, hk⟩ := h
    refine z_callV (Y := mJx4a65c_get_915e3) (n := 1) (as := [.int x2]) (st := []) (pc' := 67) (ci := 0) (q := (zrv G2 q0 3)) hm dX6_copyAskings_64 kX6_72 vJx4a65c_get_915e3 rfl rfl (by decide) rfl h1 hdd hb (Nat.le_of_ble_eq_true rfl) (fun r G5 hz => ?_) hkx
    obtain ⟨y4, rfl, h⟩ := hk r G5 hz
    obtain ⟨h1, h⟩ := h
    refine z_castO (ci := 1) (pc' := 70) dX6_copyAskings_67 kX6_76 (by decide) rfl h1 ?_
    refine z_aload_n (pc' := 71) dX6_copyAskings_70 rfl rfl ?_
    obtain ⟨h1, h⟩ := h
    obtain ⟨d1, b1, Qz, hm, hdd, hb, hkx, hk⟩ := h
    refine z_callV (Y := mX0_copyFrom) (n := 1) (as := [.ref q3]) (st := []) (pc' := 74) (ci := 1) (q := y4) hm dX6_copyAskings_71 kX6_86 vX0_copyFrom rfl rfl (by decide) rfl h1 hdd hb (Nat.le_of_ble_eq_true rfl) (fun r G7 hz => ?_) hkx
    obtain ⟨rfl, h⟩ := hk r G7 hz
    refine z_iinc (y := x2 + 1) (pc' := 77) dX6_copyAskings_74 rfl (zinc_1 _) (by decide) rfl ?_
    refine z_goto (pc' := 2) dX6_copyAskings_77 (by decide) ?_
    exact z_dr (ls' := [some (.ref q0), some (.ref q1), some (.int (x2 + 1)), none]) ⟨rfl, rfl, rfl, trivial⟩ h
def wp_X6_copyBooklets_0 (E : ZE) (l : Launch) (d b : Nat) (G0 : ZG) (Q : ZQ) (k : Nat) (q0 : Nat) (q1 : Nat) (G : ZG) : Prop :=
  zob G q0 7 ∧
  ∀ G1, G1 = zsi G q0 5 0 →
  zW E l mX6_copyBooklets d b G0 Q k 7 [some (.ref q0), some (.ref q1), some (.int 0)] [] G1
theorem wpt_X6_copyBooklets_0 {E : ZE} {l : Launch} {d b : Nat} {G0 : ZG} {Q : ZQ} {k : Nat} {q0 : Nat} {q1 : Nat} {G : ZG} (h : wp_X6_copyBooklets_0 E l d b G0 Q k q0 q1 G) : zW E l mX6_copyBooklets d b G0 Q k 0 [some (.ref q0), some (.ref q1), none] [] G := by
  unfold wp_X6_copyBooklets_0 at h
  refine z_aload_n (pc' := 1) dX6_copyBooklets_0 rfl rfl ?_
  refine z_iconst (x := 0) (pc' := 2) dX6_copyBooklets_1 (by decide) rfl ?_
  obtain ⟨h1, h⟩ := h
  obtain ⟨G1, hG⟩ : ∃ z, z = zsi G q0 5 0 := ⟨_, rfl⟩
  have h := h _ hG
  refine z_putI (ci := 7) (kf := 5) (pc' := 5) dX6_copyBooklets_2 kX6_21 (Or.inl rfl) (by decide) (by decide) rfl (Or.inl rfl) rfl h1 (zok_int _) ?_
  refine z_st hG ?_
  refine z_iconst (x := 0) (pc' := 6) dX6_copyBooklets_5 (by decide) rfl ?_
  refine z_istore_n (pc' := 7) dX6_copyBooklets_6 (by decide) rfl ?_
  exact z_dr (ls' := [some (.ref q0), some (.ref q1), some (.int 0)]) ⟨rfl, rfl, rfl, trivial⟩ h
def wp_X6_copyBooklets_7 (E : ZE) (l : Launch) (d b : Nat) (G0 : ZG) (Q : ZQ) (k : Nat) (q0 : Nat) (q1 : Nat) (x2 : Int32) (G : ZG) : Prop :=
  zob G q1 7 ∧
  (((ziv G q1 5) ≤ x2 →
    Q (.inl none) G) ∧
  (¬ ((ziv G q1 5) ≤ x2) →
    zob G q1 7 ∧
    zob G (zrv G q1 4) 0 ∧
    xcI E l mJx4a65c_size_8abf5 d [.ref (zrv G q1 4)] G k (fun X G9 => Q (.inr X) G9) (fun y1 G2 k3 =>
    ((y1 ≤ x2 →
      Q (.inl none) G2) ∧
    (¬ (y1 ≤ x2) →
      zob G2 q0 7 ∧
      xcR E l mX6_newBooklet d [.ref q0] G2 k3 (fun X G9 => Q (.inr X) G9) (fun y4 G5 k6 =>
      zob G5 q1 7 ∧
      zob G5 (zrv G5 q1 4) 0 ∧
      xcR E l mJx4a65c_get_915e3 d [.ref (zrv G5 q1 4), .int x2] G5 k6 (fun X G9 => Q (.inr X) G9) (fun y7 G8 k9 =>
      zob G8 y7 2 ∧
      zob G8 y4 2 ∧
      xcV E l mX1_copyFrom d [.ref y4, .ref y7] G8 k9 (fun X G9 => Q (.inr X) G9) (fun G10 k11 =>
      zW E l mX6_copyBooklets d b G0 Q k11 7 [some (.ref q0), some (.ref q1), some (.int (x2 + 1))] [] G10))))))))
theorem wpt_X6_copyBooklets_7 {E : ZE} {l : Launch} {d b : Nat} {G0 : ZG} {Q : ZQ} {k : Nat} {q0 : Nat} {q1 : Nat} {x2 : Int32} {G : ZG} (h : wp_X6_copyBooklets_7 E l d b G0 Q k q0 q1 x2 G) : zW E l mX6_copyBooklets d b G0 Q k 7 [some (.ref q0), some (.ref q1), some (.int x2)] [] G := by
  unfold wp_X6_copyBooklets_7 at h
  refine z_iload_n (pc' := 8) dX6_copyBooklets_7 rfl rfl ?_
  refine z_aload_n (pc' := 9) dX6_copyBooklets_8 rfl rfl ?_
  obtain ⟨h1, h⟩ := h
  refine z_getI (ci := 7) (kf := 5) (pc' := 12) dX6_copyBooklets_9 kX6_21 (Or.inl rfl) (by decide) (by decide) rfl rfl h1 ?_
  refine z_icmp_ge (pt := 50) (pc' := 15) dX6_copyBooklets_12 (by decide) rfl (fun hc => ?_) (fun hc => ?_)
  · have h := h.1 hc
    exact z_vret dX6_copyBooklets_50 rfl h
  · have h := h.2 hc
    refine z_iload_n (pc' := 16) dX6_copyBooklets_15 rfl rfl ?_
    refine z_aload_n (pc' := 17) dX6_copyBooklets_16 rfl rfl ?_
    obtain ⟨h1, h⟩ := h
    refine z_getR (ci := 7) (kf := 4) (pc' := 20) dX6_copyBooklets_17 kX6_18 (Or.inl rfl) (by decide) (by decide) rfl rfl h1 ?_
    obtain ⟨h1, h⟩ := h
    obtain ⟨d1, b1, Qz, hm, hdd, hb, hkx, hk⟩ := h
    refine z_callV (Y := mJx4a65c_size_8abf5) (n := 0) (as := []) (st := [.int x2]) (pc' := 23) (ci := 0) (q := (zrv G q1 4)) hm dX6_copyBooklets_20 kX6_68 vJx4a65c_size_8abf5 rfl rfl (by decide) rfl h1 hdd hb (Nat.le_of_ble_eq_true rfl) (fun r G2 hz => ?_) hkx
    obtain ⟨y1, rfl, h⟩ := hk r G2 hz
    refine z_icmp_ge (pt := 50) (pc' := 26) dX6_copyBooklets_23 (by decide) rfl (fun hc => ?_) (fun hc => ?_)
    · have h := h.1 hc
      exact z_vret dX6_copyBooklets_50 rfl h
    · have h := h.2 hc
      refine z_aload_n (pc' := 27) dX6_copyBooklets_26 rfl rfl ?_
      obtain ⟨h1, h⟩ := h
      obtain ⟨d1, b1, Qz, hm, hdd, hb, hkx, hk⟩ := h
      refine z_callV (Y := mX6_newBooklet) (n := 0) (as := []) (st := []) (pc' := 30) (ci := 7) (q := q0) hm dX6_copyBooklets_27 kX6_90 vX6_newBooklet rfl rfl (by decide) rfl h1 hdd hb (Nat.le_of_ble_eq_true rfl) (fun r G5 hz => ?_) hkx
      obtain ⟨y4, rfl, h⟩ := hk r G5 hz
      refine z_aload_n (pc' := 31) dX6_copyBooklets_30 rfl rfl ?_
      obtain ⟨h1, h⟩ := h
      refine z_getR (ci := 7) (kf := 4) (pc' := 34) dX6_copyBooklets_31 kX6_18 (Or.inl rfl) (by decide) (by decide) rfl rfl h1 ?_
      refine z_iload_n (pc' := 35) dX6_copyBooklets_34 rfl rfl ?_
      obtain ⟨h1, h⟩ := h
      obtain ⟨d1, b1, Qz, hm, hdd, hb, hkx, hk⟩ := h
      refine z_callV (Y := mJx4a65c_get_915e3) (n := 1) (as := [.int x2]) (st := [.ref y4]) (pc' := 38) (ci := 0) (q := (zrv G5 q1 4)) hm dX6_copyBooklets_35 kX6_72 vJx4a65c_get_915e3 rfl rfl (by decide) rfl h1 hdd hb (Nat.le_of_ble_eq_true rfl) (fun r G8 hz => ?_) hkx
      obtain ⟨y7, rfl, h⟩ := hk r G8 hz
      obtain ⟨h1, h⟩ := h
      refine z_castO (ci := 2) (pc' := 41) dX6_copyBooklets_38 kX6_94 (by decide) rfl h1 ?_
      obtain ⟨h1, h⟩ := h
      obtain ⟨d1, b1, Qz, hm, hdd, hb, hkx, hk⟩ := h
      refine z_callV (Y := mX1_copyFrom) (n := 1) (as := [.ref y7]) (st := []) (pc' := 44) (ci := 2) (q := y4) hm dX6_copyBooklets_41 kX6_96 vX1_copyFrom rfl rfl (by decide) rfl h1 hdd hb (Nat.le_of_ble_eq_true rfl) (fun r G10 hz => ?_) hkx
      obtain ⟨rfl, h⟩ := hk r G10 hz
      refine z_iinc (y := x2 + 1) (pc' := 47) dX6_copyBooklets_44 rfl (zinc_1 _) (by decide) rfl ?_
      refine z_goto (pc' := 7) dX6_copyBooklets_47 (by decide) ?_
      exact z_dr (ls' := [some (.ref q0), some (.ref q1), some (.int (x2 + 1))]) ⟨rfl, rfl, rfl, trivial⟩ h
def wp_X6_copyFrom_0 (E : ZE) (l : Launch) (d b : Nat) (G0 : ZG) (Q : ZQ) (k : Nat) (q0 : Nat) (q1 : Nat) (G : ZG) : Prop :=
  zob G q0 7 ∧
  xcV E l mX6_copyAskings d [.ref q0, .ref q1] G k (fun X G9 => Q (.inr X) G9) (fun G1 k2 =>
  zob G1 q0 7 ∧
  xcV E l mX6_copyBooklets d [.ref q0, .ref q1] G1 k2 (fun X G9 => Q (.inr X) G9) (fun G3 k4 =>
  zob G3 q1 7 ∧
  zob G3 q0 7 ∧
  ∀ G5, G5 = zsi G3 q0 6 (ziv G3 q1 6) →
  zob G5 q1 7 ∧
  zob G5 q0 7 ∧
  ∀ G6, G6 = zsi G5 q0 7 (ziv G5 q1 7) →
  zob G6 q1 7 ∧
  zob G6 q0 7 ∧
  ∀ G7, G7 = zsi G6 q0 8 (ziv G6 q1 8) →
  zob G7 q1 7 ∧
  zob G7 q0 7 ∧
  ∀ G8, G8 = zsi G7 q0 9 (ziv G7 q1 9) →
  zob G8 q1 7 ∧
  zob G8 q0 7 ∧
  ∀ G9, G9 = zsi G8 q0 10 (ziv G8 q1 10) →
  zob G9 q1 7 ∧
  zob G9 q0 7 ∧
  ∀ G10, G10 = zsi G9 q0 11 (ziv G9 q1 11) →
  zob G10 q1 7 ∧
  zob G10 q0 7 ∧
  ∀ G11, G11 = zsi G10 q0 12 (ziv G10 q1 12) →
  zob G11 q1 7 ∧
  zob G11 q0 7 ∧
  ∀ G12, G12 = zsi G11 q0 13 (ziv G11 q1 13) →
  Q (.inl none) G12))
theorem wpt_X6_copyFrom_0 {E : ZE} {l : Launch} {d b : Nat} {G0 : ZG} {Q : ZQ} {k : Nat} {q0 : Nat} {q1 : Nat} {G : ZG} (h : wp_X6_copyFrom_0 E l d b G0 Q k q0 q1 G) : zW E l mX6_copyFrom d b G0 Q k 0 [some (.ref q0), some (.ref q1)] [] G := by
  unfold wp_X6_copyFrom_0 at h
  refine z_aload_n (pc' := 1) dX6_copyFrom_0 rfl rfl ?_
  refine z_aload_n (pc' := 2) dX6_copyFrom_1 rfl rfl ?_
  obtain ⟨h1, h⟩ := h
  obtain ⟨d1, b1, Qz, hm, hdd, hb, hkx, hk⟩ := h
  refine z_callV (Y := mX6_copyAskings) (n := 1) (as := [.ref q1]) (st := []) (pc' := 5) (ci := 7) (q := q0) hm dX6_copyFrom_2 kX6_61 vX6_copyAskings rfl rfl (by decide) rfl h1 hdd hb (Nat.le_of_ble_eq_true rfl) (fun r G1 hz => ?_) hkx
  obtain ⟨rfl, h⟩ := hk r G1 hz
  refine z_aload_n (pc' := 6) dX6_copyFrom_5 rfl rfl ?_
  refine z_aload_n (pc' := 7) dX6_copyFrom_6 rfl rfl ?_
  obtain ⟨h1, h⟩ := h
  obtain ⟨d1, b1, Qz, hm, hdd, hb, hkx, hk⟩ := h
  refine z_callV (Y := mX6_copyBooklets) (n := 1) (as := [.ref q1]) (st := []) (pc' := 10) (ci := 7) (q := q0) hm dX6_copyFrom_7 kX6_65 vX6_copyBooklets rfl rfl (by decide) rfl h1 hdd hb (Nat.le_of_ble_eq_true rfl) (fun r G3 hz => ?_) hkx
  obtain ⟨rfl, h⟩ := hk r G3 hz
  refine z_aload_n (pc' := 11) dX6_copyFrom_10 rfl rfl ?_
  refine z_aload_n (pc' := 12) dX6_copyFrom_11 rfl rfl ?_
  obtain ⟨h1, h⟩ := h
  refine z_getI (ci := 7) (kf := 6) (pc' := 15) dX6_copyFrom_12 kX6_25 (Or.inl rfl) (by decide) (by decide) rfl rfl h1 ?_
  obtain ⟨h1, h⟩ := h
  obtain ⟨G5, hG⟩ : ∃ z, z = zsi G3 q0 6 (ziv G3 q1 6) := ⟨_, rfl⟩
  have h := h _ hG
  refine z_putI (ci := 7) (kf := 6) (pc' := 18) dX6_copyFrom_15 kX6_25 (Or.inl rfl) (by decide) (by decide) rfl (Or.inl rfl) rfl h1 (zok_int _) ?_
  refine z_st hG ?_
  refine z_aload_n (pc' := 19) dX6_copyFrom_18 rfl rfl ?_
  refine z_aload_n (pc' := 20) dX6_copyFrom_19 rfl rfl ?_
  obtain ⟨h1, h⟩ := h
  refine z_getI (ci := 7) (kf := 7) (pc' := 23) dX6_copyFrom_20 kX6_28 (Or.inl rfl) (by decide) (by decide) rfl rfl h1 ?_
  obtain ⟨h1, h⟩ := h
  obtain ⟨G6, hG⟩ : ∃ z, z = zsi G5 q0 7 (ziv G5 q1 7) := ⟨_, rfl⟩
  have h := h _ hG
  refine z_putI (ci := 7) (kf := 7) (pc' := 26) dX6_copyFrom_23 kX6_28 (Or.inl rfl) (by decide) (by decide) rfl (Or.inl rfl) rfl h1 (zok_int _) ?_
  refine z_st hG ?_
  refine z_aload_n (pc' := 27) dX6_copyFrom_26 rfl rfl ?_
  refine z_aload_n (pc' := 28) dX6_copyFrom_27 rfl rfl ?_
  obtain ⟨h1, h⟩ := h
  refine z_getI (ci := 7) (kf := 8) (pc' := 31) dX6_copyFrom_28 kX6_31 (Or.inl rfl) (by decide) (by decide) rfl rfl h1 ?_
  obtain ⟨h1, h⟩ := h
  obtain ⟨G7, hG⟩ : ∃ z, z = zsi G6 q0 8 (ziv G6 q1 8) := ⟨_, rfl⟩
  have h := h _ hG
  refine z_putI (ci := 7) (kf := 8) (pc' := 34) dX6_copyFrom_31 kX6_31 (Or.inl rfl) (by decide) (by decide) rfl (Or.inl rfl) rfl h1 (zok_int _) ?_
  refine z_st hG ?_
  refine z_aload_n (pc' := 35) dX6_copyFrom_34 rfl rfl ?_
  refine z_aload_n (pc' := 36) dX6_copyFrom_35 rfl rfl ?_
  obtain ⟨h1, h⟩ := h
  refine z_getI (ci := 7) (kf := 9) (pc' := 39) dX6_copyFrom_36 kX6_34 (Or.inl rfl) (by decide) (by decide) rfl rfl h1 ?_
  obtain ⟨h1, h⟩ := h
  obtain ⟨G8, hG⟩ : ∃ z, z = zsi G7 q0 9 (ziv G7 q1 9) := ⟨_, rfl⟩
  have h := h _ hG
  refine z_putI (ci := 7) (kf := 9) (pc' := 42) dX6_copyFrom_39 kX6_34 (Or.inl rfl) (by decide) (by decide) rfl (Or.inl rfl) rfl h1 (zok_int _) ?_
  refine z_st hG ?_
  refine z_aload_n (pc' := 43) dX6_copyFrom_42 rfl rfl ?_
  refine z_aload_n (pc' := 44) dX6_copyFrom_43 rfl rfl ?_
  obtain ⟨h1, h⟩ := h
  refine z_getI (ci := 7) (kf := 10) (pc' := 47) dX6_copyFrom_44 kX6_37 (Or.inl rfl) (by decide) (by decide) rfl rfl h1 ?_
  obtain ⟨h1, h⟩ := h
  obtain ⟨G9, hG⟩ : ∃ z, z = zsi G8 q0 10 (ziv G8 q1 10) := ⟨_, rfl⟩
  have h := h _ hG
  refine z_putI (ci := 7) (kf := 10) (pc' := 50) dX6_copyFrom_47 kX6_37 (Or.inl rfl) (by decide) (by decide) rfl (Or.inl rfl) rfl h1 (zok_int _) ?_
  refine z_st hG ?_
  refine z_aload_n (pc' := 51) dX6_copyFrom_50 rfl rfl ?_
  refine z_aload_n (pc' := 52) dX6_copyFrom_51 rfl rfl ?_
  obtain ⟨h1, h⟩ := h
  refine z_getI (ci := 7) (kf := 11) (pc' := 55) dX6_copyFrom_52 kX6_40 (Or.inl rfl) (by decide) (by decide) rfl rfl h1 ?_
  obtain ⟨h1, h⟩ := h
  obtain ⟨G10, hG⟩ : ∃ z, z = zsi G9 q0 11 (ziv G9 q1 11) := ⟨_, rfl⟩
  have h := h _ hG
  refine z_putI (ci := 7) (kf := 11) (pc' := 58) dX6_copyFrom_55 kX6_40 (Or.inl rfl) (by decide) (by decide) rfl (Or.inl rfl) rfl h1 (zok_int _) ?_
  refine z_st hG ?_
  refine z_aload_n (pc' := 59) dX6_copyFrom_58 rfl rfl ?_
  refine z_aload_n (pc' := 60) dX6_copyFrom_59 rfl rfl ?_
  obtain ⟨h1, h⟩ := h
  refine z_getI (ci := 7) (kf := 12) (pc' := 63) dX6_copyFrom_60 kX6_43 (Or.inl rfl) (by decide) (by decide) rfl rfl h1 ?_
  obtain ⟨h1, h⟩ := h
  obtain ⟨G11, hG⟩ : ∃ z, z = zsi G10 q0 12 (ziv G10 q1 12) := ⟨_, rfl⟩
  have h := h _ hG
  refine z_putI (ci := 7) (kf := 12) (pc' := 66) dX6_copyFrom_63 kX6_43 (Or.inl rfl) (by decide) (by decide) rfl (Or.inl rfl) rfl h1 (zok_int _) ?_
  refine z_st hG ?_
  refine z_aload_n (pc' := 67) dX6_copyFrom_66 rfl rfl ?_
  refine z_aload_n (pc' := 68) dX6_copyFrom_67 rfl rfl ?_
  obtain ⟨h1, h⟩ := h
  refine z_getI (ci := 7) (kf := 13) (pc' := 71) dX6_copyFrom_68 kX6_46 (Or.inl rfl) (by decide) (by decide) rfl rfl h1 ?_
  obtain ⟨h1, h⟩ := h
  obtain ⟨G12, hG⟩ : ∃ z, z = zsi G11 q0 13 (ziv G11 q1 13) := ⟨_, rfl⟩
  have h := h _ hG
  refine z_putI (ci := 7) (kf := 13) (pc' := 74) dX6_copyFrom_71 kX6_46 (Or.inl rfl) (by decide) (by decide) rfl (Or.inl rfl) rfl h1 (zok_int _) ?_
  refine z_st hG ?_
  exact z_vret dX6_copyFrom_74 rfl h
def wp_X6_countAhead_0 (E : ZE) (l : Launch) (d b : Nat) (G0 : ZG) (Q : ZQ) (k : Nat) (q0 : Nat) (q1 : Nat) (G : ZG) : Prop :=
  xcI E l mX6_deskOf d [.ref q1] G k (fun X G9 => Q (.inr X) G9) (fun y1 G2 k3 =>
  ((¬ y1 = (-1) →
    zW E l mX6_countAhead d b G0 Q k3 14 [some (.ref q0), some (.ref q1), some (.int 0), some (.int 0), none] [] G2) ∧
  (¬ (¬ y1 = (-1)) →
    Q (.inl (some (.int (-1)))) G2)))
theorem wpt_X6_countAhead_0 {E : ZE} {l : Launch} {d b : Nat} {G0 : ZG} {Q : ZQ} {k : Nat} {q0 : Nat} {q1 : Nat} {G : ZG} (h : wp_X6_countAhead_0 E l d b G0 Q k q0 q1 G) : zW E l mX6_countAhead d b G0 Q k 0 [some (.ref q0), some (.ref q1), none, none, none] [] G := by
  unfold wp_X6_countAhead_0 at h
  refine z_aload_n (pc' := 1) dX6_countAhead_0 rfl rfl ?_
  obtain ⟨d1, b1, Qz, hm, hdd, hb, hkx, hk⟩ := h
  refine z_callS (Y := mX6_deskOf) (n := 1) (as := [.ref q1]) (st := []) (pc' := 4) hm dX6_countAhead_1 kX6_132 sX6_deskOf rfl rfl hdd hb (Nat.le_of_ble_eq_true rfl) (fun r G2 hz => ?_) hkx
  obtain ⟨y1, rfl, h⟩ := hk r G2 hz
  refine z_iconst (x := (-1)) (pc' := 5) dX6_countAhead_4 (by decide) rfl ?_
  refine z_icmp_ne (pt := 10) (pc' := 8) dX6_countAhead_5 (by decide) rfl (fun hc => ?_) (fun hc => ?_)
  · have h := h.1 hc
    refine z_iconst (x := 0) (pc' := 11) dX6_countAhead_10 (by decide) rfl ?_
    refine z_istore_n (pc' := 12) dX6_countAhead_11 (by decide) rfl ?_
    refine z_iconst (x := 0) (pc' := 13) dX6_countAhead_12 (by decide) rfl ?_
    refine z_istore_n (pc' := 14) dX6_countAhead_13 (by decide) rfl ?_
    exact z_dr (ls' := [some (.ref q0), some (.ref q1), some (.int 0), some (.int 0), none]) ⟨rfl, rfl, rfl, rfl, trivial⟩ h
  · have h := h.2 hc
    refine z_iconst (x := (-1)) (pc' := 9) dX6_countAhead_8 (by decide) rfl ?_
    exact z_iret dX6_countAhead_9 rfl h
def wp_X6_countAhead_14 (E : ZE) (l : Launch) (d b : Nat) (G0 : ZG) (Q : ZQ) (k : Nat) (q0 : Nat) (q1 : Nat) (x2 : Int32) (x3 : Int32) (G : ZG) : Prop :=
  zob G q0 7 ∧
  zob G (zrv G q0 3) 0 ∧
  xcI E l mJx4a65c_size_8abf5 d [.ref (zrv G q0 3)] G k (fun X G9 => Q (.inr X) G9) (fun y1 G2 k3 =>
  ((y1 ≤ x3 →
    Q (.inl (some (.int x2))) G2) ∧
  (¬ (y1 ≤ x3) →
    zob G2 q0 7 ∧
    zob G2 (zrv G2 q0 3) 0 ∧
    xcR E l mJx4a65c_get_915e3 d [.ref (zrv G2 q0 3), .int x3] G2 k3 (fun X G9 => Q (.inr X) G9) (fun y4 G5 k6 =>
    zob G5 y4 1 ∧
    zob G5 y4 1 ∧
    zob G5 q1 1 ∧
    ((¬ (ziv G5 y4 7) = (ziv G5 q1 7) →
      zW E l mX6_countAhead d b G0 Q k6 14 [some (.ref q0), some (.ref q1), some (.int x2), some (.int (x3 + 1)), none] [] G5) ∧
    (¬ (¬ (ziv G5 y4 7) = (ziv G5 q1 7)) →
      zob G5 q0 7 ∧
      xcI E l mX6_isAhead d [.ref q0, .ref y4, .ref q1] G5 k6 (fun X G9 => Q (.inr X) G9) (fun y7 G8 k9 =>
      ((y7 = 0 →
        zW E l mX6_countAhead d b G0 Q k9 14 [some (.ref q0), some (.ref q1), some (.int x2), some (.int (x3 + 1)), none] [] G8) ∧
      (¬ (y7 = 0) →
        zW E l mX6_countAhead d b G0 Q k9 14 [some (.ref q0), some (.ref q1), some (.int (x2 + 1)), some (.int (x3 + 1)), none] [] G8)))))))))
theorem wpt_X6_countAhead_14 {E : ZE} {l : Launch} {d b : Nat} {G0 : ZG} {Q : ZQ} {k : Nat} {q0 : Nat} {q1 : Nat} {x2 : Int32} {x3 : Int32} {G : ZG} (h : wp_X6_countAhead_14 E l d b G0 Q k q0 q1 x2 x3 G) : zW E l mX6_countAhead d b G0 Q k 14 [some (.ref q0), some (.ref q1), some (.int x2), some (.int x3), none] [] G := by
  unfold wp_X6_countAhead_14 at h
  refine z_iload_n (pc' := 15) dX6_countAhead_14 rfl rfl ?_
  refine z_aload_n (pc' := 16) dX6_countAhead_15 rfl rfl ?_
  obtain ⟨h1, h⟩ := h
  refine z_getR (ci := 7) (kf := 3) (pc' := 19) dX6_countAhead_16 kX6_12 (Or.inl rfl) (by decide) (by decide) rfl rfl h1 ?_
  obtain ⟨h1, h⟩ := h
  obtain ⟨d1, b1, Qz, hm, hdd, hb, hkx, hk⟩ := h
  refine z_callV (Y := mJx4a65c_size_8abf5) (n := 0) (as := []) (st := [.int x3]) (pc' := 22) (ci := 0) (q := (zrv G q0 3)) hm dX6_countAhead_19 kX6_68 vJx4a65c_size_8abf5 rfl rfl (by decide) rfl h1 hdd hb (Nat.le_of_ble_eq_true rfl) (fun r G2 hz => ?_) hkx
  obtain ⟨y1, rfl, h⟩ := hk r G2 hz
  refine z_icmp_ge (pt := 69) (pc' := 25) dX6_countAhead_22 (by decide) rfl (fun hc => ?_) (fun hc => ?_)
  · have h := h.1 hc
    refine z_iload_n (pc' := 70) dX6_countAhead_69 rfl rfl ?_
    exact z_iret dX6_countAhead_70 rfl h
  · have h := h.2 hc
    refine z_aload_n (pc' := 26) dX6_countAhead_25 rfl rfl ?_
    obtain ⟨h1, h⟩ := h
    refine z_getR (ci := 7) (kf := 3) (pc' := 29) dX6_countAhead_26 kX6_12 (Or.inl rfl) (by decide) (by decide) rfl rfl h1 ?_
    refine z_iload_n (pc' := 30) dX6_countAhead_29 rfl rfl ?_
    obtain ⟨h1, h⟩ := h
    obtain ⟨d1, b1, Qz, hm, hdd, hb, hkx, hk⟩ := h
    refine z_callV (Y := mJx4a65c_get_915e3) (n := 1) (as := [.int x3]) (st := []) (pc' := 33) (ci := 0) (q := (zrv G2 q0 3)) hm dX6_countAhead_30 kX6_72 vJx4a65c_get_915e3 rfl rfl (by decide) rfl h1 hdd hb (Nat.le_of_ble_eq_true rfl) (fun r G5 hz => ?_) hkx
    obtain ⟨y4, rfl, h⟩ := hk r G5 hz
    obtain ⟨h1, h⟩ := h
    refine z_castO (ci := 1) (pc' := 36) dX6_countAhead_33 kX6_76 (by decide) rfl h1 ?_
    refine z_astore (pc' := 38) dX6_countAhead_36 (by decide) rfl ?_
    refine z_aload (pc' := 40) dX6_countAhead_38 rfl rfl ?_
    obtain ⟨h1, h⟩ := h
    refine z_getI (ci := 1) (kf := 7) (pc' := 43) dX6_countAhead_40 kX6_106 (Or.inl rfl) (by decide) (by decide) rfl rfl h1 ?_
    refine z_aload_n (pc' := 44) dX6_countAhead_43 rfl rfl ?_
    obtain ⟨h1, h⟩ := h
    refine z_getI (ci := 1) (kf := 7) (pc' := 47) dX6_countAhead_44 kX6_106 (Or.inl rfl) (by decide) (by decide) rfl rfl h1 ?_
    refine z_icmp_ne (pt := 63) (pc' := 50) dX6_countAhead_47 (by decide) rfl (fun hc => ?_) (fun hc => ?_)
    · have h := h.1 hc
      refine z_iinc (y := x3 + 1) (pc' := 66) dX6_countAhead_63 rfl (zinc_1 _) (by decide) rfl ?_
      refine z_goto (pc' := 14) dX6_countAhead_66 (by decide) ?_
      exact z_dr (ls' := [some (.ref q0), some (.ref q1), some (.int x2), some (.int (x3 + 1)), none]) ⟨rfl, rfl, rfl, rfl, trivial⟩ h
    · have h := h.2 hc
      refine z_aload_n (pc' := 51) dX6_countAhead_50 rfl rfl ?_
      refine z_aload (pc' := 53) dX6_countAhead_51 rfl rfl ?_
      refine z_aload_n (pc' := 54) dX6_countAhead_53 rfl rfl ?_
      obtain ⟨h1, h⟩ := h
      obtain ⟨d1, b1, Qz, hm, hdd, hb, hkx, hk⟩ := h
      refine z_callV (Y := mX6_isAhead) (n := 2) (as := [.ref y4, .ref q1]) (st := []) (pc' := 57) (ci := 7) (q := q0) hm dX6_countAhead_54 kX6_136 vX6_isAhead rfl rfl (by decide) rfl h1 hdd hb (Nat.le_of_ble_eq_true rfl) (fun r G8 hz => ?_) hkx
      obtain ⟨y7, rfl, h⟩ := hk r G8 hz
      refine z_if_eq (pt := 63) (pc' := 60) dX6_countAhead_57 (by decide) rfl (fun hc => ?_) (fun hc => ?_)
      · have h := h.1 hc
        refine z_iinc (y := x3 + 1) (pc' := 66) dX6_countAhead_63 rfl (zinc_1 _) (by decide) rfl ?_
        refine z_goto (pc' := 14) dX6_countAhead_66 (by decide) ?_
        exact z_dr (ls' := [some (.ref q0), some (.ref q1), some (.int x2), some (.int (x3 + 1)), none]) ⟨rfl, rfl, rfl, rfl, trivial⟩ h
      · have h := h.2 hc
        refine z_iinc (y := x2 + 1) (pc' := 63) dX6_countAhead_60 rfl (zinc_1 _) (by decide) rfl ?_
        refine z_iinc (y := x3 + 1) (pc' := 66) dX6_countAhead_63 rfl (zinc_1 _) (by decide) rfl ?_
        refine z_goto (pc' := 14) dX6_countAhead_66 (by decide) ?_
        exact z_dr (ls' := [some (.ref q0), some (.ref q1), some (.int (x2 + 1)), some (.int (x3 + 1)), none]) ⟨rfl, rfl, rfl, rfl, trivial⟩ h
def wp_X6_countCalls_0 (E : ZE) (l : Launch) (d b : Nat) (G0 : ZG) (Q : ZQ) (k : Nat) (q0 : Nat) (G : ZG) : Prop :=
  zW E l mX6_countCalls d b G0 Q k 4 [some (.ref q0), some (.int 0), some (.int 0), none] [] G
theorem wpt_X6_countCalls_0 {E : ZE} {l : Launch} {d b : Nat} {G0 : ZG} {Q : ZQ} {k : Nat} {q0 : Nat} {G : ZG} (h : wp_X6_countCalls_0 E l d b G0 Q k q0 G) : zW E l mX6_countCalls d b G0 Q k 0 [some (.ref q0), none, none, none] [] G := by
  unfold wp_X6_countCalls_0 at h
  refine z_iconst (x := 0) (pc' := 1) dX6_countCalls_0 (by decide) rfl ?_
  refine z_istore_n (pc' := 2) dX6_countCalls_1 (by decide) rfl ?_
  refine z_iconst (x := 0) (pc' := 3) dX6_countCalls_2 (by decide) rfl ?_
  refine z_istore_n (pc' := 4) dX6_countCalls_3 (by decide) rfl ?_
  exact z_dr (ls' := [some (.ref q0), some (.int 0), some (.int 0), none]) ⟨rfl, rfl, rfl, trivial⟩ h
def wp_X6_countCalls_4 (E : ZE) (l : Launch) (d b : Nat) (G0 : ZG) (Q : ZQ) (k : Nat) (q0 : Nat) (x1 : Int32) (x2 : Int32) (G : ZG) : Prop :=
  zob G q0 7 ∧
  zob G (zrv G q0 3) 0 ∧
  xcI E l mJx4a65c_size_8abf5 d [.ref (zrv G q0 3)] G k (fun X G9 => Q (.inr X) G9) (fun y1 G2 k3 =>
  ((y1 ≤ x2 →
    zob G2 q0 7 ∧
    ∀ G4, G4 = zsi G2 q0 11 (x1 / 3) →
    zob G4 q0 7 ∧
    zob G4 q0 7 ∧
    zob G4 q0 7 ∧
    ∀ G5, G5 = zsi G4 q0 12 ((ziv G4 q0 12) + (ziv G4 q0 11)) →
    Q (.inl none) G5) ∧
  (¬ (y1 ≤ x2) →
    zob G2 q0 7 ∧
    zob G2 (zrv G2 q0 3) 0 ∧
    xcR E l mJx4a65c_get_915e3 d [.ref (zrv G2 q0 3), .int x2] G2 k3 (fun X G9 => Q (.inr X) G9) (fun y6 G7 k8 =>
    zob G7 y6 1 ∧
    zob G7 y6 1 ∧
    xcI E l mX0_isOpen d [.ref y6] G7 k8 (fun X G9 => Q (.inr X) G9) (fun y9 G10 k11 =>
    ((y9 = 0 →
      zW E l mX6_countCalls d b G0 Q k11 4 [some (.ref q0), some (.int x1), some (.int (x2 + 1)), none] [] G10) ∧
    (¬ (y9 = 0) →
      zob G10 q0 7 ∧
      zob G10 y6 1 ∧
      zob G10 q0 7 ∧
      zob G10 (zrv G10 q0 2) 10 ∧
      ((((ziv G10 q0 6) - (ziv G10 y6 3)) ≤ (ziv G10 (zrv G10 q0 2) 0) →
        zW E l mX6_countCalls d b G0 Q k11 4 [some (.ref q0), some (.int x1), some (.int (x2 + 1)), none] [] G10) ∧
      (¬ (((ziv G10 q0 6) - (ziv G10 y6 3)) ≤ (ziv G10 (zrv G10 q0 2) 0)) →
        zW E l mX6_countCalls d b G0 Q k11 4 [some (.ref q0), some (.int (x1 + 1)), some (.int (x2 + 1)), none] [] G10)))))))))
theorem wpt_X6_countCalls_4 {E : ZE} {l : Launch} {d b : Nat} {G0 : ZG} {Q : ZQ} {k : Nat} {q0 : Nat} {x1 : Int32} {x2 : Int32} {G : ZG} (h : wp_X6_countCalls_4 E l d b G0 Q k q0 x1 x2 G) : zW E l mX6_countCalls d b G0 Q k 4 [some (.ref q0), some (.int x1), some (.int x2), none] [] G := by
  unfold wp_X6_countCalls_4 at h
  refine z_iload_n (pc' := 5) dX6_countCalls_4 rfl rfl ?_
  refine z_aload_n (pc' := 6) dX6_countCalls_5 rfl rfl ?_
  obtain ⟨h1, h⟩ := h
  refine z_getR (ci := 7) (kf := 3) (pc' := 9) dX6_countCalls_6 kX6_12 (Or.inl rfl) (by decide) (by decide) rfl rfl h1 ?_
  obtain ⟨h1, h⟩ := h
  obtain ⟨d1, b1, Qz, hm, hdd, hb, hkx, hk⟩ := h
  refine z_callV (Y := mJx4a65c_size_8abf5) (n := 0) (as := []) (st := [.int x2]) (pc' := 12) (ci := 0) (q := (zrv G q0 3)) hm dX6_countCalls_9 kX6_68 vJx4a65c_size_8abf5 rfl rfl (by decide) rfl h1 hdd hb (Nat.le_of_ble_eq_true rfl) (fun r G2 hz => ?_) hkx
  obtain ⟨y1, rfl, h⟩ := hk r G2 hz
  refine z_icmp_ge (pt := 62) (pc' := 15) dX6_countCalls_12 (by decide) rfl (fun hc => ?_) (fun hc => ?_)
  · have h := h.1 hc
    refine z_aload_n (pc' := 63) dX6_countCalls_62 rfl rfl ?_
    refine z_iload_n (pc' := 64) dX6_countCalls_63 rfl rfl ?_
    refine z_iconst (x := 3) (pc' := 65) dX6_countCalls_64 (by decide) rfl ?_
    refine z_idiv (pc' := 66) dX6_countCalls_65 (by decide) rfl rfl ?_
    obtain ⟨h1, h⟩ := h
    obtain ⟨G4, hG⟩ : ∃ z, z = zsi G2 q0 11 (x1 / 3) := ⟨_, rfl⟩
    have h := h _ hG
    refine z_putI (ci := 7) (kf := 11) (pc' := 69) dX6_countCalls_66 kX6_40 (Or.inl rfl) (by decide) (by decide) rfl (Or.inl rfl) rfl h1 (zok_int _) ?_
    refine z_st hG ?_
    refine z_aload_n (pc' := 70) dX6_countCalls_69 rfl rfl ?_
    refine z_dup (pc' := 71) dX6_countCalls_70 rfl rfl ?_
    obtain ⟨h1, h⟩ := h
    refine z_getI (ci := 7) (kf := 12) (pc' := 74) dX6_countCalls_71 kX6_43 (Or.inl rfl) (by decide) (by decide) rfl rfl h1 ?_
    refine z_aload_n (pc' := 75) dX6_countCalls_74 rfl rfl ?_
    obtain ⟨h1, h⟩ := h
    refine z_getI (ci := 7) (kf := 11) (pc' := 78) dX6_countCalls_75 kX6_40 (Or.inl rfl) (by decide) (by decide) rfl rfl h1 ?_
    refine z_iadd (pc' := 79) dX6_countCalls_78 rfl rfl ?_
    obtain ⟨h1, h⟩ := h
    obtain ⟨G5, hG⟩ : ∃ z, z = zsi G4 q0 12 ((ziv G4 q0 12) + (ziv G4 q0 11)) := ⟨_, rfl⟩
    have h := h _ hG
    refine z_putI (ci := 7) (kf := 12) (pc' := 82) dX6_countCalls_79 kX6_43 (Or.inl rfl) (by decide) (by decide) rfl (Or.inl rfl) rfl h1 (zok_int _) ?_
    refine z_st hG ?_
    exact z_vret dX6_countCalls_82 rfl h
  · have h := h.2 hc
    refine z_aload_n (pc' := 16) dX6_countCalls_15 rfl rfl ?_
    obtain ⟨h1, h⟩ := h
    refine z_getR (ci := 7) (kf := 3) (pc' := 19) dX6_countCalls_16 kX6_12 (Or.inl rfl) (by decide) (by decide) rfl rfl h1 ?_
    refine z_iload_n (pc' := 20) dX6_countCalls_19 rfl rfl ?_
    obtain ⟨h1, h⟩ := h
    obtain ⟨d1, b1, Qz, hm, hdd, hb, hkx, hk⟩ := h
    refine z_callV (Y := mJx4a65c_get_915e3) (n := 1) (as := [.int x2]) (st := []) (pc' := 23) (ci := 0) (q := (zrv G2 q0 3)) hm dX6_countCalls_20 kX6_72 vJx4a65c_get_915e3 rfl rfl (by decide) rfl h1 hdd hb (Nat.le_of_ble_eq_true rfl) (fun r G7 hz => ?_) hkx
    obtain ⟨y6, rfl, h⟩ := hk r G7 hz
    obtain ⟨h1, h⟩ := h
    refine z_castO (ci := 1) (pc' := 26) dX6_countCalls_23 kX6_76 (by decide) rfl h1 ?_
    refine z_astore_n (pc' := 27) dX6_countCalls_26 (by decide) rfl ?_
    refine z_aload_n (pc' := 28) dX6_countCalls_27 rfl rfl ?_
    obtain ⟨h1, h⟩ := h
    obtain ⟨d1, b1, Qz, hm, hdd, hb, hkx, hk⟩ := h
    refine z_callV (Y := mX0_isOpen) (n := 0) (as := []) (st := []) (pc' := 31) (ci := 1) (q := y6) hm dX6_countCalls_28 kX6_109 vX0_isOpen rfl rfl (by decide) rfl h1 hdd hb (Nat.le_of_ble_eq_true rfl) (fun r G10 hz => ?_) hkx
    obtain ⟨y9, rfl, h⟩ := hk r G10 hz
    refine z_if_eq (pt := 56) (pc' := 34) dX6_countCalls_31 (by decide) rfl (fun hc => ?_) (fun hc => ?_)
    · have h := h.1 hc
      refine z_iinc (y := x2 + 1) (pc' := 59) dX6_countCalls_56 rfl (zinc_1 _) (by decide) rfl ?_
      refine z_goto (pc' := 4) dX6_countCalls_59 (by decide) ?_
      exact z_dr (ls' := [some (.ref q0), some (.int x1), some (.int (x2 + 1)), none]) ⟨rfl, rfl, rfl, trivial⟩ h
    · have h := h.2 hc
      refine z_aload_n (pc' := 35) dX6_countCalls_34 rfl rfl ?_
      obtain ⟨h1, h⟩ := h
      refine z_getI (ci := 7) (kf := 6) (pc' := 38) dX6_countCalls_35 kX6_25 (Or.inl rfl) (by decide) (by decide) rfl rfl h1 ?_
      refine z_aload_n (pc' := 39) dX6_countCalls_38 rfl rfl ?_
      obtain ⟨h1, h⟩ := h
      refine z_getI (ci := 1) (kf := 3) (pc' := 42) dX6_countCalls_39 kX6_153 (Or.inl rfl) (by decide) (by decide) rfl rfl h1 ?_
      refine z_isub (pc' := 43) dX6_countCalls_42 rfl rfl ?_
      refine z_aload_n (pc' := 44) dX6_countCalls_43 rfl rfl ?_
      obtain ⟨h1, h⟩ := h
      refine z_getR (ci := 7) (kf := 2) (pc' := 47) dX6_countCalls_44 kX6_57 (Or.inl rfl) (by decide) (by decide) rfl rfl h1 ?_
      obtain ⟨h1, h⟩ := h
      refine z_getI (ci := 10) (kf := 0) (pc' := 50) dX6_countCalls_47 kX6_176 (Or.inl rfl) (by decide) (by decide) rfl rfl h1 ?_
      refine z_icmp_le (pt := 56) (pc' := 53) dX6_countCalls_50 (by decide) rfl (fun hc => ?_) (fun hc => ?_)
      · have h := h.1 hc
        refine z_iinc (y := x2 + 1) (pc' := 59) dX6_countCalls_56 rfl (zinc_1 _) (by decide) rfl ?_
        refine z_goto (pc' := 4) dX6_countCalls_59 (by decide) ?_
        exact z_dr (ls' := [some (.ref q0), some (.int x1), some (.int (x2 + 1)), none]) ⟨rfl, rfl, rfl, trivial⟩ h
      · have h := h.2 hc
        refine z_iinc (y := x1 + 1) (pc' := 56) dX6_countCalls_53 rfl (zinc_1 _) (by decide) rfl ?_
        refine z_iinc (y := x2 + 1) (pc' := 59) dX6_countCalls_56 rfl (zinc_1 _) (by decide) rfl ?_
        refine z_goto (pc' := 4) dX6_countCalls_59 (by decide) ?_
        exact z_dr (ls' := [some (.ref q0), some (.int (x1 + 1)), some (.int (x2 + 1)), none]) ⟨rfl, rfl, rfl, trivial⟩ h
def wp_X6_countEnds_0 (E : ZE) (l : Launch) (d b : Nat) (G0 : ZG) (Q : ZQ) (k : Nat) (q0 : Nat) (x1 : Int32) (x2 : Int32) (G : ZG) : Prop :=
  zW E l mX6_countEnds d b G0 Q k 5 [some (.ref q0), some (.int x1), some (.int x2), some (.int 0), some (.int 0), none] [] G
theorem wpt_X6_countEnds_0 {E : ZE} {l : Launch} {d b : Nat} {G0 : ZG} {Q : ZQ} {k : Nat} {q0 : Nat} {x1 : Int32} {x2 : Int32} {G : ZG} (h : wp_X6_countEnds_0 E l d b G0 Q k q0 x1 x2 G) : zW E l mX6_countEnds d b G0 Q k 0 [some (.ref q0), some (.int x1), some (.int x2), none, none, none] [] G := by
  unfold wp_X6_countEnds_0 at h
  refine z_iconst (x := 0) (pc' := 1) dX6_countEnds_0 (by decide) rfl ?_
  refine z_istore_n (pc' := 2) dX6_countEnds_1 (by decide) rfl ?_
  refine z_iconst (x := 0) (pc' := 3) dX6_countEnds_2 (by decide) rfl ?_
  refine z_istore (pc' := 5) dX6_countEnds_3 (by decide) rfl ?_
  exact z_dr (ls' := [some (.ref q0), some (.int x1), some (.int x2), some (.int 0), some (.int 0), none]) ⟨rfl, rfl, rfl, rfl, rfl, trivial⟩ h
def wp_X6_countEnds_5 (E : ZE) (l : Launch) (d b : Nat) (G0 : ZG) (Q : ZQ) (k : Nat) (q0 : Nat) (x1 : Int32) (x2 : Int32) (x3 : Int32) (x4 : Int32) (G : ZG) : Prop :=
  zob G q0 7 ∧
  (((ziv G q0 5) ≤ x4 →
    Q (.inl (some (.int x3))) G) ∧
  (¬ ((ziv G q0 5) ≤ x4) →
    zob G q0 7 ∧
    xcR E l mX6_bookletAt d [.ref q0, .int x4] G k (fun X G9 => Q (.inr X) G9) (fun y1 G2 k3 =>
    ((y1 = 0 →
      zW E l mX6_countEnds d b G0 Q k3 5 [some (.ref q0), some (.int x1), some (.int x2), some (.int x3), some (.int (x4 + 1)), none] [] G2) ∧
    (¬ (y1 = 0) →
      zob G2 y1 2 ∧
      (((ziv G2 y1 2) < x1 →
        zW E l mX6_countEnds d b G0 Q k3 5 [some (.ref q0), some (.int x1), some (.int x2), some (.int x3), some (.int (x4 + 1)), none] [] G2) ∧
      (¬ ((ziv G2 y1 2) < x1) →
        zob G2 y1 2 ∧
        ((x2 < (ziv G2 y1 2) →
          zW E l mX6_countEnds d b G0 Q k3 5 [some (.ref q0), some (.int x1), some (.int x2), some (.int x3), some (.int (x4 + 1)), none] [] G2) ∧
        (¬ (x2 < (ziv G2 y1 2)) →
          zW E l mX6_countEnds d b G0 Q k3 5 [some (.ref q0), some (.int x1), some (.int x2), some (.int (x3 + 1)), some (.int (x4 + 1)), none] [] G2)))))))))
theorem wpt_X6_countEnds_5 {E : ZE} {l : Launch} {d b : Nat} {G0 : ZG} {Q : ZQ} {k : Nat} {q0 : Nat} {x1 : Int32} {x2 : Int32} {x3 : Int32} {x4 : Int32} {G : ZG} (h : wp_X6_countEnds_5 E l d b G0 Q k q0 x1 x2 x3 x4 G) : zW E l mX6_countEnds d b G0 Q k 5 [some (.ref q0), some (.int x1), some (.int x2), some (.int x3), some (.int x4), none] [] G := by
  unfold wp_X6_countEnds_5 at h
  refine z_iload (pc' := 7) dX6_countEnds_5 rfl rfl ?_
  refine z_aload_n (pc' := 8) dX6_countEnds_7 rfl rfl ?_
  obtain ⟨h1, h⟩ := h
  refine z_getI (ci := 7) (kf := 5) (pc' := 11) dX6_countEnds_8 kX6_21 (Or.inl rfl) (by decide) (by decide) rfl rfl h1 ?_
  refine z_icmp_ge (pt := 54) (pc' := 14) dX6_countEnds_11 (by decide) rfl (fun hc => ?_) (fun hc => ?_)
  · have h := h.1 hc
    refine z_iload_n (pc' := 55) dX6_countEnds_54 rfl rfl ?_
    exact z_iret dX6_countEnds_55 rfl h
  · have h := h.2 hc
    refine z_aload_n (pc' := 15) dX6_countEnds_14 rfl rfl ?_
    refine z_iload (pc' := 17) dX6_countEnds_15 rfl rfl ?_
    obtain ⟨h1, h⟩ := h
    obtain ⟨d1, b1, Qz, hm, hdd, hb, hkx, hk⟩ := h
    refine z_callV (Y := mX6_bookletAt) (n := 1) (as := [.int x4]) (st := []) (pc' := 20) (ci := 7) (q := q0) hm dX6_countEnds_17 kX6_113 vX6_bookletAt rfl rfl (by decide) rfl h1 hdd hb (Nat.le_of_ble_eq_true rfl) (fun r G2 hz => ?_) hkx
    obtain ⟨y1, rfl, h⟩ := hk r G2 hz
    refine z_astore (pc' := 22) dX6_countEnds_20 (by decide) rfl ?_
    refine z_aload (pc' := 24) dX6_countEnds_22 rfl rfl ?_
    refine z_ifnull (pt := 48) (pc' := 27) dX6_countEnds_24 (by decide) rfl (fun hc => ?_) (fun hc => ?_)
    · have h := h.1 hc
      refine z_iinc (y := x4 + 1) (pc' := 51) dX6_countEnds_48 rfl (zinc_1 _) (by decide) rfl ?_
      refine z_goto (pc' := 5) dX6_countEnds_51 (by decide) ?_
      exact z_dr (ls' := [some (.ref q0), some (.int x1), some (.int x2), some (.int x3), some (.int (x4 + 1)), none]) ⟨rfl, rfl, rfl, rfl, rfl, trivial⟩ h
    · have h := h.2 hc
      refine z_aload (pc' := 29) dX6_countEnds_27 rfl rfl ?_
      obtain ⟨h1, h⟩ := h
      refine z_getI (ci := 2) (kf := 2) (pc' := 32) dX6_countEnds_29 kX6_129 (Or.inl rfl) (by decide) (by decide) rfl rfl h1 ?_
      refine z_iload_n (pc' := 33) dX6_countEnds_32 rfl rfl ?_
      refine z_icmp_lt (pt := 48) (pc' := 36) dX6_countEnds_33 (by decide) rfl (fun hc => ?_) (fun hc => ?_)
      · have h := h.1 hc
        refine z_iinc (y := x4 + 1) (pc' := 51) dX6_countEnds_48 rfl (zinc_1 _) (by decide) rfl ?_
        refine z_goto (pc' := 5) dX6_countEnds_51 (by decide) ?_
        exact z_dr (ls' := [some (.ref q0), some (.int x1), some (.int x2), some (.int x3), some (.int (x4 + 1)), none]) ⟨rfl, rfl, rfl, rfl, rfl, trivial⟩ h
      · have h := h.2 hc
        refine z_aload (pc' := 38) dX6_countEnds_36 rfl rfl ?_
        obtain ⟨h1, h⟩ := h
        refine z_getI (ci := 2) (kf := 2) (pc' := 41) dX6_countEnds_38 kX6_129 (Or.inl rfl) (by decide) (by decide) rfl rfl h1 ?_
        refine z_iload_n (pc' := 42) dX6_countEnds_41 rfl rfl ?_
        refine z_icmp_gt (pt := 48) (pc' := 45) dX6_countEnds_42 (by decide) rfl (fun hc => ?_) (fun hc => ?_)
        · have h := h.1 hc
          refine z_iinc (y := x4 + 1) (pc' := 51) dX6_countEnds_48 rfl (zinc_1 _) (by decide) rfl ?_
          refine z_goto (pc' := 5) dX6_countEnds_51 (by decide) ?_
          exact z_dr (ls' := [some (.ref q0), some (.int x1), some (.int x2), some (.int x3), some (.int (x4 + 1)), none]) ⟨rfl, rfl, rfl, rfl, rfl, trivial⟩ h
        · have h := h.2 hc
          refine z_iinc (y := x3 + 1) (pc' := 48) dX6_countEnds_45 rfl (zinc_1 _) (by decide) rfl ?_
          refine z_iinc (y := x4 + 1) (pc' := 51) dX6_countEnds_48 rfl (zinc_1 _) (by decide) rfl ?_
          refine z_goto (pc' := 5) dX6_countEnds_51 (by decide) ?_
          exact z_dr (ls' := [some (.ref q0), some (.int x1), some (.int x2), some (.int (x3 + 1)), some (.int (x4 + 1)), none]) ⟨rfl, rfl, rfl, rfl, rfl, trivial⟩ h
def wp_X6_countIn_0 (E : ZE) (l : Launch) (d b : Nat) (G0 : ZG) (Q : ZQ) (k : Nat) (q0 : Nat) (x1 : Int32) (G : ZG) : Prop :=
  zW E l mX6_countIn d b G0 Q k 4 [some (.ref q0), some (.int x1), some (.int 0), some (.int 0)] [] G
theorem wpt_X6_countIn_0 {E : ZE} {l : Launch} {d b : Nat} {G0 : ZG} {Q : ZQ} {k : Nat} {q0 : Nat} {x1 : Int32} {G : ZG} (h : wp_X6_countIn_0 E l d b G0 Q k q0 x1 G) : zW E l mX6_countIn d b G0 Q k 0 [some (.ref q0), some (.int x1), none, none] [] G := by
  unfold wp_X6_countIn_0 at h
  refine z_iconst (x := 0) (pc' := 1) dX6_countIn_0 (by decide) rfl ?_
  refine z_istore_n (pc' := 2) dX6_countIn_1 (by decide) rfl ?_
  refine z_iconst (x := 0) (pc' := 3) dX6_countIn_2 (by decide) rfl ?_
  refine z_istore_n (pc' := 4) dX6_countIn_3 (by decide) rfl ?_
  exact z_dr (ls' := [some (.ref q0), some (.int x1), some (.int 0), some (.int 0)]) ⟨rfl, rfl, rfl, rfl, trivial⟩ h
def wp_X6_countIn_4 (E : ZE) (l : Launch) (d b : Nat) (G0 : ZG) (Q : ZQ) (k : Nat) (q0 : Nat) (x1 : Int32) (x2 : Int32) (x3 : Int32) (G : ZG) : Prop :=
  zob G q0 7 ∧
  zob G (zrv G q0 3) 0 ∧
  xcI E l mJx4a65c_size_8abf5 d [.ref (zrv G q0 3)] G k (fun X G9 => Q (.inr X) G9) (fun y1 G2 k3 =>
  ((y1 ≤ x3 →
    Q (.inl (some (.int x2))) G2) ∧
  (¬ (y1 ≤ x3) →
    zob G2 q0 7 ∧
    zob G2 (zrv G2 q0 3) 0 ∧
    xcR E l mJx4a65c_get_915e3 d [.ref (zrv G2 q0 3), .int x3] G2 k3 (fun X G9 => Q (.inr X) G9) (fun y4 G5 k6 =>
    zob G5 y4 1 ∧
    zob G5 y4 1 ∧
    ((¬ (ziv G5 y4 7) = x1 →
      zW E l mX6_countIn d b G0 Q k6 4 [some (.ref q0), some (.int x1), some (.int x2), some (.int (x3 + 1))] [] G5) ∧
    (¬ (¬ (ziv G5 y4 7) = x1) →
      zW E l mX6_countIn d b G0 Q k6 4 [some (.ref q0), some (.int x1), some (.int (x2 + 1)), some (.int (x3 + 1))] [] G5))))))
theorem wpt_X6_countIn_4 {E : ZE} {l : Launch} {d b : Nat} {G0 : ZG} {Q : ZQ} {k : Nat} {q0 : Nat} {x1 : Int32} {x2 : Int32} {x3 : Int32} {G : ZG} (h : wp_X6_countIn_4 E l d b G0 Q k q0 x1 x2 x3 G) : zW E l mX6_countIn d b G0 Q k 4 [some (.ref q0), some (.int x1), some (.int x2), some (.int x3)] [] G := by
  unfold wp_X6_countIn_4 at h
  refine z_iload_n (pc' := 5) dX6_countIn_4 rfl rfl ?_
  refine z_aload_n (pc' := 6) dX6_countIn_5 rfl rfl ?_
  obtain ⟨h1, h⟩ := h
  refine z_getR (ci := 7) (kf := 3) (pc' := 9) dX6_countIn_6 kX6_12 (Or.inl rfl) (by decide) (by decide) rfl rfl h1 ?_
  obtain ⟨h1, h⟩ := h
  obtain ⟨d1, b1, Qz, hm, hdd, hb, hkx, hk⟩ := h
  refine z_callV (Y := mJx4a65c_size_8abf5) (n := 0) (as := []) (st := [.int x3]) (pc' := 12) (ci := 0) (q := (zrv G q0 3)) hm dX6_countIn_9 kX6_68 vJx4a65c_size_8abf5 rfl rfl (by decide) rfl h1 hdd hb (Nat.le_of_ble_eq_true rfl) (fun r G2 hz => ?_) hkx
  obtain ⟨y1, rfl, h⟩ := hk r G2 hz
  refine z_icmp_ge (pt := 42) (pc' := 15) dX6_countIn_12 (by decide) rfl (fun hc => ?_) (fun hc => ?_)
  · have h := h.1 hc
    refine z_iload_n (pc' := 43) dX6_countIn_42 rfl rfl ?_
    exact z_iret dX6_countIn_43 rfl h
  · have h := h.2 hc
    refine z_aload_n (pc' := 16) dX6_countIn_15 rfl rfl ?_
    obtain ⟨h1, h⟩ := h
    refine z_getR (ci := 7) (kf := 3) (pc' := 19) dX6_countIn_16 kX6_12 (Or.inl rfl) (by decide) (by decide) rfl rfl h1 ?_
    refine z_iload_n (pc' := 20) dX6_countIn_19 rfl rfl ?_
    obtain ⟨h1, h⟩ := h
    obtain ⟨d1, b1, Qz, hm, hdd, hb, hkx, hk⟩ := h
    refine z_callV (Y := mJx4a65c_get_915e3) (n := 1) (as := [.int x3]) (st := []) (pc' := 23) (ci := 0) (q := (zrv G2 q0 3)) hm dX6_countIn_20 kX6_72 vJx4a65c_get_915e3 rfl rfl (by decide) rfl h1 hdd hb (Nat.le_of_ble_eq_true rfl) (fun r G5 hz => ?_) hkx
    obtain ⟨y4, rfl, h⟩ := hk r G5 hz
    obtain ⟨h1, h⟩ := h
    refine z_castO (ci := 1) (pc' := 26) dX6_countIn_23 kX6_76 (by decide) rfl h1 ?_
    obtain ⟨h1, h⟩ := h
    refine z_getI (ci := 1) (kf := 7) (pc' := 29) dX6_countIn_26 kX6_106 (Or.inl rfl) (by decide) (by decide) rfl rfl h1 ?_
    refine z_iload_n (pc' := 30) dX6_countIn_29 rfl rfl ?_
    refine z_icmp_ne (pt := 36) (pc' := 33) dX6_countIn_30 (by decide) rfl (fun hc => ?_) (fun hc => ?_)
    · have h := h.1 hc
      refine z_iinc (y := x3 + 1) (pc' := 39) dX6_countIn_36 rfl (zinc_1 _) (by decide) rfl ?_
      refine z_goto (pc' := 4) dX6_countIn_39 (by decide) ?_
      exact z_dr (ls' := [some (.ref q0), some (.int x1), some (.int x2), some (.int (x3 + 1))]) ⟨rfl, rfl, rfl, rfl, trivial⟩ h
    · have h := h.2 hc
      refine z_iinc (y := x2 + 1) (pc' := 36) dX6_countIn_33 rfl (zinc_1 _) (by decide) rfl ?_
      refine z_iinc (y := x3 + 1) (pc' := 39) dX6_countIn_36 rfl (zinc_1 _) (by decide) rfl ?_
      refine z_goto (pc' := 4) dX6_countIn_39 (by decide) ?_
      exact z_dr (ls' := [some (.ref q0), some (.int x1), some (.int (x2 + 1)), some (.int (x3 + 1))]) ⟨rfl, rfl, rfl, rfl, trivial⟩ h
def wp_X6_countOpen_0 (E : ZE) (l : Launch) (d b : Nat) (G0 : ZG) (Q : ZQ) (k : Nat) (q0 : Nat) (G : ZG) : Prop :=
  zW E l mX6_countOpen d b G0 Q k 4 [some (.ref q0), some (.int 0), some (.int 0)] [] G
theorem wpt_X6_countOpen_0 {E : ZE} {l : Launch} {d b : Nat} {G0 : ZG} {Q : ZQ} {k : Nat} {q0 : Nat} {G : ZG} (h : wp_X6_countOpen_0 E l d b G0 Q k q0 G) : zW E l mX6_countOpen d b G0 Q k 0 [some (.ref q0), none, none] [] G := by
  unfold wp_X6_countOpen_0 at h
  refine z_iconst (x := 0) (pc' := 1) dX6_countOpen_0 (by decide) rfl ?_
  refine z_istore_n (pc' := 2) dX6_countOpen_1 (by decide) rfl ?_
  refine z_iconst (x := 0) (pc' := 3) dX6_countOpen_2 (by decide) rfl ?_
  refine z_istore_n (pc' := 4) dX6_countOpen_3 (by decide) rfl ?_
  exact z_dr (ls' := [some (.ref q0), some (.int 0), some (.int 0)]) ⟨rfl, rfl, rfl, trivial⟩ h
def wp_X6_countOpen_4 (E : ZE) (l : Launch) (d b : Nat) (G0 : ZG) (Q : ZQ) (k : Nat) (q0 : Nat) (x1 : Int32) (x2 : Int32) (G : ZG) : Prop :=
  zob G q0 7 ∧
  zob G (zrv G q0 3) 0 ∧
  xcI E l mJx4a65c_size_8abf5 d [.ref (zrv G q0 3)] G k (fun X G9 => Q (.inr X) G9) (fun y1 G2 k3 =>
  ((y1 ≤ x2 →
    Q (.inl (some (.int x1))) G2) ∧
  (¬ (y1 ≤ x2) →
    zob G2 q0 7 ∧
    zob G2 (zrv G2 q0 3) 0 ∧
    xcR E l mJx4a65c_get_915e3 d [.ref (zrv G2 q0 3), .int x2] G2 k3 (fun X G9 => Q (.inr X) G9) (fun y4 G5 k6 =>
    zob G5 y4 1 ∧
    zob G5 y4 1 ∧
    xcI E l mX0_isOpen d [.ref y4] G5 k6 (fun X G9 => Q (.inr X) G9) (fun y7 G8 k9 =>
    ((y7 = 0 →
      zW E l mX6_countOpen d b G0 Q k9 4 [some (.ref q0), some (.int x1), some (.int (x2 + 1))] [] G8) ∧
    (¬ (y7 = 0) →
      zW E l mX6_countOpen d b G0 Q k9 4 [some (.ref q0), some (.int (x1 + 1)), some (.int (x2 + 1))] [] G8)))))))
theorem wpt_X6_countOpen_4 {E : ZE} {l : Launch} {d b : Nat} {G0 : ZG} {Q : ZQ} {k : Nat} {q0 : Nat} {x1 : Int32} {x2 : Int32} {G : ZG} (h : wp_X6_countOpen_4 E l d b G0 Q k q0 x1 x2 G) : zW E l mX6_countOpen d b G0 Q k 4 [some (.ref q0), some (.int x1), some (.int x2)] [] G := by
  unfold wp_X6_countOpen_4 at h
  refine z_iload_n (pc' := 5) dX6_countOpen_4 rfl rfl ?_
  refine z_aload_n (pc' := 6) dX6_countOpen_5 rfl rfl ?_
  obtain ⟨h1, h⟩ := h
  refine z_getR (ci := 7) (kf := 3) (pc' := 9) dX6_countOpen_6 kX6_12 (Or.inl rfl) (by decide) (by decide) rfl rfl h1 ?_
  obtain ⟨h1, h⟩ := h
  obtain ⟨d1, b1, Qz, hm, hdd, hb, hkx, hk⟩ := h
  refine z_callV (Y := mJx4a65c_size_8abf5) (n := 0) (as := []) (st := [.int x2]) (pc' := 12) (ci := 0) (q := (zrv G q0 3)) hm dX6_countOpen_9 kX6_68 vJx4a65c_size_8abf5 rfl rfl (by decide) rfl h1 hdd hb (Nat.le_of_ble_eq_true rfl) (fun r G2 hz => ?_) hkx
  obtain ⟨y1, rfl, h⟩ := hk r G2 hz
  refine z_icmp_ge (pt := 41) (pc' := 15) dX6_countOpen_12 (by decide) rfl (fun hc => ?_) (fun hc => ?_)
  · have h := h.1 hc
    refine z_iload_n (pc' := 42) dX6_countOpen_41 rfl rfl ?_
    exact z_iret dX6_countOpen_42 rfl h
  · have h := h.2 hc
    refine z_aload_n (pc' := 16) dX6_countOpen_15 rfl rfl ?_
    obtain ⟨h1, h⟩ := h
    refine z_getR (ci := 7) (kf := 3) (pc' := 19) dX6_countOpen_16 kX6_12 (Or.inl rfl) (by decide) (by decide) rfl rfl h1 ?_
    refine z_iload_n (pc' := 20) dX6_countOpen_19 rfl rfl ?_
    obtain ⟨h1, h⟩ := h
    obtain ⟨d1, b1, Qz, hm, hdd, hb, hkx, hk⟩ := h
    refine z_callV (Y := mJx4a65c_get_915e3) (n := 1) (as := [.int x2]) (st := []) (pc' := 23) (ci := 0) (q := (zrv G2 q0 3)) hm dX6_countOpen_20 kX6_72 vJx4a65c_get_915e3 rfl rfl (by decide) rfl h1 hdd hb (Nat.le_of_ble_eq_true rfl) (fun r G5 hz => ?_) hkx
    obtain ⟨y4, rfl, h⟩ := hk r G5 hz
    obtain ⟨h1, h⟩ := h
    refine z_castO (ci := 1) (pc' := 26) dX6_countOpen_23 kX6_76 (by decide) rfl h1 ?_
    obtain ⟨h1, h⟩ := h
    obtain ⟨d1, b1, Qz, hm, hdd, hb, hkx, hk⟩ := h
    refine z_callV (Y := mX0_isOpen) (n := 0) (as := []) (st := []) (pc' := 29) (ci := 1) (q := y4) hm dX6_countOpen_26 kX6_109 vX0_isOpen rfl rfl (by decide) rfl h1 hdd hb (Nat.le_of_ble_eq_true rfl) (fun r G8 hz => ?_) hkx
    obtain ⟨y7, rfl, h⟩ := hk r G8 hz
    refine z_if_eq (pt := 35) (pc' := 32) dX6_countOpen_29 (by decide) rfl (fun hc => ?_) (fun hc => ?_)
    · have h := h.1 hc
      refine z_iinc (y := x2 + 1) (pc' := 38) dX6_countOpen_35 rfl (zinc_1 _) (by decide) rfl ?_
      refine z_goto (pc' := 4) dX6_countOpen_38 (by decide) ?_
      exact z_dr (ls' := [some (.ref q0), some (.int x1), some (.int (x2 + 1))]) ⟨rfl, rfl, rfl, trivial⟩ h
    · have h := h.2 hc
      refine z_iinc (y := x1 + 1) (pc' := 35) dX6_countOpen_32 rfl (zinc_1 _) (by decide) rfl ?_
      refine z_iinc (y := x2 + 1) (pc' := 38) dX6_countOpen_35 rfl (zinc_1 _) (by decide) rfl ?_
      refine z_goto (pc' := 4) dX6_countOpen_38 (by decide) ?_
      exact z_dr (ls' := [some (.ref q0), some (.int (x1 + 1)), some (.int (x2 + 1))]) ⟨rfl, rfl, rfl, trivial⟩ h
def wp_X6_deskOf_0 (E : ZE) (l : Launch) (d b : Nat) (G0 : ZG) (Q : ZQ) (k : Nat) (q0 : Nat) (G : ZG) : Prop :=
  zW E l mX6_deskOf d b G0 Q k 2 [some (.ref q0), some (.int 0)] [] G
theorem wpt_X6_deskOf_0 {E : ZE} {l : Launch} {d b : Nat} {G0 : ZG} {Q : ZQ} {k : Nat} {q0 : Nat} {G : ZG} (h : wp_X6_deskOf_0 E l d b G0 Q k q0 G) : zW E l mX6_deskOf d b G0 Q k 0 [some (.ref q0), none] [] G := by
  unfold wp_X6_deskOf_0 at h
  refine z_iconst (x := 0) (pc' := 1) dX6_deskOf_0 (by decide) rfl ?_
  refine z_istore_n (pc' := 2) dX6_deskOf_1 (by decide) rfl ?_
  exact z_dr (ls' := [some (.ref q0), some (.int 0)]) ⟨rfl, rfl, trivial⟩ h
def wp_X6_deskOf_2 (E : ZE) (l : Launch) (d b : Nat) (G0 : ZG) (Q : ZQ) (k : Nat) (q0 : Nat) (x1 : Int32) (G : ZG) : Prop :=
  ((4 ≤ x1 →
    Q (.inl (some (.int (-1)))) G) ∧
  (¬ (4 ≤ x1) →
    (zar G (zp 3602 0) 0 ∨ zrd G (zp 3602 0) .int) ∧ vp_in x1 (zln G (zp 3602 0)) ∧
    zob G q0 1 ∧
    ((¬ (ziv G (zp 3602 0) x1.toNatClampNeg) = (ziv G q0 7) →
      zW E l mX6_deskOf d b G0 Q k 2 [some (.ref q0), some (.int (x1 + 1))] [] G) ∧
    (¬ (¬ (ziv G (zp 3602 0) x1.toNatClampNeg) = (ziv G q0 7)) →
      Q (.inl (some (.int x1))) G))))
theorem wpt_X6_deskOf_2 {E : ZE} {l : Launch} {d b : Nat} {G0 : ZG} {Q : ZQ} {k : Nat} {q0 : Nat} {x1 : Int32} {G : ZG} (h : wp_X6_deskOf_2 E l d b G0 Q k q0 x1 G) : zW E l mX6_deskOf d b G0 Q k 2 [some (.ref q0), some (.int x1)] [] G := by
  unfold wp_X6_deskOf_2 at h
  refine z_iload_n (pc' := 3) dX6_deskOf_2 rfl rfl ?_
  refine z_iconst (x := 4) (pc' := 4) dX6_deskOf_3 (by decide) rfl ?_
  refine z_icmp_ge (pt := 27) (pc' := 7) dX6_deskOf_4 (by decide) rfl (fun hc => ?_) (fun hc => ?_)
  · have h := h.1 hc
    refine z_iconst (x := (-1)) (pc' := 28) dX6_deskOf_27 (by decide) rfl ?_
    exact z_iret dX6_deskOf_28 rfl h
  · have h := h.2 hc
    refine z_gets (x := ("PassportOffice$Desks", "STATE_AT", "[I", zp 3602 0)) (pc' := 10) (by simp [zstat]) dX6_deskOf_7 kX6_142 rfl (by unfold zfx; decide) (by decide) ?_
    refine z_iload_n (pc' := 11) dX6_deskOf_10 rfl rfl ?_
    obtain ⟨h1, h2, h⟩ := h
    refine z_iald (pc' := 12) dX6_deskOf_11 rfl h1 h2 ?_
    refine z_aload_n (pc' := 13) dX6_deskOf_12 rfl rfl ?_
    obtain ⟨h1, h⟩ := h
    refine z_getI (ci := 1) (kf := 7) (pc' := 16) dX6_deskOf_13 kX6_106 (Or.inl rfl) (by decide) (by decide) rfl rfl h1 ?_
    refine z_icmp_ne (pt := 21) (pc' := 19) dX6_deskOf_16 (by decide) rfl (fun hc => ?_) (fun hc => ?_)
    · have h := h.1 hc
      refine z_iinc (y := x1 + 1) (pc' := 24) dX6_deskOf_21 rfl (zinc_1 _) (by decide) rfl ?_
      refine z_goto (pc' := 2) dX6_deskOf_24 (by decide) ?_
      exact z_dr (ls' := [some (.ref q0), some (.int (x1 + 1))]) ⟨rfl, rfl, trivial⟩ h
    · have h := h.2 hc
      refine z_iload_n (pc' := 20) dX6_deskOf_19 rfl rfl ?_
      exact z_iret dX6_deskOf_20 rfl h
def wp_X6_endBooklet_0 (E : ZE) (l : Launch) (d b : Nat) (G0 : ZG) (Q : ZQ) (k : Nat) (q0 : Nat) (x1 : Int32) (G : ZG) : Prop :=
  zob G q0 7 ∧
  xcR E l mX6_bookletAt d [.ref q0, .int x1] G k (fun X G9 => Q (.inr X) G9) (fun y1 G2 k3 =>
  ((y1 = 0 →
    Q (.inl none) G2) ∧
  (¬ (y1 = 0) →
    zob G2 y1 2 ∧
    zob G2 q0 7 ∧
    (((ziv G2 y1 2) ≤ (ziv G2 q0 6) →
      Q (.inl none) G2) ∧
    (¬ ((ziv G2 y1 2) ≤ (ziv G2 q0 6)) →
      zob G2 q0 7 ∧
      zob G2 y1 2 ∧
      ∀ G4, G4 = zsi G2 y1 2 (ziv G2 q0 6) →
      Q (.inl none) G4)))))
theorem wpt_X6_endBooklet_0 {E : ZE} {l : Launch} {d b : Nat} {G0 : ZG} {Q : ZQ} {k : Nat} {q0 : Nat} {x1 : Int32} {G : ZG} (h : wp_X6_endBooklet_0 E l d b G0 Q k q0 x1 G) : zW E l mX6_endBooklet d b G0 Q k 0 [some (.ref q0), some (.int x1), none] [] G := by
  unfold wp_X6_endBooklet_0 at h
  refine z_aload_n (pc' := 1) dX6_endBooklet_0 rfl rfl ?_
  refine z_iload_n (pc' := 2) dX6_endBooklet_1 rfl rfl ?_
  obtain ⟨h1, h⟩ := h
  obtain ⟨d1, b1, Qz, hm, hdd, hb, hkx, hk⟩ := h
  refine z_callV (Y := mX6_bookletAt) (n := 1) (as := [.int x1]) (st := []) (pc' := 5) (ci := 7) (q := q0) hm dX6_endBooklet_2 kX6_113 vX6_bookletAt rfl rfl (by decide) rfl h1 hdd hb (Nat.le_of_ble_eq_true rfl) (fun r G2 hz => ?_) hkx
  obtain ⟨y1, rfl, h⟩ := hk r G2 hz
  refine z_astore_n (pc' := 6) dX6_endBooklet_5 (by decide) rfl ?_
  refine z_aload_n (pc' := 7) dX6_endBooklet_6 rfl rfl ?_
  refine z_ifnull (pt := 29) (pc' := 10) dX6_endBooklet_7 (by decide) rfl (fun hc => ?_) (fun hc => ?_)
  · have h := h.1 hc
    exact z_vret dX6_endBooklet_29 rfl h
  · have h := h.2 hc
    refine z_aload_n (pc' := 11) dX6_endBooklet_10 rfl rfl ?_
    obtain ⟨h1, h⟩ := h
    refine z_getI (ci := 2) (kf := 2) (pc' := 14) dX6_endBooklet_11 kX6_129 (Or.inl rfl) (by decide) (by decide) rfl rfl h1 ?_
    refine z_aload_n (pc' := 15) dX6_endBooklet_14 rfl rfl ?_
    obtain ⟨h1, h⟩ := h
    refine z_getI (ci := 7) (kf := 6) (pc' := 18) dX6_endBooklet_15 kX6_25 (Or.inl rfl) (by decide) (by decide) rfl rfl h1 ?_
    refine z_icmp_le (pt := 29) (pc' := 21) dX6_endBooklet_18 (by decide) rfl (fun hc => ?_) (fun hc => ?_)
    · have h := h.1 hc
      exact z_vret dX6_endBooklet_29 rfl h
    · have h := h.2 hc
      refine z_aload_n (pc' := 22) dX6_endBooklet_21 rfl rfl ?_
      refine z_aload_n (pc' := 23) dX6_endBooklet_22 rfl rfl ?_
      obtain ⟨h1, h⟩ := h
      refine z_getI (ci := 7) (kf := 6) (pc' := 26) dX6_endBooklet_23 kX6_25 (Or.inl rfl) (by decide) (by decide) rfl rfl h1 ?_
      obtain ⟨h1, h⟩ := h
      obtain ⟨G4, hG⟩ : ∃ z, z = zsi G2 y1 2 (ziv G2 q0 6) := ⟨_, rfl⟩
      have h := h _ hG
      refine z_putI (ci := 2) (kf := 2) (pc' := 29) dX6_endBooklet_26 kX6_129 (Or.inl rfl) (by decide) (by decide) rfl (Or.inl rfl) rfl h1 (zok_int _) ?_
      refine z_st hG ?_
      exact z_vret dX6_endBooklet_29 rfl h
def wp_X6_endValidOnes_0 (E : ZE) (l : Launch) (d b : Nat) (G0 : ZG) (Q : ZQ) (k : Nat) (q0 : Nat) (q1 : Nat) (G : ZG) : Prop :=
  zW E l mX6_endValidOnes d b G0 Q k 2 [some (.ref q0), some (.ref q1), some (.int 0), none] [] G
theorem wpt_X6_endValidOnes_0 {E : ZE} {l : Launch} {d b : Nat} {G0 : ZG} {Q : ZQ} {k : Nat} {q0 : Nat} {q1 : Nat} {G : ZG} (h : wp_X6_endValidOnes_0 E l d b G0 Q k q0 q1 G) : zW E l mX6_endValidOnes d b G0 Q k 0 [some (.ref q0), some (.ref q1), none, none] [] G := by
  unfold wp_X6_endValidOnes_0 at h
  refine z_iconst (x := 0) (pc' := 1) dX6_endValidOnes_0 (by decide) rfl ?_
  refine z_istore_n (pc' := 2) dX6_endValidOnes_1 (by decide) rfl ?_
  exact z_dr (ls' := [some (.ref q0), some (.ref q1), some (.int 0), none]) ⟨rfl, rfl, rfl, trivial⟩ h
def wp_X6_endValidOnes_2 (E : ZE) (l : Launch) (d b : Nat) (G0 : ZG) (Q : ZQ) (k : Nat) (q0 : Nat) (q1 : Nat) (x2 : Int32) (G : ZG) : Prop :=
  zob G q0 7 ∧
  (((ziv G q0 5) ≤ x2 →
    Q (.inl none) G) ∧
  (¬ ((ziv G q0 5) ≤ x2) →
    zob G q0 7 ∧
    xcR E l mX6_bookletAt d [.ref q0, .int x2] G k (fun X G9 => Q (.inr X) G9) (fun y1 G2 k3 =>
    ((y1 = 0 →
      zW E l mX6_endValidOnes d b G0 Q k3 2 [some (.ref q0), some (.ref q1), some (.int (x2 + 1)), none] [] G2) ∧
    (¬ (y1 = 0) →
      zob G2 y1 2 ∧
      zob G2 q1 9 ∧
      ((¬ (ziv G2 y1 0) = (ziv G2 q1 0) →
        zW E l mX6_endValidOnes d b G0 Q k3 2 [some (.ref q0), some (.ref q1), some (.int (x2 + 1)), none] [] G2) ∧
      (¬ (¬ (ziv G2 y1 0) = (ziv G2 q1 0)) →
        zob G2 q0 7 ∧
        zob G2 y1 2 ∧
        xcI E l mX1_isValidOn d [.ref y1, .int (ziv G2 q0 6)] G2 k3 (fun X G9 => Q (.inr X) G9) (fun y4 G5 k6 =>
        ((y4 = 0 →
          zW E l mX6_endValidOnes d b G0 Q k6 2 [some (.ref q0), some (.ref q1), some (.int (x2 + 1)), none] [] G5) ∧
        (¬ (y4 = 0) →
          zob G5 q0 7 ∧
          zob G5 y1 2 ∧
          ∀ G7, G7 = zsi G5 y1 2 (ziv G5 q0 6) →
          zW E l mX6_endValidOnes d b G0 Q k6 2 [some (.ref q0), some (.ref q1), some (.int (x2 + 1)), none] [] G7))))))))))
theorem wpt_X6_endValidOnes_2 {E : ZE} {l : Launch} {d b : Nat} {G0 : ZG} {Q : ZQ} {k : Nat} {q0 : Nat} {q1 : Nat} {x2 : Int32} {G : ZG} (h : wp_X6_endValidOnes_2 E l d b G0 Q k q0 q1 x2 G) : zW E l mX6_endValidOnes d b G0 Q k 2 [some (.ref q0), some (.ref q1), some (.int x2), none] [] G := by
  unfold wp_X6_endValidOnes_2 at h
  refine z_iload_n (pc' := 3) dX6_endValidOnes_2 rfl rfl ?_
  refine z_aload_n (pc' := 4) dX6_endValidOnes_3 rfl rfl ?_
  obtain ⟨h1, h⟩ := h
  refine z_getI (ci := 7) (kf := 5) (pc' := 7) dX6_endValidOnes_4 kX6_21 (Or.inl rfl) (by decide) (by decide) rfl rfl h1 ?_
  refine z_icmp_ge (pt := 56) (pc' := 10) dX6_endValidOnes_7 (by decide) rfl (fun hc => ?_) (fun hc => ?_)
  · have h := h.1 hc
    exact z_vret dX6_endValidOnes_56 rfl h
  · have h := h.2 hc
    refine z_aload_n (pc' := 11) dX6_endValidOnes_10 rfl rfl ?_
    refine z_iload_n (pc' := 12) dX6_endValidOnes_11 rfl rfl ?_
    obtain ⟨h1, h⟩ := h
    obtain ⟨d1, b1, Qz, hm, hdd, hb, hkx, hk⟩ := h
    refine z_callV (Y := mX6_bookletAt) (n := 1) (as := [.int x2]) (st := []) (pc' := 15) (ci := 7) (q := q0) hm dX6_endValidOnes_12 kX6_113 vX6_bookletAt rfl rfl (by decide) rfl h1 hdd hb (Nat.le_of_ble_eq_true rfl) (fun r G2 hz => ?_) hkx
    obtain ⟨y1, rfl, h⟩ := hk r G2 hz
    refine z_astore_n (pc' := 16) dX6_endValidOnes_15 (by decide) rfl ?_
    refine z_aload_n (pc' := 17) dX6_endValidOnes_16 rfl rfl ?_
    refine z_ifnull (pt := 50) (pc' := 20) dX6_endValidOnes_17 (by decide) rfl (fun hc => ?_) (fun hc => ?_)
    · have h := h.1 hc
      refine z_iinc (y := x2 + 1) (pc' := 53) dX6_endValidOnes_50 rfl (zinc_1 _) (by decide) rfl ?_
      refine z_goto (pc' := 2) dX6_endValidOnes_53 (by decide) ?_
      exact z_dr (ls' := [some (.ref q0), some (.ref q1), some (.int (x2 + 1)), none]) ⟨rfl, rfl, rfl, trivial⟩ h
    · have h := h.2 hc
      refine z_aload_n (pc' := 21) dX6_endValidOnes_20 rfl rfl ?_
      obtain ⟨h1, h⟩ := h
      refine z_getI (ci := 2) (kf := 0) (pc' := 24) dX6_endValidOnes_21 kX6_117 (Or.inl rfl) (by decide) (by decide) rfl rfl h1 ?_
      refine z_aload_n (pc' := 25) dX6_endValidOnes_24 rfl rfl ?_
      obtain ⟨h1, h⟩ := h
      refine z_getI (ci := 9) (kf := 0) (pc' := 28) dX6_endValidOnes_25 kX6_120 (Or.inl rfl) (by decide) (by decide) rfl rfl h1 ?_
      refine z_icmp_ne (pt := 50) (pc' := 31) dX6_endValidOnes_28 (by decide) rfl (fun hc => ?_) (fun hc => ?_)
      · have h := h.1 hc
        refine z_iinc (y := x2 + 1) (pc' := 53) dX6_endValidOnes_50 rfl (zinc_1 _) (by decide) rfl ?_
        refine z_goto (pc' := 2) dX6_endValidOnes_53 (by decide) ?_
        exact z_dr (ls' := [some (.ref q0), some (.ref q1), some (.int (x2 + 1)), none]) ⟨rfl, rfl, rfl, trivial⟩ h
      · have h := h.2 hc
        refine z_aload_n (pc' := 32) dX6_endValidOnes_31 rfl rfl ?_
        refine z_aload_n (pc' := 33) dX6_endValidOnes_32 rfl rfl ?_
        obtain ⟨h1, h⟩ := h
        refine z_getI (ci := 7) (kf := 6) (pc' := 36) dX6_endValidOnes_33 kX6_25 (Or.inl rfl) (by decide) (by decide) rfl rfl h1 ?_
        obtain ⟨h1, h⟩ := h
        obtain ⟨d1, b1, Qz, hm, hdd, hb, hkx, hk⟩ := h
        refine z_callV (Y := mX1_isValidOn) (n := 1) (as := [.int (ziv G2 q0 6)]) (st := []) (pc' := 39) (ci := 2) (q := y1) hm dX6_endValidOnes_36 kX6_125 vX1_isValidOn rfl rfl (by decide) rfl h1 hdd hb (Nat.le_of_ble_eq_true rfl) (fun r G5 hz => ?_) hkx
        obtain ⟨y4, rfl, h⟩ := hk r G5 hz
        refine z_if_eq (pt := 50) (pc' := 42) dX6_endValidOnes_39 (by decide) rfl (fun hc => ?_) (fun hc => ?_)
        · have h := h.1 hc
          refine z_iinc (y := x2 + 1) (pc' := 53) dX6_endValidOnes_50 rfl (zinc_1 _) (by decide) rfl ?_
          refine z_goto (pc' := 2) dX6_endValidOnes_53 (by decide) ?_
          exact z_dr (ls' := [some (.ref q0), some (.ref q1), some (.int (x2 + 1)), none]) ⟨rfl, rfl, rfl, trivial⟩ h
        · have h := h.2 hc
          refine z_aload_n (pc' := 43) dX6_endValidOnes_42 rfl rfl ?_
          refine z_aload_n (pc' := 44) dX6_endValidOnes_43 rfl rfl ?_
          obtain ⟨h1, h⟩ := h
          refine z_getI (ci := 7) (kf := 6) (pc' := 47) dX6_endValidOnes_44 kX6_25 (Or.inl rfl) (by decide) (by decide) rfl rfl h1 ?_
          obtain ⟨h1, h⟩ := h
          obtain ⟨G7, hG⟩ : ∃ z, z = zsi G5 y1 2 (ziv G5 q0 6) := ⟨_, rfl⟩
          have h := h _ hG
          refine z_putI (ci := 2) (kf := 2) (pc' := 50) dX6_endValidOnes_47 kX6_129 (Or.inl rfl) (by decide) (by decide) rfl (Or.inl rfl) rfl h1 (zok_int _) ?_
          refine z_st hG ?_
          refine z_iinc (y := x2 + 1) (pc' := 53) dX6_endValidOnes_50 rfl (zinc_1 _) (by decide) rfl ?_
          refine z_goto (pc' := 2) dX6_endValidOnes_53 (by decide) ?_
          exact z_dr (ls' := [some (.ref q0), some (.ref q1), some (.int (x2 + 1)), none]) ⟨rfl, rfl, rfl, trivial⟩ h
