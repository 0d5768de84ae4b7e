/-! what the methods come to -/
def wp_X0_copyFrom_0 (E : ZE) (l : Launch) (d b : Nat) (G0 : ZG) (Q : ZQ) (k : Nat) (q0 : Nat) (q1 : Nat) (G : ZG) : Prop :=
  zob G q1 1 ∧
  zob G q0 1 ∧
  ∀ G1, G1 = zsi G q0 7 (ziv G q1 7) →
  zob G1 q1 1 ∧
  zob G1 q0 1 ∧
  ∀ G2, G2 = zsi G1 q0 8 (ziv G1 q1 8) →
  zob G2 q1 1 ∧
  zob G2 q0 1 ∧
  zok .boolean (ziv G2 q1 9) ∧
  ∀ G3, G3 = zsi G2 q0 9 (ziv G2 q1 9) →
  zob G3 q1 1 ∧
  zob G3 q0 1 ∧
  ∀ G4, G4 = zsi G3 q0 10 (ziv G3 q1 10) →
  zob G4 q1 1 ∧
  zob G4 q0 1 ∧
  ∀ G5, G5 = zsi G4 q0 11 (ziv G4 q1 11) →
  zob G5 q1 1 ∧
  zob G5 q0 1 ∧
  ∀ G6, G6 = zsi G5 q0 12 (ziv G5 q1 12) →
  zob G6 q1 1 ∧
  zob G6 q0 1 ∧
  ∀ G7, G7 = zsi G6 q0 13 (ziv G6 q1 13) →
  zob G7 q1 1 ∧
  zob G7 q0 1 ∧
  ∀ G8, G8 = zsi G7 q0 14 (ziv G7 q1 14) →
  Q (.inl none) G8
theorem wpt_X0_copyFrom_0 {E : ZE} {l : Launch} {d b : Nat} {G0 : ZG} {Q : ZQ} {k : Nat} {q0 : Nat} {q1 : Nat} {G : ZG} (h : wp_X0_copyFrom_0 E l d b G0 Q k q0 q1 G) : zW E l mX0_copyFrom d b G0 Q k 0 [some (.ref q0), some (.ref q1)] [] G := by
  unfold wp_X0_copyFrom_0 at h
  refine z_aload_n (pc' := 1) dX0_copyFrom_0 rfl rfl ?_
  refine z_aload_n (pc' := 2) dX0_copyFrom_1 rfl rfl ?_
  obtain ⟨h1, h⟩ := h
  refine z_getI (ci := 1) (kf := 7) (pc' := 5) dX0_copyFrom_2 kX0_11 (Or.inl rfl) (by decide) (by decide) rfl rfl h1 ?_
  obtain ⟨h1, h⟩ := h
  obtain ⟨G1, hG⟩ : ∃ z, z = zsi G q0 7 (ziv G q1 7) := ⟨_, rfl⟩
  have h := h _ hG
  refine z_putI (ci := 1) (kf := 7) (pc' := 8) dX0_copyFrom_5 kX0_11 (Or.inl rfl) (by decide) (by decide) rfl (Or.inl rfl) rfl h1 (zok_int _) ?_
  refine z_st hG ?_
  refine z_aload_n (pc' := 9) dX0_copyFrom_8 rfl rfl ?_
  refine z_aload_n (pc' := 10) dX0_copyFrom_9 rfl rfl ?_
  obtain ⟨h1, h⟩ := h
  refine z_getI (ci := 1) (kf := 8) (pc' := 13) dX0_copyFrom_10 kX0_15 (Or.inl rfl) (by decide) (by decide) rfl rfl h1 ?_
  obtain ⟨h1, h⟩ := h
  obtain ⟨G2, hG⟩ : ∃ z, z = zsi G1 q0 8 (ziv G1 q1 8) := ⟨_, rfl⟩
  have h := h _ hG
  refine z_putI (ci := 1) (kf := 8) (pc' := 16) dX0_copyFrom_13 kX0_15 (Or.inl rfl) (by decide) (by decide) rfl (Or.inl rfl) rfl h1 (zok_int _) ?_
  refine z_st hG ?_
  refine z_aload_n (pc' := 17) dX0_copyFrom_16 rfl rfl ?_
  refine z_aload_n (pc' := 18) dX0_copyFrom_17 rfl rfl ?_
  obtain ⟨h1, h⟩ := h
  refine z_getI (ci := 1) (kf := 9) (pc' := 21) dX0_copyFrom_18 kX0_18 (Or.inl rfl) (by decide) (by decide) rfl rfl h1 ?_
  obtain ⟨h1, h⟩ := h
  obtain ⟨h2, h⟩ := h
  obtain ⟨G3, hG⟩ : ∃ z, z = zsi G2 q0 9 (ziv G2 q1 9) := ⟨_, rfl⟩
  have h := h _ hG
  refine z_putI (ci := 1) (kf := 9) (pc' := 24) dX0_copyFrom_21 kX0_18 (Or.inl rfl) (by decide) (by decide) rfl (Or.inl rfl) rfl h1 h2 ?_
  refine z_st hG ?_
  refine z_aload_n (pc' := 25) dX0_copyFrom_24 rfl rfl ?_
  refine z_aload_n (pc' := 26) dX0_copyFrom_25 rfl rfl ?_
  obtain ⟨h1, h⟩ := h
  refine z_getI (ci := 1) (kf := 10) (pc' := 29) dX0_copyFrom_26 kX0_22 (Or.inl rfl) (by decide) (by decide) rfl rfl h1 ?_
  obtain ⟨h1, h⟩ := h
  obtain ⟨G4, hG⟩ : ∃ z, z = zsi G3 q0 10 (ziv G3 q1 10) := ⟨_, rfl⟩
  have h := h _ hG
  refine z_putI (ci := 1) (kf := 10) (pc' := 32) dX0_copyFrom_29 kX0_22 (Or.inl rfl) (by decide) (by decide) rfl (Or.inl rfl) rfl h1 (zok_int _) ?_
  refine z_st hG ?_
  refine z_aload_n (pc' := 33) dX0_copyFrom_32 rfl rfl ?_
  refine z_aload_n (pc' := 34) dX0_copyFrom_33 rfl rfl ?_
  obtain ⟨h1, h⟩ := h
  refine z_getI (ci := 1) (kf := 11) (pc' := 37) dX0_copyFrom_34 kX0_25 (Or.inl rfl) (by decide) (by decide) rfl rfl h1 ?_
  obtain ⟨h1, h⟩ := h
  obtain ⟨G5, hG⟩ : ∃ z, z = zsi G4 q0 11 (ziv G4 q1 11) := ⟨_, rfl⟩
  have h := h _ hG
  refine z_putI (ci := 1) (kf := 11) (pc' := 40) dX0_copyFrom_37 kX0_25 (Or.inl rfl) (by decide) (by decide) rfl (Or.inl rfl) rfl h1 (zok_int _) ?_
  refine z_st hG ?_
  refine z_aload_n (pc' := 41) dX0_copyFrom_40 rfl rfl ?_
  refine z_aload_n (pc' := 42) dX0_copyFrom_41 rfl rfl ?_
  obtain ⟨h1, h⟩ := h
  refine z_getI (ci := 1) (kf := 12) (pc' := 45) dX0_copyFrom_42 kX0_28 (Or.inl rfl) (by decide) (by decide) rfl rfl h1 ?_
  obtain ⟨h1, h⟩ := h
  obtain ⟨G6, hG⟩ : ∃ z, z = zsi G5 q0 12 (ziv G5 q1 12) := ⟨_, rfl⟩
  have h := h _ hG
  refine z_putI (ci := 1) (kf := 12) (pc' := 48) dX0_copyFrom_45 kX0_28 (Or.inl rfl) (by decide) (by decide) rfl (Or.inl rfl) rfl h1 (zok_int _) ?_
  refine z_st hG ?_
  refine z_aload_n (pc' := 49) dX0_copyFrom_48 rfl rfl ?_
  refine z_aload_n (pc' := 50) dX0_copyFrom_49 rfl rfl ?_
  obtain ⟨h1, h⟩ := h
  refine z_getI (ci := 1) (kf := 13) (pc' := 53) dX0_copyFrom_50 kX0_31 (Or.inl rfl) (by decide) (by decide) rfl rfl h1 ?_
  obtain ⟨h1, h⟩ := h
  obtain ⟨G7, hG⟩ : ∃ z, z = zsi G6 q0 13 (ziv G6 q1 13) := ⟨_, rfl⟩
  have h := h _ hG
  refine z_putI (ci := 1) (kf := 13) (pc' := 56) dX0_copyFrom_53 kX0_31 (Or.inl rfl) (by decide) (by decide) rfl (Or.inl rfl) rfl h1 (zok_int _) ?_
  refine z_st hG ?_
  refine z_aload_n (pc' := 57) dX0_copyFrom_56 rfl rfl ?_
  refine z_aload_n (pc' := 58) dX0_copyFrom_57 rfl rfl ?_
  obtain ⟨h1, h⟩ := h
  refine z_getI (ci := 1) (kf := 14) (pc' := 61) dX0_copyFrom_58 kX0_34 (Or.inl rfl) (by decide) (by decide) rfl rfl h1 ?_
  obtain ⟨h1, h⟩ := h
  obtain ⟨G8, hG⟩ : ∃ z, z = zsi G7 q0 14 (ziv G7 q1 14) := ⟨_, rfl⟩
  have h := h _ hG
  refine z_putI (ci := 1) (kf := 14) (pc' := 64) dX0_copyFrom_61 kX0_34 (Or.inl rfl) (by decide) (by decide) rfl (Or.inl rfl) rfl h1 (zok_int _) ?_
  refine z_st hG ?_
  exact z_vret dX0_copyFrom_64 rfl h
def wp_X0_gaveTicket_0 (E : ZE) (l : Launch) (d b : Nat) (G0 : ZG) (Q : ZQ) (k : Nat) (q0 : Nat) (G : ZG) : Prop :=
  zob G q0 1 ∧
  ((((ziv G q0 8) &&& 64) = 0 →
    Q (.inl (some (.int 0))) G) ∧
  (¬ (((ziv G q0 8) &&& 64) = 0) →
    Q (.inl (some (.int 1))) G))
theorem wpt_X0_gaveTicket_0 {E : ZE} {l : Launch} {d b : Nat} {G0 : ZG} {Q : ZQ} {k : Nat} {q0 : Nat} {G : ZG} (h : wp_X0_gaveTicket_0 E l d b G0 Q k q0 G) : zW E l mX0_gaveTicket d b G0 Q k 0 [some (.ref q0)] [] G := by
  unfold wp_X0_gaveTicket_0 at h
  refine z_aload_n (pc' := 1) dX0_gaveTicket_0 rfl rfl ?_
  obtain ⟨h1, h⟩ := h
  refine z_getI (ci := 1) (kf := 8) (pc' := 4) dX0_gaveTicket_1 kX0_15 (Or.inl rfl) (by decide) (by decide) rfl rfl h1 ?_
  refine z_bipush (x := 64) (pc' := 6) dX0_gaveTicket_4 (by decide) rfl ?_
  refine z_iand (pc' := 7) dX0_gaveTicket_6 rfl rfl ?_
  refine z_if_eq (pt := 14) (pc' := 10) dX0_gaveTicket_7 (by decide) rfl (fun hc => ?_) (fun hc => ?_)
  · have h := h.1 hc
    refine z_iconst (x := 0) (pc' := 15) dX0_gaveTicket_14 (by decide) rfl ?_
    exact z_zret (ty := .boolean) dX0_gaveTicket_15 rfl (by decide) h
  · have h := h.2 hc
    refine z_iconst (x := 1) (pc' := 11) dX0_gaveTicket_10 (by decide) rfl ?_
    refine z_goto (pc' := 15) dX0_gaveTicket_11 (by decide) ?_
    exact z_zret (ty := .boolean) dX0_gaveTicket_15 rfl (by decide) h
def wp_X0_init_0 (E : ZE) (l : Launch) (d b : Nat) (G0 : ZG) (Q : ZQ) (k : Nat) (q0 : Nat) (x1 : Int32) (q2 : Nat) (x3 : Int32) (x4 : Int32) (x5 : Int32) (x6 : Int32) (q7 : Nat) (G : ZG) : Prop :=
  zal G q0 ∧ 1 ≤ d ∧
  zob G q0 1 ∧
  ∀ G1, G1 = zsi G q0 7 0 →
  zob G1 q0 1 ∧
  ∀ G2, G2 = zsi G1 q0 8 0 →
  zob G2 q0 1 ∧
  ∀ G3, G3 = zsi G2 q0 9 0 →
  zob G3 q0 1 ∧
  ∀ G4, G4 = zsi G3 q0 10 (-1) →
  zob G4 q0 1 ∧
  ∀ G5, G5 = zsi G4 q0 11 (-1) →
  zob G5 q0 1 ∧
  ∀ G6, G6 = zsi G5 q0 12 (-1) →
  zob G6 q0 1 ∧
  ∀ G7, G7 = zsi G6 q0 13 (-1) →
  zob G7 q0 1 ∧
  ∀ G8, G8 = zsi G7 q0 14 0 →
  zob G8 q0 1 ∧
  ∀ G9, G9 = zsi G8 q0 0 x1 →
  zob G9 q0 1 ∧
  ∀ G10, G10 = zsr G9 q0 1 q2 →
  zob G10 q0 1 ∧
  ∀ G11, G11 = zsi G10 q0 2 x3 →
  zob G11 q0 1 ∧
  ∀ G12, G12 = zsi G11 q0 3 x4 →
  zob G12 q0 1 ∧
  ∀ G13, G13 = zsi G12 q0 4 x5 →
  zob G13 q0 1 ∧
  zok .boolean x6 ∧
  ∀ G14, G14 = zsi G13 q0 5 x6 →
  zob G14 q0 1 ∧
  ∀ G15, G15 = zsr G14 q0 6 q7 →
  Q (.inl none) G15
theorem wpt_X0_init_0 {E : ZE} {l : Launch} {d b : Nat} {G0 : ZG} {Q : ZQ} {k : Nat} {q0 : Nat} {x1 : Int32} {q2 : Nat} {x3 : Int32} {x4 : Int32} {x5 : Int32} {x6 : Int32} {q7 : Nat} {G : ZG} (h : wp_X0_init_0 E l d b G0 Q k q0 x1 q2 x3 x4 x5 x6 q7 G) : zW E l mX0_init d b G0 Q k 0 [some (.ref q0), some (.int x1), some (.ref q2), some (.int x3), some (.int x4), some (.int x5), some (.int x6), some (.ref q7)] [] G := by
  unfold wp_X0_init_0 at h
  refine z_aload_n (pc' := 1) dX0_init_0 rfl rfl ?_
  obtain ⟨h1, h2, h⟩ := h
  refine z_objInit (pc' := 4) dX0_init_1 kX0_3 o_inst o_code rfl h2 h1 (Nat.le_of_ble_eq_true rfl) ?_
  refine z_aload_n (pc' := 5) dX0_init_4 rfl rfl ?_
  refine z_iconst (x := 0) (pc' := 6) dX0_init_5 (by decide) rfl ?_
  obtain ⟨h1, h⟩ := h
  obtain ⟨G1, hG⟩ : ∃ z, z = zsi G q0 7 0 := ⟨_, rfl⟩
  have h := h _ hG
  refine z_putI (ci := 1) (kf := 7) (pc' := 9) dX0_init_6 kX0_11 (Or.inl rfl) (by decide) (by decide) rfl (Or.inl rfl) rfl h1 (zok_int _) ?_
  refine z_st hG ?_
  refine z_aload_n (pc' := 10) dX0_init_9 rfl rfl ?_
  refine z_iconst (x := 0) (pc' := 11) dX0_init_10 (by decide) rfl ?_
  obtain ⟨h1, h⟩ := h
  obtain ⟨G2, hG⟩ : ∃ z, z = zsi G1 q0 8 0 := ⟨_, rfl⟩
  have h := h _ hG
  refine z_putI (ci := 1) (kf := 8) (pc' := 14) dX0_init_11 kX0_15 (Or.inl rfl) (by decide) (by decide) rfl (Or.inl rfl) rfl h1 (zok_int _) ?_
  refine z_st hG ?_
  refine z_aload_n (pc' := 15) dX0_init_14 rfl rfl ?_
  refine z_iconst (x := 0) (pc' := 16) dX0_init_15 (by decide) rfl ?_
  obtain ⟨h1, h⟩ := h
  obtain ⟨G3, hG⟩ : ∃ z, z = zsi G2 q0 9 0 := ⟨_, rfl⟩
  have h := h _ hG
  refine z_putI (ci := 1) (kf := 9) (pc' := 19) dX0_init_16 kX0_18 (Or.inl rfl) (by decide) (by decide) rfl (Or.inl rfl) rfl h1 zok_0 ?_
  refine z_st hG ?_
  refine z_aload_n (pc' := 20) dX0_init_19 rfl rfl ?_
  refine z_iconst (x := (-1)) (pc' := 21) dX0_init_20 (by decide) rfl ?_
  obtain ⟨h1, h⟩ := h
  obtain ⟨G4, hG⟩ : ∃ z, z = zsi G3 q0 10 (-1) := ⟨_, rfl⟩
  have h := h _ hG
  refine z_putI (ci := 1) (kf := 10) (pc' := 24) dX0_init_21 kX0_22 (Or.inl rfl) (by decide) (by decide) rfl (Or.inl rfl) rfl h1 (zok_int _) ?_
  refine z_st hG ?_
  refine z_aload_n (pc' := 25) dX0_init_24 rfl rfl ?_
  refine z_iconst (x := (-1)) (pc' := 26) dX0_init_25 (by decide) rfl ?_
  obtain ⟨h1, h⟩ := h
  obtain ⟨G5, hG⟩ : ∃ z, z = zsi G4 q0 11 (-1) := ⟨_, rfl⟩
  have h := h _ hG
  refine z_putI (ci := 1) (kf := 11) (pc' := 29) dX0_init_26 kX0_25 (Or.inl rfl) (by decide) (by decide) rfl (Or.inl rfl) rfl h1 (zok_int _) ?_
  refine z_st hG ?_
  refine z_aload_n (pc' := 30) dX0_init_29 rfl rfl ?_
  refine z_iconst (x := (-1)) (pc' := 31) dX0_init_30 (by decide) rfl ?_
  obtain ⟨h1, h⟩ := h
  obtain ⟨G6, hG⟩ : ∃ z, z = zsi G5 q0 12 (-1) := ⟨_, rfl⟩
  have h := h _ hG
  refine z_putI (ci := 1) (kf := 12) (pc' := 34) dX0_init_31 kX0_28 (Or.inl rfl) (by decide) (by decide) rfl (Or.inl rfl) rfl h1 (zok_int _) ?_
  refine z_st hG ?_
  refine z_aload_n (pc' := 35) dX0_init_34 rfl rfl ?_
  refine z_iconst (x := (-1)) (pc' := 36) dX0_init_35 (by decide) rfl ?_
  obtain ⟨h1, h⟩ := h
  obtain ⟨G7, hG⟩ : ∃ z, z = zsi G6 q0 13 (-1) := ⟨_, rfl⟩
  have h := h _ hG
  refine z_putI (ci := 1) (kf := 13) (pc' := 39) dX0_init_36 kX0_31 (Or.inl rfl) (by decide) (by decide) rfl (Or.inl rfl) rfl h1 (zok_int _) ?_
  refine z_st hG ?_
  refine z_aload_n (pc' := 40) dX0_init_39 rfl rfl ?_
  refine z_iconst (x := 0) (pc' := 41) dX0_init_40 (by decide) rfl ?_
  obtain ⟨h1, h⟩ := h
  obtain ⟨G8, hG⟩ : ∃ z, z = zsi G7 q0 14 0 := ⟨_, rfl⟩
  have h := h _ hG
  refine z_putI (ci := 1) (kf := 14) (pc' := 44) dX0_init_41 kX0_34 (Or.inl rfl) (by decide) (by decide) rfl (Or.inl rfl) rfl h1 (zok_int _) ?_
  refine z_st hG ?_
  refine z_aload_n (pc' := 45) dX0_init_44 rfl rfl ?_
  refine z_iload_n (pc' := 46) dX0_init_45 rfl rfl ?_
  obtain ⟨h1, h⟩ := h
  obtain ⟨G9, hG⟩ : ∃ z, z = zsi G8 q0 0 x1 := ⟨_, rfl⟩
  have h := h _ hG
  refine z_putI (ci := 1) (kf := 0) (pc' := 49) dX0_init_46 kX0_37 (Or.inl rfl) (by decide) (by decide) rfl (Or.inr ⟨rfl, rfl⟩) rfl h1 (zok_int _) ?_
  refine z_st hG ?_
  refine z_aload_n (pc' := 50) dX0_init_49 rfl rfl ?_
  refine z_aload_n (pc' := 51) dX0_init_50 rfl rfl ?_
  obtain ⟨h1, h⟩ := h
  obtain ⟨G10, hG⟩ : ∃ z, z = zsr G9 q0 1 q2 := ⟨_, rfl⟩
  have h := h _ hG
  refine z_putR (ci := 1) (kf := 1) (pc' := 54) dX0_init_51 kX0_40 (Or.inl rfl) (by decide) (by decide) rfl (Or.inr ⟨rfl, rfl⟩) rfl h1 ?_
  refine z_st hG ?_
  refine z_aload_n (pc' := 55) dX0_init_54 rfl rfl ?_
  refine z_iload_n (pc' := 56) dX0_init_55 rfl rfl ?_
  obtain ⟨h1, h⟩ := h
  obtain ⟨G11, hG⟩ : ∃ z, z = zsi G10 q0 2 x3 := ⟨_, rfl⟩
  have h := h _ hG
  refine z_putI (ci := 1) (kf := 2) (pc' := 59) dX0_init_56 kX0_44 (Or.inl rfl) (by decide) (by decide) rfl (Or.inr ⟨rfl, rfl⟩) rfl h1 (zok_int _) ?_
  refine z_st hG ?_
  refine z_aload_n (pc' := 60) dX0_init_59 rfl rfl ?_
  refine z_iload (pc' := 62) dX0_init_60 rfl rfl ?_
  obtain ⟨h1, h⟩ := h
  obtain ⟨G12, hG⟩ : ∃ z, z = zsi G11 q0 3 x4 := ⟨_, rfl⟩
  have h := h _ hG
  refine z_putI (ci := 1) (kf := 3) (pc' := 65) dX0_init_62 kX0_47 (Or.inl rfl) (by decide) (by decide) rfl (Or.inr ⟨rfl, rfl⟩) rfl h1 (zok_int _) ?_
  refine z_st hG ?_
  refine z_aload_n (pc' := 66) dX0_init_65 rfl rfl ?_
  refine z_iload (pc' := 68) dX0_init_66 rfl rfl ?_
  obtain ⟨h1, h⟩ := h
  obtain ⟨G13, hG⟩ : ∃ z, z = zsi G12 q0 4 x5 := ⟨_, rfl⟩
  have h := h _ hG
  refine z_putI (ci := 1) (kf := 4) (pc' := 71) dX0_init_68 kX0_50 (Or.inl rfl) (by decide) (by decide) rfl (Or.inr ⟨rfl, rfl⟩) rfl h1 (zok_int _) ?_
  refine z_st hG ?_
  refine z_aload_n (pc' := 72) dX0_init_71 rfl rfl ?_
  refine z_iload (pc' := 74) dX0_init_72 rfl rfl ?_
  obtain ⟨h1, h⟩ := h
  obtain ⟨h2, h⟩ := h
  obtain ⟨G14, hG⟩ : ∃ z, z = zsi G13 q0 5 x6 := ⟨_, rfl⟩
  have h := h _ hG
  refine z_putI (ci := 1) (kf := 5) (pc' := 77) dX0_init_74 kX0_53 (Or.inl rfl) (by decide) (by decide) rfl (Or.inr ⟨rfl, rfl⟩) rfl h1 h2 ?_
  refine z_st hG ?_
  refine z_aload_n (pc' := 78) dX0_init_77 rfl rfl ?_
  refine z_aload (pc' := 80) dX0_init_78 rfl rfl ?_
  obtain ⟨h1, h⟩ := h
  obtain ⟨G15, hG⟩ : ∃ z, z = zsr G14 q0 6 q7 := ⟨_, rfl⟩
  have h := h _ hG
  refine z_putR (ci := 1) (kf := 6) (pc' := 83) dX0_init_80 kX0_56 (Or.inl rfl) (by decide) (by decide) rfl (Or.inr ⟨rfl, rfl⟩) rfl h1 ?_
  refine z_st hG ?_
  exact z_vret dX0_init_83 rfl h
def wp_X0_isGotInTime_0 (E : ZE) (l : Launch) (d b : Nat) (G0 : ZG) (Q : ZQ) (k : Nat) (q0 : Nat) (G : ZG) : Prop :=
  zob G q0 1 ∧
  ((¬ (ziv G q0 7) = 7 →
    Q (.inl (some (.int 0))) G) ∧
  (¬ (¬ (ziv G q0 7) = 7) →
    zob G q0 1 ∧
    zob G q0 1 ∧
    (((ziv G q0 4) < (ziv G q0 12) →
      Q (.inl (some (.int 0))) G) ∧
    (¬ ((ziv G q0 4) < (ziv G q0 12)) →
      Q (.inl (some (.int 1))) G))))
theorem wpt_X0_isGotInTime_0 {E : ZE} {l : Launch} {d b : Nat} {G0 : ZG} {Q : ZQ} {k : Nat} {q0 : Nat} {G : ZG} (h : wp_X0_isGotInTime_0 E l d b G0 Q k q0 G) : zW E l mX0_isGotInTime d b G0 Q k 0 [some (.ref q0)] [] G := by
  unfold wp_X0_isGotInTime_0 at h
  refine z_aload_n (pc' := 1) dX0_isGotInTime_0 rfl rfl ?_
  obtain ⟨h1, h⟩ := h
  refine z_getI (ci := 1) (kf := 7) (pc' := 4) dX0_isGotInTime_1 kX0_11 (Or.inl rfl) (by decide) (by decide) rfl rfl h1 ?_
  refine z_bipush (x := 7) (pc' := 6) dX0_isGotInTime_4 (by decide) rfl ?_
  refine z_icmp_ne (pt := 24) (pc' := 9) dX0_isGotInTime_6 (by decide) rfl (fun hc => ?_) (fun hc => ?_)
  · have h := h.1 hc
    refine z_iconst (x := 0) (pc' := 25) dX0_isGotInTime_24 (by decide) rfl ?_
    exact z_zret (ty := .boolean) dX0_isGotInTime_25 rfl (by decide) h
  · have h := h.2 hc
    refine z_aload_n (pc' := 10) dX0_isGotInTime_9 rfl rfl ?_
    obtain ⟨h1, h⟩ := h
    refine z_getI (ci := 1) (kf := 12) (pc' := 13) dX0_isGotInTime_10 kX0_28 (Or.inl rfl) (by decide) (by decide) rfl rfl h1 ?_
    refine z_aload_n (pc' := 14) dX0_isGotInTime_13 rfl rfl ?_
    obtain ⟨h1, h⟩ := h
    refine z_getI (ci := 1) (kf := 4) (pc' := 17) dX0_isGotInTime_14 kX0_50 (Or.inl rfl) (by decide) (by decide) rfl rfl h1 ?_
    refine z_icmp_gt (pt := 24) (pc' := 20) dX0_isGotInTime_17 (by decide) rfl (fun hc => ?_) (fun hc => ?_)
    · have h := h.1 hc
      refine z_iconst (x := 0) (pc' := 25) dX0_isGotInTime_24 (by decide) rfl ?_
      exact z_zret (ty := .boolean) dX0_isGotInTime_25 rfl (by decide) h
    · have h := h.2 hc
      refine z_iconst (x := 1) (pc' := 21) dX0_isGotInTime_20 (by decide) rfl ?_
      refine z_goto (pc' := 25) dX0_isGotInTime_21 (by decide) ?_
      exact z_zret (ty := .boolean) dX0_isGotInTime_25 rfl (by decide) h
def wp_X0_isOpen_0 (E : ZE) (l : Launch) (d b : Nat) (G0 : ZG) (Q : ZQ) (k : Nat) (q0 : Nat) (G : ZG) : Prop :=
  zob G q0 1 ∧
  ((5 < (ziv G q0 7) →
    Q (.inl (some (.int 0))) G) ∧
  (¬ (5 < (ziv G q0 7)) →
    Q (.inl (some (.int 1))) G))
theorem wpt_X0_isOpen_0 {E : ZE} {l : Launch} {d b : Nat} {G0 : ZG} {Q : ZQ} {k : Nat} {q0 : Nat} {G : ZG} (h : wp_X0_isOpen_0 E l d b G0 Q k q0 G) : zW E l mX0_isOpen d b G0 Q k 0 [some (.ref q0)] [] G := by
  unfold wp_X0_isOpen_0 at h
  refine z_aload_n (pc' := 1) dX0_isOpen_0 rfl rfl ?_
  obtain ⟨h1, h⟩ := h
  refine z_getI (ci := 1) (kf := 7) (pc' := 4) dX0_isOpen_1 kX0_11 (Or.inl rfl) (by decide) (by decide) rfl rfl h1 ?_
  refine z_iconst (x := 5) (pc' := 5) dX0_isOpen_4 (by decide) rfl ?_
  refine z_icmp_gt (pt := 12) (pc' := 8) dX0_isOpen_5 (by decide) rfl (fun hc => ?_) (fun hc => ?_)
  · have h := h.1 hc
    refine z_iconst (x := 0) (pc' := 13) dX0_isOpen_12 (by decide) rfl ?_
    exact z_zret (ty := .boolean) dX0_isOpen_13 rfl (by decide) h
  · have h := h.2 hc
    refine z_iconst (x := 1) (pc' := 9) dX0_isOpen_8 (by decide) rfl ?_
    refine z_goto (pc' := 13) dX0_isOpen_9 (by decide) ?_
    exact z_zret (ty := .boolean) dX0_isOpen_13 rfl (by decide) h
def wp_X0_lackingItems_0 (E : ZE) (l : Launch) (d b : Nat) (G0 : ZG) (Q : ZQ) (k : Nat) (q0 : Nat) (G : ZG) : Prop :=
  zob G q0 1 ∧
  zob G (zrv G q0 6) 11 ∧
  zob G q0 1 ∧
  Q (.inl (some (.int ((ziv G (zrv G q0 6) 0) &&& ((ziv G q0 8) ^^^ (-1)))))) G
theorem wpt_X0_lackingItems_0 {E : ZE} {l : Launch} {d b : Nat} {G0 : ZG} {Q : ZQ} {k : Nat} {q0 : Nat} {G : ZG} (h : wp_X0_lackingItems_0 E l d b G0 Q k q0 G) : zW E l mX0_lackingItems d b G0 Q k 0 [some (.ref q0)] [] G := by
  unfold wp_X0_lackingItems_0 at h
  refine z_aload_n (pc' := 1) dX0_lackingItems_0 rfl rfl ?_
  obtain ⟨h1, h⟩ := h
  refine z_getR (ci := 1) (kf := 6) (pc' := 4) dX0_lackingItems_1 kX0_56 (Or.inl rfl) (by decide) (by decide) rfl rfl h1 ?_
  obtain ⟨h1, h⟩ := h
  refine z_getI (ci := 11) (kf := 0) (pc' := 7) dX0_lackingItems_4 kX0_63 (Or.inl rfl) (by decide) (by decide) rfl rfl h1 ?_
  refine z_aload_n (pc' := 8) dX0_lackingItems_7 rfl rfl ?_
  obtain ⟨h1, h⟩ := h
  refine z_getI (ci := 1) (kf := 8) (pc' := 11) dX0_lackingItems_8 kX0_15 (Or.inl rfl) (by decide) (by decide) rfl rfl h1 ?_
  refine z_iconst (x := (-1)) (pc' := 12) dX0_lackingItems_11 (by decide) rfl ?_
  refine z_ixor (pc' := 13) dX0_lackingItems_12 rfl rfl ?_
  refine z_iand (pc' := 14) dX0_lackingItems_13 rfl rfl ?_
  exact z_iret dX0_lackingItems_14 rfl h
def wp_X0_twin_0 (E : ZE) (l : Launch) (d b : Nat) (G0 : ZG) (Q : ZQ) (k : Nat) (q0 : Nat) (G : ZG) : Prop :=
  16 ≤ k ∧ ∃ t1, t1 ≠ 0 ∧ t1 < 448 ∧ t1 / 32 = 1 ∧
  ∀ q_2, q_2 = zp t1 (zcn G t1) → ∀ G3, G3 = znw G t1 0 → ∀ k4, k4 = k - 16 →
  zob G3 q0 1 ∧
  zob G3 q0 1 ∧
  zob G3 q0 1 ∧
  zob G3 q0 1 ∧
  zob G3 q0 1 ∧
  zob G3 q0 1 ∧
  zob G3 q0 1 ∧
  zal G3 q_2 ∧
  xcV E l mX0_init d [.ref q_2, .int (ziv G3 q0 0), .ref (zrv G3 q0 1), .int (ziv G3 q0 2), .int (ziv G3 q0 3), .int (ziv G3 q0 4), .int (ziv G3 q0 5), .ref (zrv G3 q0 6)] G3 k4 (fun X G9 => Q (.inr X) G9) (fun G5 k6 =>
  Q (.inl (some (.ref q_2))) G5)
theorem wpt_X0_twin_0 {E : ZE} {l : Launch} {d b : Nat} {G0 : ZG} {Q : ZQ} {k : Nat} {q0 : Nat} {G : ZG} (h : wp_X0_twin_0 E l d b G0 Q k q0 G) : zW E l mX0_twin d b G0 Q k 0 [some (.ref q0)] [] G := by
  unfold wp_X0_twin_0 at h
  obtain ⟨h1, t1, h2, h3, h4, h⟩ := h
  obtain ⟨q_2, hq⟩ : ∃ z, z = zp t1 (zcn G t1) := ⟨_, rfl⟩
  obtain ⟨G3, hG⟩ : ∃ z, z = znw G t1 0 := ⟨_, rfl⟩
  have h := h _ hq _ hG _ rfl
  refine z_new (ci := 1) (t := t1) (pc' := 3) dX0_twin_0 kX0_9 n1_inst n1_ini (by decide) rfl h2 h3 h4 h1 (z_df (by decide)) ?_
  refine z_mk hq hG ?_
  refine z_dup (pc' := 4) dX0_twin_3 rfl rfl ?_
  refine z_aload_n (pc' := 5) dX0_twin_4 rfl rfl ?_
  obtain ⟨h1, h⟩ := h
  refine z_getI (ci := 1) (kf := 0) (pc' := 8) dX0_twin_5 kX0_37 (Or.inl rfl) (by decide) (by decide) rfl rfl h1 ?_
  refine z_aload_n (pc' := 9) dX0_twin_8 rfl rfl ?_
  obtain ⟨h1, h⟩ := h
  refine z_getR (ci := 1) (kf := 1) (pc' := 12) dX0_twin_9 kX0_40 (Or.inl rfl) (by decide) (by decide) rfl rfl h1 ?_
  refine z_aload_n (pc' := 13) dX0_twin_12 rfl rfl ?_
  obtain ⟨h1, h⟩ := h
  refine z_getI (ci := 1) (kf := 2) (pc' := 16) dX0_twin_13 kX0_44 (Or.inl rfl) (by decide) (by decide) rfl rfl h1 ?_
  refine z_aload_n (pc' := 17) dX0_twin_16 rfl rfl ?_
  obtain ⟨h1, h⟩ := h
  refine z_getI (ci := 1) (kf := 3) (pc' := 20) dX0_twin_17 kX0_47 (Or.inl rfl) (by decide) (by decide) rfl rfl h1 ?_
  refine z_aload_n (pc' := 21) dX0_twin_20 rfl rfl ?_
  obtain ⟨h1, h⟩ := h
  refine z_getI (ci := 1) (kf := 4) (pc' := 24) dX0_twin_21 kX0_50 (Or.inl rfl) (by decide) (by decide) rfl rfl h1 ?_
  refine z_aload_n (pc' := 25) dX0_twin_24 rfl rfl ?_
  obtain ⟨h1, h⟩ := h
  refine z_getI (ci := 1) (kf := 5) (pc' := 28) dX0_twin_25 kX0_53 (Or.inl rfl) (by decide) (by decide) rfl rfl h1 ?_
  refine z_aload_n (pc' := 29) dX0_twin_28 rfl rfl ?_
  obtain ⟨h1, h⟩ := h
  refine z_getR (ci := 1) (kf := 6) (pc' := 32) dX0_twin_29 kX0_56 (Or.inl rfl) (by decide) (by decide) rfl rfl h1 ?_
  obtain ⟨h1, h⟩ := h
  obtain ⟨d1, b1, Qz, hm, hdd, hb, hkx, hk⟩ := h
  refine z_callI (Y := mX0_init) (n := 7) (as := [.int (ziv G3 q0 0), .ref (zrv G3 q0 1), .int (ziv G3 q0 2), .int (ziv G3 q0 3), .int (ziv G3 q0 4), .int (ziv G3 q0 5), .ref (zrv G3 q0 6)]) (st := [.ref q_2]) (pc' := 35) (q := q_2) hm dX0_twin_32 kX0_60 iX0_init rfl rfl h1 hdd hb (Nat.le_of_ble_eq_true rfl) (fun r G5 hz => ?_) hkx
  obtain ⟨rfl, h⟩ := hk r G5 hz
  exact z_aret dX0_twin_35 rfl (Or.inl ⟨_, rfl⟩) h
def wp_X0_waitedDays_0 (E : ZE) (l : Launch) (d b : Nat) (G0 : ZG) (Q : ZQ) (k : Nat) (q0 : Nat) (G : ZG) : Prop :=
  zob G q0 1 ∧
  zob G q0 1 ∧
  Q (.inl (some (.int ((ziv G q0 12) - (ziv G q0 3))))) G
theorem wpt_X0_waitedDays_0 {E : ZE} {l : Launch} {d b : Nat} {G0 : ZG} {Q : ZQ} {k : Nat} {q0 : Nat} {G : ZG} (h : wp_X0_waitedDays_0 E l d b G0 Q k q0 G) : zW E l mX0_waitedDays d b G0 Q k 0 [some (.ref q0)] [] G := by
  unfold wp_X0_waitedDays_0 at h
  refine z_aload_n (pc' := 1) dX0_waitedDays_0 rfl rfl ?_
  obtain ⟨h1, h⟩ := h
  refine z_getI (ci := 1) (kf := 12) (pc' := 4) dX0_waitedDays_1 kX0_28 (Or.inl rfl) (by decide) (by decide) rfl rfl h1 ?_
  refine z_aload_n (pc' := 5) dX0_waitedDays_4 rfl rfl ?_
  obtain ⟨h1, h⟩ := h
  refine z_getI (ci := 1) (kf := 3) (pc' := 8) dX0_waitedDays_5 kX0_47 (Or.inl rfl) (by decide) (by decide) rfl rfl h1 ?_
  refine z_isub (pc' := 9) dX0_waitedDays_8 rfl rfl ?_
  exact z_iret dX0_waitedDays_9 rfl h
def wp_X10_init_0 (E : ZE) (l : Launch) (d b : Nat) (G0 : ZG) (Q : ZQ) (k : Nat) (q0 : Nat) (G : ZG) : Prop :=
  zal G q0 ∧ 1 ≤ d ∧
  zob G q0 11 ∧
  ∀ G1, G1 = zsi G q0 0 0 →
  zob G1 q0 11 ∧
  ∀ G2, G2 = zsi G1 q0 1 0 →
  zob G2 q0 11 ∧
  ∀ G3, G3 = zsi G2 q0 2 0 →
  zob G3 q0 11 ∧
  ∀ G4, G4 = zsi G3 q0 3 (-1) →
  zob G4 q0 11 ∧
  ∀ G5, G5 = zsi G4 q0 4 0 →
  zob G5 q0 11 ∧
  ∀ G6, G6 = zsi G5 q0 5 (-1) →
  Q (.inl none) G6
theorem wpt_X10_init_0 {E : ZE} {l : Launch} {d b : Nat} {G0 : ZG} {Q : ZQ} {k : Nat} {q0 : Nat} {G : ZG} (h : wp_X10_init_0 E l d b G0 Q k q0 G) : zW E l mX10_init d b G0 Q k 0 [some (.ref q0)] [] G := by
  unfold wp_X10_init_0 at h
  refine z_aload_n (pc' := 1) dX10_init_0 rfl rfl ?_
  obtain ⟨h1, h2, h⟩ := h
  refine z_objInit (pc' := 4) dX10_init_1 kX10_3 o_inst o_code rfl h2 h1 (Nat.le_of_ble_eq_true rfl) ?_
  refine z_aload_n (pc' := 5) dX10_init_4 rfl rfl ?_
  refine z_iconst (x := 0) (pc' := 6) dX10_init_5 (by decide) rfl ?_
  obtain ⟨h1, h⟩ := h
  obtain ⟨G1, hG⟩ : ∃ z, z = zsi G q0 0 0 := ⟨_, rfl⟩
  have h := h _ hG
  refine z_putI (ci := 11) (kf := 0) (pc' := 9) dX10_init_6 kX10_9 (Or.inl rfl) (by decide) (by decide) rfl (Or.inl rfl) rfl h1 (zok_int _) ?_
  refine z_st hG ?_
  refine z_aload_n (pc' := 10) dX10_init_9 rfl rfl ?_
  refine z_iconst (x := 0) (pc' := 11) dX10_init_10 (by decide) rfl ?_
  obtain ⟨h1, h⟩ := h
  obtain ⟨G2, hG⟩ : ∃ z, z = zsi G1 q0 1 0 := ⟨_, rfl⟩
  have h := h _ hG
  refine z_putI (ci := 11) (kf := 1) (pc' := 14) dX10_init_11 kX10_15 (Or.inl rfl) (by decide) (by decide) rfl (Or.inl rfl) rfl h1 (zok_int _) ?_
  refine z_st hG ?_
  refine z_aload_n (pc' := 15) dX10_init_14 rfl rfl ?_
  refine z_iconst (x := 0) (pc' := 16) dX10_init_15 (by decide) rfl ?_
  obtain ⟨h1, h⟩ := h
  obtain ⟨G3, hG⟩ : ∃ z, z = zsi G2 q0 2 0 := ⟨_, rfl⟩
  have h := h _ hG
  refine z_putI (ci := 11) (kf := 2) (pc' := 19) dX10_init_16 kX10_18 (Or.inl rfl) (by decide) (by decide) rfl (Or.inl rfl) rfl h1 (zok_int _) ?_
  refine z_st hG ?_
  refine z_aload_n (pc' := 20) dX10_init_19 rfl rfl ?_
  refine z_iconst (x := (-1)) (pc' := 21) dX10_init_20 (by decide) rfl ?_
  obtain ⟨h1, h⟩ := h
  obtain ⟨G4, hG⟩ : ∃ z, z = zsi G3 q0 3 (-1) := ⟨_, rfl⟩
  have h := h _ hG
  refine z_putI (ci := 11) (kf := 3) (pc' := 24) dX10_init_21 kX10_21 (Or.inl rfl) (by decide) (by decide) rfl (Or.inl rfl) rfl h1 (zok_int _) ?_
  refine z_st hG ?_
  refine z_aload_n (pc' := 25) dX10_init_24 rfl rfl ?_
  refine z_iconst (x := 0) (pc' := 26) dX10_init_25 (by decide) rfl ?_
  obtain ⟨h1, h⟩ := h
  obtain ⟨G5, hG⟩ : ∃ z, z = zsi G4 q0 4 0 := ⟨_, rfl⟩
  have h := h _ hG
  refine z_putI (ci := 11) (kf := 4) (pc' := 29) dX10_init_26 kX10_24 (Or.inl rfl) (by decide) (by decide) rfl (Or.inl rfl) rfl h1 zok_0 ?_
  refine z_st hG ?_
  refine z_aload_n (pc' := 30) dX10_init_29 rfl rfl ?_
  refine z_iconst (x := (-1)) (pc' := 31) dX10_init_30 (by decide) rfl ?_
  obtain ⟨h1, h⟩ := h
  obtain ⟨G6, hG⟩ : ∃ z, z = zsi G5 q0 5 (-1) := ⟨_, rfl⟩
  have h := h _ hG
  refine z_putI (ci := 11) (kf := 5) (pc' := 34) dX10_init_31 kX10_28 (Or.inl rfl) (by decide) (by decide) rfl (Or.inl rfl) rfl h1 (zok_int _) ?_
  refine z_st hG ?_
  exact z_vret dX10_init_34 rfl h
def wp_X10_take_0 (E : ZE) (l : Launch) (d b : Nat) (G0 : ZG) (Q : ZQ) (k : Nat) (q0 : Nat) (x1 : Int32) (x2 : Int32) (G : ZG) : Prop :=
  ((¬ x1 = 0 →
    ((¬ x1 = 1 →
      zW E l mX10_take d b G0 Q k 29 [some (.ref q0), some (.int x1), some (.int x2)] [] G) ∧
    (¬ (¬ x1 = 1) →
      zob G q0 11 ∧
      zob G q0 11 ∧
      ∀ G1, G1 = zsi G q0 1 ((ziv G q0 1) + x2) →
      zW E l mX10_take d b G0 Q k 29 [some (.ref q0), some (.int x1), some (.int x2)] [] G1))) ∧
  (¬ (¬ x1 = 0) →
    zob G q0 11 ∧
    zob G q0 11 ∧
    ∀ G2, G2 = zsi G q0 0 ((ziv G q0 0) ||| x2) →
    ((¬ x1 = 1 →
      zW E l mX10_take d b G0 Q k 29 [some (.ref q0), some (.int x1), some (.int x2)] [] G2) ∧
    (¬ (¬ x1 = 1) →
      zob G2 q0 11 ∧
      zob G2 q0 11 ∧
      ∀ G3, G3 = zsi G2 q0 1 ((ziv G2 q0 1) + x2) →
      zW E l mX10_take d b G0 Q k 29 [some (.ref q0), some (.int x1), some (.int x2)] [] G3))))
theorem wpt_X10_take_0 {E : ZE} {l : Launch} {d b : Nat} {G0 : ZG} {Q : ZQ} {k : Nat} {q0 : Nat} {x1 : Int32} {x2 : Int32} {G : ZG} (h : wp_X10_take_0 E l d b G0 Q k q0 x1 x2 G) : zW E l mX10_take d b G0 Q k 0 [some (.ref q0), some (.int x1), some (.int x2)] [] G := by
  unfold wp_X10_take_0 at h
  refine z_iload_n (pc' := 1) dX10_take_0 rfl rfl ?_
  refine z_if_ne (pt := 14) (pc' := 4) dX10_take_1 (by decide) rfl (fun hc => ?_) (fun hc => ?_)
  · have h := h.1 hc
    refine z_iload_n (pc' := 15) dX10_take_14 rfl rfl ?_
    refine z_iconst (x := 1) (pc' := 16) dX10_take_15 (by decide) rfl ?_
    refine z_icmp_ne (pt := 29) (pc' := 19) dX10_take_16 (by decide) rfl (fun hc => ?_) (fun hc => ?_)
    · have h := h.1 hc
      exact z_dr (ls' := [some (.ref q0), some (.int x1), some (.int x2)]) ⟨rfl, rfl, rfl, trivial⟩ h
    · have h := h.2 hc
      refine z_aload_n (pc' := 20) dX10_take_19 rfl rfl ?_
      refine z_dup (pc' := 21) dX10_take_20 rfl rfl ?_
      obtain ⟨h1, h⟩ := h
      refine z_getI (ci := 11) (kf := 1) (pc' := 24) dX10_take_21 kX10_15 (Or.inl rfl) (by decide) (by decide) rfl rfl h1 ?_
      refine z_iload_n (pc' := 25) dX10_take_24 rfl rfl ?_
      refine z_iadd (pc' := 26) dX10_take_25 rfl rfl ?_
      obtain ⟨h1, h⟩ := h
      obtain ⟨G1, hG⟩ : ∃ z, z = zsi G q0 1 ((ziv G q0 1) + x2) := ⟨_, rfl⟩
      have h := h _ hG
      refine z_putI (ci := 11) (kf := 1) (pc' := 29) dX10_take_26 kX10_15 (Or.inl rfl) (by decide) (by decide) rfl (Or.inl rfl) rfl h1 (zok_int _) ?_
      refine z_st hG ?_
      exact z_dr (ls' := [some (.ref q0), some (.int x1), some (.int x2)]) ⟨rfl, rfl, rfl, trivial⟩ h
  · have h := h.2 hc
    refine z_aload_n (pc' := 5) dX10_take_4 rfl rfl ?_
    refine z_dup (pc' := 6) dX10_take_5 rfl rfl ?_
    obtain ⟨h1, h⟩ := h
    refine z_getI (ci := 11) (kf := 0) (pc' := 9) dX10_take_6 kX10_9 (Or.inl rfl) (by decide) (by decide) rfl rfl h1 ?_
    refine z_iload_n (pc' := 10) dX10_take_9 rfl rfl ?_
    refine z_ior (pc' := 11) dX10_take_10 rfl rfl ?_
    obtain ⟨h1, h⟩ := h
    obtain ⟨G2, hG⟩ : ∃ z, z = zsi G q0 0 ((ziv G q0 0) ||| x2) := ⟨_, rfl⟩
    have h := h _ hG
    refine z_putI (ci := 11) (kf := 0) (pc' := 14) dX10_take_11 kX10_9 (Or.inl rfl) (by decide) (by decide) rfl (Or.inl rfl) rfl h1 (zok_int _) ?_
    refine z_st hG ?_
    refine z_iload_n (pc' := 15) dX10_take_14 rfl rfl ?_
    refine z_iconst (x := 1) (pc' := 16) dX10_take_15 (by decide) rfl ?_
    refine z_icmp_ne (pt := 29) (pc' := 19) dX10_take_16 (by decide) rfl (fun hc => ?_) (fun hc => ?_)
    · have h := h.1 hc
      exact z_dr (ls' := [some (.ref q0), some (.int x1), some (.int x2)]) ⟨rfl, rfl, rfl, trivial⟩ h
    · have h := h.2 hc
      refine z_aload_n (pc' := 20) dX10_take_19 rfl rfl ?_
      refine z_dup (pc' := 21) dX10_take_20 rfl rfl ?_
      obtain ⟨h1, h⟩ := h
      refine z_getI (ci := 11) (kf := 1) (pc' := 24) dX10_take_21 kX10_15 (Or.inl rfl) (by decide) (by decide) rfl rfl h1 ?_
      refine z_iload_n (pc' := 25) dX10_take_24 rfl rfl ?_
      refine z_iadd (pc' := 26) dX10_take_25 rfl rfl ?_
      obtain ⟨h1, h⟩ := h
      obtain ⟨G3, hG⟩ : ∃ z, z = zsi G2 q0 1 ((ziv G2 q0 1) + x2) := ⟨_, rfl⟩
      have h := h _ hG
      refine z_putI (ci := 11) (kf := 1) (pc' := 29) dX10_take_26 kX10_15 (Or.inl rfl) (by decide) (by decide) rfl (Or.inl rfl) rfl h1 (zok_int _) ?_
      refine z_st hG ?_
      exact z_dr (ls' := [some (.ref q0), some (.int x1), some (.int x2)]) ⟨rfl, rfl, rfl, trivial⟩ h
def wp_X10_take_29 (E : ZE) (l : Launch) (d b : Nat) (G0 : ZG) (Q : ZQ) (k : Nat) (q0 : Nat) (x1 : Int32) (x2 : Int32) (G : ZG) : Prop :=
  ((¬ x1 = 2 →
    ((¬ x1 = 3 →
      zW E l mX10_take d b G0 Q k 72 [some (.ref q0), some (.int x1), some (.int x2)] [] G) ∧
    (¬ (¬ x1 = 3) →
      zob G q0 11 ∧
      xcI E l mJ9_max_7cf53 d [.int (ziv G q0 5), .int x2] G k (fun X G9 => Q (.inr X) G9) (fun y1 G2 k3 =>
      zob G2 q0 11 ∧
      ∀ G4, G4 = zsi G2 q0 5 y1 →
      zW E l mX10_take d b G0 Q k3 72 [some (.ref q0), some (.int x1), some (.int x2)] [] G4)))) ∧
  (¬ (¬ x1 = 2) →
    zob G q0 11 ∧
    (((ziv G q0 3) = (-1) →
      zob G q0 11 ∧
      ∀ G5, G5 = zsi G q0 3 x2 →
      ((¬ x1 = 3 →
        zW E l mX10_take d b G0 Q k 72 [some (.ref q0), some (.int x1), some (.int x2)] [] G5) ∧
      (¬ (¬ x1 = 3) →
        zob G5 q0 11 ∧
        xcI E l mJ9_max_7cf53 d [.int (ziv G5 q0 5), .int x2] G5 k (fun X G9 => Q (.inr X) G9) (fun y6 G7 k8 =>
        zob G7 q0 11 ∧
        ∀ G9, G9 = zsi G7 q0 5 y6 →
        zW E l mX10_take d b G0 Q k8 72 [some (.ref q0), some (.int x1), some (.int x2)] [] G9)))) ∧
    (¬ ((ziv G q0 3) = (-1)) →
      zob G q0 11 ∧
      (((ziv G q0 3) ≤ x2 →
        ((¬ x1 = 3 →
          zW E l mX10_take d b G0 Q k 72 [some (.ref q0), some (.int x1), some (.int x2)] [] G) ∧
        (¬ (¬ x1 = 3) →
          zob G q0 11 ∧
          xcI E l mJ9_max_7cf53 d [.int (ziv G q0 5), .int x2] G k (fun X G9 => Q (.inr X) G9) (fun y10 G11 k12 =>
          zob G11 q0 11 ∧
          ∀ G13, G13 = zsi G11 q0 5 y10 →
          zW E l mX10_take d b G0 Q k12 72 [some (.ref q0), some (.int x1), some (.int x2)] [] G13)))) ∧
      (¬ ((ziv G q0 3) ≤ x2) →
        zob G q0 11 ∧
        ∀ G14, G14 = zsi G q0 3 x2 →
        ((¬ x1 = 3 →
          zW E l mX10_take d b G0 Q k 72 [some (.ref q0), some (.int x1), some (.int x2)] [] G14) ∧
        (¬ (¬ x1 = 3) →
          zob G14 q0 11 ∧
          xcI E l mJ9_max_7cf53 d [.int (ziv G14 q0 5), .int x2] G14 k (fun X G9 => Q (.inr X) G9) (fun y15 G16 k17 =>
          zob G16 q0 11 ∧
          ∀ G18, G18 = zsi G16 q0 5 y15 →
          zW E l mX10_take d b G0 Q k17 72 [some (.ref q0), some (.int x1), some (.int x2)] [] G18)))))))))
theorem wpt_X10_take_29 {E : ZE} {l : Launch} {d b : Nat} {G0 : ZG} {Q : ZQ} {k : Nat} {q0 : Nat} {x1 : Int32} {x2 : Int32} {G : ZG} (h : wp_X10_take_29 E l d b G0 Q k q0 x1 x2 G) : zW E l mX10_take d b G0 Q k 29 [some (.ref q0), some (.int x1), some (.int x2)] [] G := by
  unfold wp_X10_take_29 at h
  refine z_iload_n (pc' := 30) dX10_take_29 rfl rfl ?_
  refine z_iconst (x := 2) (pc' := 31) dX10_take_30 (by decide) rfl ?_
  refine z_icmp_ne (pt := 55) (pc' := 34) dX10_take_31 (by decide) rfl (fun hc => ?_) (fun hc => ?_)
  · have h := h.1 hc
    refine z_iload_n (pc' := 56) dX10_take_55 rfl rfl ?_
    refine z_iconst (x := 3) (pc' := 57) dX10_take_56 (by decide) rfl ?_
    refine z_icmp_ne (pt := 72) (pc' := 60) dX10_take_57 (by decide) rfl (fun hc => ?_) (fun hc => ?_)
    · have h := h.1 hc
      exact z_dr (ls' := [some (.ref q0), some (.int x1), some (.int x2)]) ⟨rfl, rfl, rfl, trivial⟩ h
    · have h := h.2 hc
      refine z_aload_n (pc' := 61) dX10_take_60 rfl rfl ?_
      refine z_aload_n (pc' := 62) dX10_take_61 rfl rfl ?_
      obtain ⟨h1, h⟩ := h
      refine z_getI (ci := 11) (kf := 5) (pc' := 65) dX10_take_62 kX10_28 (Or.inl rfl) (by decide) (by decide) rfl rfl h1 ?_
      refine z_iload_n (pc' := 66) dX10_take_65 rfl rfl ?_
      obtain ⟨d1, b1, Qz, hm, hdd, hb, hkx, hk⟩ := h
      refine z_callS (Y := mJ9_max_7cf53) (n := 2) (as := [.int (ziv G q0 5), .int x2]) (st := [.ref q0]) (pc' := 69) hm dX10_take_66 kX10_31 sJ9_max_7cf53 rfl rfl hdd hb (Nat.le_of_ble_eq_true rfl) (fun r G2 hz => ?_) hkx
      obtain ⟨y1, rfl, h⟩ := hk r G2 hz
      obtain ⟨h1, h⟩ := h
      obtain ⟨G4, hG⟩ : ∃ z, z = zsi G2 q0 5 y1 := ⟨_, rfl⟩
      have h := h _ hG
      refine z_putI (ci := 11) (kf := 5) (pc' := 72) dX10_take_69 kX10_28 (Or.inl rfl) (by decide) (by decide) rfl (Or.inl rfl) rfl h1 (zok_int _) ?_
      refine z_st hG ?_
      exact z_dr (ls' := [some (.ref q0), some (.int x1), some (.int x2)]) ⟨rfl, rfl, rfl, trivial⟩ h
  · have h := h.2 hc
    refine z_aload_n (pc' := 35) dX10_take_34 rfl rfl ?_
    obtain ⟨h1, h⟩ := h
    refine z_getI (ci := 11) (kf := 3) (pc' := 38) dX10_take_35 kX10_21 (Or.inl rfl) (by decide) (by decide) rfl rfl h1 ?_
    refine z_iconst (x := (-1)) (pc' := 39) dX10_take_38 (by decide) rfl ?_
    refine z_icmp_eq (pt := 50) (pc' := 42) dX10_take_39 (by decide) rfl (fun hc => ?_) (fun hc => ?_)
    · have h := h.1 hc
      refine z_aload_n (pc' := 51) dX10_take_50 rfl rfl ?_
      refine z_iload_n (pc' := 52) dX10_take_51 rfl rfl ?_
      obtain ⟨h1, h⟩ := h
      obtain ⟨G5, hG⟩ : ∃ z, z = zsi G q0 3 x2 := ⟨_, rfl⟩
      have h := h _ hG
      refine z_putI (ci := 11) (kf := 3) (pc' := 55) dX10_take_52 kX10_21 (Or.inl rfl) (by decide) (by decide) rfl (Or.inl rfl) rfl h1 (zok_int _) ?_
      refine z_st hG ?_
      refine z_iload_n (pc' := 56) dX10_take_55 rfl rfl ?_
      refine z_iconst (x := 3) (pc' := 57) dX10_take_56 (by decide) rfl ?_
      refine z_icmp_ne (pt := 72) (pc' := 60) dX10_take_57 (by decide) rfl (fun hc => ?_) (fun hc => ?_)
      · have h := h.1 hc
        exact z_dr (ls' := [some (.ref q0), some (.int x1), some (.int x2)]) ⟨rfl, rfl, rfl, trivial⟩ h
      · have h := h.2 hc
        refine z_aload_n (pc' := 61) dX10_take_60 rfl rfl ?_
        refine z_aload_n (pc' := 62) dX10_take_61 rfl rfl ?_
        obtain ⟨h1, h⟩ := h
        refine z_getI (ci := 11) (kf := 5) (pc' := 65) dX10_take_62 kX10_28 (Or.inl rfl) (by decide) (by decide) rfl rfl h1 ?_
        refine z_iload_n (pc' := 66) dX10_take_65 rfl rfl ?_
        obtain ⟨d1, b1, Qz, hm, hdd, hb, hkx, hk⟩ := h
        refine z_callS (Y := mJ9_max_7cf53) (n := 2) (as := [.int (ziv G5 q0 5), .int x2]) (st := [.ref q0]) (pc' := 69) hm dX10_take_66 kX10_31 sJ9_max_7cf53 rfl rfl hdd hb (Nat.le_of_ble_eq_true rfl) (fun r G7 hz => ?_) hkx
        obtain ⟨y6, rfl, h⟩ := hk r G7 hz
        obtain ⟨h1, h⟩ := h
        obtain ⟨G9, hG⟩ : ∃ z, z = zsi G7 q0 5 y6 := ⟨_, rfl⟩
        have h := h _ hG
        refine z_putI (ci := 11) (kf := 5) (pc' := 72) dX10_take_69 kX10_28 (Or.inl rfl) (by decide) (by decide) rfl (Or.inl rfl) rfl h1 (zok_int _) ?_
        refine z_st hG ?_
        exact z_dr (ls' := [some (.ref q0), some (.int x1), some (.int x2)]) ⟨rfl, rfl, rfl, trivial⟩ h
    · have h := h.2 hc
      refine z_iload_n (pc' := 43) dX10_take_42 rfl rfl ?_
      refine z_aload_n (pc' := 44) dX10_take_43 rfl rfl ?_
      obtain ⟨h1, h⟩ := h
      refine z_getI (ci := 11) (kf := 3) (pc' := 47) dX10_take_44 kX10_21 (Or.inl rfl) (by decide) (by decide) rfl rfl h1 ?_
      refine z_icmp_ge (pt := 55) (pc' := 50) dX10_take_47 (by decide) rfl (fun hc => ?_) (fun hc => ?_)
      · have h := h.1 hc
        refine z_iload_n (pc' := 56) dX10_take_55 rfl rfl ?_
        refine z_iconst (x := 3) (pc' := 57) dX10_take_56 (by decide) rfl ?_
        refine z_icmp_ne (pt := 72) (pc' := 60) dX10_take_57 (by decide) rfl (fun hc => ?_) (fun hc => ?_)
        · have h := h.1 hc
          exact z_dr (ls' := [some (.ref q0), some (.int x1), some (.int x2)]) ⟨rfl, rfl, rfl, trivial⟩ h
        · have h := h.2 hc
          refine z_aload_n (pc' := 61) dX10_take_60 rfl rfl ?_
          refine z_aload_n (pc' := 62) dX10_take_61 rfl rfl ?_
          obtain ⟨h1, h⟩ := h
          refine z_getI (ci := 11) (kf := 5) (pc' := 65) dX10_take_62 kX10_28 (Or.inl rfl) (by decide) (by decide) rfl rfl h1 ?_
          refine z_iload_n (pc' := 66) dX10_take_65 rfl rfl ?_
          obtain ⟨d1, b1, Qz, hm, hdd, hb, hkx, hk⟩ := h
          refine z_callS (Y := mJ9_max_7cf53) (n := 2) (as := [.int (ziv G q0 5), .int x2]) (st := [.ref q0]) (pc' := 69) hm dX10_take_66 kX10_31 sJ9_max_7cf53 rfl rfl hdd hb (Nat.le_of_ble_eq_true rfl) (fun r G11 hz => ?_) hkx
          obtain ⟨y10, rfl, h⟩ := hk r G11 hz
          obtain ⟨h1, h⟩ := h
          obtain ⟨G13, hG⟩ : ∃ z, z = zsi G11 q0 5 y10 := ⟨_, rfl⟩
          have h := h _ hG
          refine z_putI (ci := 11) (kf := 5) (pc' := 72) dX10_take_69 kX10_28 (Or.inl rfl) (by decide) (by decide) rfl (Or.inl rfl) rfl h1 (zok_int _) ?_
          refine z_st hG ?_
          exact z_dr (ls' := [some (.ref q0), some (.int x1), some (.int x2)]) ⟨rfl, rfl, rfl, trivial⟩ h
      · have h := h.2 hc
        refine z_aload_n (pc' := 51) dX10_take_50 rfl rfl ?_
        refine z_iload_n (pc' := 52) dX10_take_51 rfl rfl ?_
        obtain ⟨h1, h⟩ := h
        obtain ⟨G14, hG⟩ : ∃ z, z = zsi G q0 3 x2 := ⟨_, rfl⟩
        have h := h _ hG
        refine z_putI (ci := 11) (kf := 3) (pc' := 55) dX10_take_52 kX10_21 (Or.inl rfl) (by decide) (by decide) rfl (Or.inl rfl) rfl h1 (zok_int _) ?_
        refine z_st hG ?_
        refine z_iload_n (pc' := 56) dX10_take_55 rfl rfl ?_
        refine z_iconst (x := 3) (pc' := 57) dX10_take_56 (by decide) rfl ?_
        refine z_icmp_ne (pt := 72) (pc' := 60) dX10_take_57 (by decide) rfl (fun hc => ?_) (fun hc => ?_)
        · have h := h.1 hc
          exact z_dr (ls' := [some (.ref q0), some (.int x1), some (.int x2)]) ⟨rfl, rfl, rfl, trivial⟩ h
        · have h := h.2 hc
          refine z_aload_n (pc' := 61) dX10_take_60 rfl rfl ?_
          refine z_aload_n (pc' := 62) dX10_take_61 rfl rfl ?_
          obtain ⟨h1, h⟩ := h
          refine z_getI (ci := 11) (kf := 5) (pc' := 65) dX10_take_62 kX10_28 (Or.inl rfl) (by decide) (by decide) rfl rfl h1 ?_
          refine z_iload_n (pc' := 66) dX10_take_65 rfl rfl ?_
          obtain ⟨d1, b1, Qz, hm, hdd, hb, hkx, hk⟩ := h
          refine z_callS (Y := mJ9_max_7cf53) (n := 2) (as := [.int (ziv G14 q0 5), .int x2]) (st := [.ref q0]) (pc' := 69) hm dX10_take_66 kX10_31 sJ9_max_7cf53 rfl rfl hdd hb (Nat.le_of_ble_eq_true rfl) (fun r G16 hz => ?_) hkx
          obtain ⟨y15, rfl, h⟩ := hk r G16 hz
          obtain ⟨h1, h⟩ := h
          obtain ⟨G18, hG⟩ : ∃ z, z = zsi G16 q0 5 y15 := ⟨_, rfl⟩
          have h := h _ hG
          refine z_putI (ci := 11) (kf := 5) (pc' := 72) dX10_take_69 kX10_28 (Or.inl rfl) (by decide) (by decide) rfl (Or.inl rfl) rfl h1 (zok_int _) ?_
          refine z_st hG ?_
          exact z_dr (ls' := [some (.ref q0), some (.int x1), some (.int x2)]) ⟨rfl, rfl, rfl, trivial⟩ h
def wp_X10_take_72 (E : ZE) (l : Launch) (d b : Nat) (G0 : ZG) (Q : ZQ) (k : Nat) (q0 : Nat) (x1 : Int32) (x2 : Int32) (G : ZG) : Prop :=
  ((¬ x1 = 4 →
    ((¬ x1 = 5 →
      Q (.inl none) G) ∧
    (¬ (¬ x1 = 5) →
      zob G q0 11 ∧
      ∀ G1, G1 = zsi G q0 4 1 →
      Q (.inl none) G1))) ∧
  (¬ (¬ x1 = 4) →
    zob G q0 11 ∧
    zob G q0 11 ∧
    ∀ G2, G2 = zsi G q0 2 ((ziv G q0 2) + x2) →
    ((¬ x1 = 5 →
      Q (.inl none) G2) ∧
    (¬ (¬ x1 = 5) →
      zob G2 q0 11 ∧
      ∀ G3, G3 = zsi G2 q0 4 1 →
      Q (.inl none) G3))))
theorem wpt_X10_take_72 {E : ZE} {l : Launch} {d b : Nat} {G0 : ZG} {Q : ZQ} {k : Nat} {q0 : Nat} {x1 : Int32} {x2 : Int32} {G : ZG} (h : wp_X10_take_72 E l d b G0 Q k q0 x1 x2 G) : zW E l mX10_take d b G0 Q k 72 [some (.ref q0), some (.int x1), some (.int x2)] [] G := by
  unfold wp_X10_take_72 at h
  refine z_iload_n (pc' := 73) dX10_take_72 rfl rfl ?_
  refine z_iconst (x := 4) (pc' := 74) dX10_take_73 (by decide) rfl ?_
  refine z_icmp_ne (pt := 87) (pc' := 77) dX10_take_74 (by decide) rfl (fun hc => ?_) (fun hc => ?_)
  · have h := h.1 hc
    refine z_iload_n (pc' := 88) dX10_take_87 rfl rfl ?_
    refine z_iconst (x := 5) (pc' := 89) dX10_take_88 (by decide) rfl ?_
    refine z_icmp_ne (pt := 97) (pc' := 92) dX10_take_89 (by decide) rfl (fun hc => ?_) (fun hc => ?_)
    · have h := h.1 hc
      exact z_vret dX10_take_97 rfl h
    · have h := h.2 hc
      refine z_aload_n (pc' := 93) dX10_take_92 rfl rfl ?_
      refine z_iconst (x := 1) (pc' := 94) dX10_take_93 (by decide) rfl ?_
      obtain ⟨h1, h⟩ := h
      obtain ⟨G1, hG⟩ : ∃ z, z = zsi G q0 4 1 := ⟨_, rfl⟩
      have h := h _ hG
      refine z_putI (ci := 11) (kf := 4) (pc' := 97) dX10_take_94 kX10_24 (Or.inl rfl) (by decide) (by decide) rfl (Or.inl rfl) rfl h1 zok_1 ?_
      refine z_st hG ?_
      exact z_vret dX10_take_97 rfl h
  · have h := h.2 hc
    refine z_aload_n (pc' := 78) dX10_take_77 rfl rfl ?_
    refine z_dup (pc' := 79) dX10_take_78 rfl rfl ?_
    obtain ⟨h1, h⟩ := h
    refine z_getI (ci := 11) (kf := 2) (pc' := 82) dX10_take_79 kX10_18 (Or.inl rfl) (by decide) (by decide) rfl rfl h1 ?_
    refine z_iload_n (pc' := 83) dX10_take_82 rfl rfl ?_
    refine z_iadd (pc' := 84) dX10_take_83 rfl rfl ?_
    obtain ⟨h1, h⟩ := h
    obtain ⟨G2, hG⟩ : ∃ z, z = zsi G q0 2 ((ziv G q0 2) + x2) := ⟨_, rfl⟩
    have h := h _ hG
    refine z_putI (ci := 11) (kf := 2) (pc' := 87) dX10_take_84 kX10_18 (Or.inl rfl) (by decide) (by decide) rfl (Or.inl rfl) rfl h1 (zok_int _) ?_
    refine z_st hG ?_
    refine z_iload_n (pc' := 88) dX10_take_87 rfl rfl ?_
    refine z_iconst (x := 5) (pc' := 89) dX10_take_88 (by decide) rfl ?_
    refine z_icmp_ne (pt := 97) (pc' := 92) dX10_take_89 (by decide) rfl (fun hc => ?_) (fun hc => ?_)
    · have h := h.1 hc
      exact z_vret dX10_take_97 rfl h
    · have h := h.2 hc
      refine z_aload_n (pc' := 93) dX10_take_92 rfl rfl ?_
      refine z_iconst (x := 1) (pc' := 94) dX10_take_93 (by decide) rfl ?_
      obtain ⟨h1, h⟩ := h
      obtain ⟨G3, hG⟩ : ∃ z, z = zsi G2 q0 4 1 := ⟨_, rfl⟩
      have h := h _ hG
      refine z_putI (ci := 11) (kf := 4) (pc' := 97) dX10_take_94 kX10_24 (Or.inl rfl) (by decide) (by decide) rfl (Or.inl rfl) rfl h1 zok_1 ?_
      refine z_st hG ?_
      exact z_vret dX10_take_97 rfl h
def wp_X10_validYears_0 (E : ZE) (l : Launch) (d b : Nat) (G0 : ZG) (Q : ZQ) (k : Nat) (q0 : Nat) (G : ZG) : Prop :=
  zob G q0 11 ∧
  ((¬ (ziv G q0 5) = (-1) →
    zob G q0 11 ∧
    Q (.inl (some (.int (ziv G q0 5)))) G) ∧
  (¬ (¬ (ziv G q0 5) = (-1)) →
    Q (.inl (some (.int 10))) G))
theorem wpt_X10_validYears_0 {E : ZE} {l : Launch} {d b : Nat} {G0 : ZG} {Q : ZQ} {k : Nat} {q0 : Nat} {G : ZG} (h : wp_X10_validYears_0 E l d b G0 Q k q0 G) : zW E l mX10_validYears d b G0 Q k 0 [some (.ref q0)] [] G := by
  unfold wp_X10_validYears_0 at h
  refine z_aload_n (pc' := 1) dX10_validYears_0 rfl rfl ?_
  obtain ⟨h1, h⟩ := h
  refine z_getI (ci := 11) (kf := 5) (pc' := 4) dX10_validYears_1 kX10_28 (Or.inl rfl) (by decide) (by decide) rfl rfl h1 ?_
  refine z_iconst (x := (-1)) (pc' := 5) dX10_validYears_4 (by decide) rfl ?_
  refine z_icmp_ne (pt := 13) (pc' := 8) dX10_validYears_5 (by decide) rfl (fun hc => ?_) (fun hc => ?_)
  · have h := h.1 hc
    refine z_aload_n (pc' := 14) dX10_validYears_13 rfl rfl ?_
    obtain ⟨h1, h⟩ := h
    refine z_getI (ci := 11) (kf := 5) (pc' := 17) dX10_validYears_14 kX10_28 (Or.inl rfl) (by decide) (by decide) rfl rfl h1 ?_
    exact z_iret dX10_validYears_17 rfl h
  · have h := h.2 hc
    refine z_bipush (x := 10) (pc' := 10) dX10_validYears_8 (by decide) rfl ?_
    refine z_goto (pc' := 17) dX10_validYears_10 (by decide) ?_
    exact z_iret dX10_validYears_17 rfl h
def wp_X11_again_0 (E : ZE) (l : Launch) (d b : Nat) (G0 : ZG) (Q : ZQ) (k : Nat) (q0 : Nat) (x1 : Int32) (G : ZG) : Prop :=
  zob G q0 12 ∧
  xcR E l mX11_askingAt d [.ref q0, .int x1] G k (fun X G9 => Q (.inr X) G9) (fun y1 G2 k3 =>
  zob G2 y1 1 ∧
  ((¬ (ziv G2 y1 7) = 8 →
    xcV E l mX11_allow d [.int 0] G2 k3 (fun X G9 => Q (.inr X) G9) (fun G4 k5 =>
    zob G4 y1 1 ∧
    ∀ G6, G6 = zsi G4 y1 7 5 →
    zob G6 y1 1 ∧
    ∀ G7, G7 = zsi G6 y1 13 (-1) →
    Q (.inl none) G7)) ∧
  (¬ (¬ (ziv G2 y1 7) = 8) →
    xcV E l mX11_allow d [.int 1] G2 k3 (fun X G9 => Q (.inr X) G9) (fun G8 k9 =>
    zob G8 y1 1 ∧
    ∀ G10, G10 = zsi G8 y1 7 5 →
    zob G10 y1 1 ∧
    ∀ G11, G11 = zsi G10 y1 13 (-1) →
    Q (.inl none) G11))))
theorem wpt_X11_again_0 {E : ZE} {l : Launch} {d b : Nat} {G0 : ZG} {Q : ZQ} {k : Nat} {q0 : Nat} {x1 : Int32} {G : ZG} (h : wp_X11_again_0 E l d b G0 Q k q0 x1 G) : zW E l mX11_again d b G0 Q k 0 [some (.ref q0), some (.int x1), none] [] G := by
  unfold wp_X11_again_0 at h
  refine z_aload_n (pc' := 1) dX11_again_0 rfl rfl ?_
  refine z_iload_n (pc' := 2) dX11_again_1 rfl rfl ?_
  obtain ⟨h1, h⟩ := h
  obtain ⟨d1, b1, Qz, hm, hdd, hb, hkx, hk⟩ := h
  refine z_callV (Y := mX11_askingAt) (n := 1) (as := [.int x1]) (st := []) (pc' := 5) (ci := 12) (q := q0) hm dX11_again_2 kX11_236 vX11_askingAt rfl rfl (by decide) rfl h1 hdd hb (Nat.le_of_ble_eq_true rfl) (fun r G2 hz => ?_) hkx
  obtain ⟨y1, rfl, h⟩ := hk r G2 hz
  refine z_astore_n (pc' := 6) dX11_again_5 (by decide) rfl ?_
  refine z_aload_n (pc' := 7) dX11_again_6 rfl rfl ?_
  obtain ⟨h1, h⟩ := h
  refine z_getI (ci := 1) (kf := 7) (pc' := 10) dX11_again_7 kX11_240 (Or.inl rfl) (by decide) (by decide) rfl rfl h1 ?_
  refine z_bipush (x := 8) (pc' := 12) dX11_again_10 (by decide) rfl ?_
  refine z_icmp_ne (pt := 19) (pc' := 15) dX11_again_12 (by decide) rfl (fun hc => ?_) (fun hc => ?_)
  · have h := h.1 hc
    refine z_iconst (x := 0) (pc' := 20) dX11_again_19 (by decide) rfl ?_
    obtain ⟨d1, b1, Qz, hm, hdd, hb, hkx, hk⟩ := h
    refine z_callS (Y := mX11_allow) (n := 1) (as := [.int 0]) (st := []) (pc' := 23) hm dX11_again_20 kX11_243 sX11_allow rfl rfl hdd hb (Nat.le_of_ble_eq_true rfl) (fun r G4 hz => ?_) hkx
    obtain ⟨rfl, h⟩ := hk r G4 hz
    refine z_aload_n (pc' := 24) dX11_again_23 rfl rfl ?_
    refine z_iconst (x := 5) (pc' := 25) dX11_again_24 (by decide) rfl ?_
    obtain ⟨h1, h⟩ := h
    obtain ⟨G6, hG⟩ : ∃ z, z = zsi G4 y1 7 5 := ⟨_, rfl⟩
    have h := h _ hG
    refine z_putI (ci := 1) (kf := 7) (pc' := 28) dX11_again_25 kX11_240 (Or.inl rfl) (by decide) (by decide) rfl (Or.inl rfl) rfl h1 (zok_int _) ?_
    refine z_st hG ?_
    refine z_aload_n (pc' := 29) dX11_again_28 rfl rfl ?_
    refine z_iconst (x := (-1)) (pc' := 30) dX11_again_29 (by decide) rfl ?_
    obtain ⟨h1, h⟩ := h
    obtain ⟨G7, hG⟩ : ∃ z, z = zsi G6 y1 13 (-1) := ⟨_, rfl⟩
    have h := h _ hG
    refine z_putI (ci := 1) (kf := 13) (pc' := 33) dX11_again_30 kX11_259 (Or.inl rfl) (by decide) (by decide) rfl (Or.inl rfl) rfl h1 (zok_int _) ?_
    refine z_st hG ?_
    exact z_vret dX11_again_33 rfl h
  · have h := h.2 hc
    refine z_iconst (x := 1) (pc' := 16) dX11_again_15 (by decide) rfl ?_
    refine z_goto (pc' := 20) dX11_again_16 (by decide) ?_
    obtain ⟨d1, b1, Qz, hm, hdd, hb, hkx, hk⟩ := h
    refine z_callS (Y := mX11_allow) (n := 1) (as := [.int 1]) (st := []) (pc' := 23) hm dX11_again_20 kX11_243 sX11_allow rfl rfl hdd hb (Nat.le_of_ble_eq_true rfl) (fun r G8 hz => ?_) hkx
    obtain ⟨rfl, h⟩ := hk r G8 hz
    refine z_aload_n (pc' := 24) dX11_again_23 rfl rfl ?_
    refine z_iconst (x := 5) (pc' := 25) dX11_again_24 (by decide) rfl ?_
    obtain ⟨h1, h⟩ := h
    obtain ⟨G10, hG⟩ : ∃ z, z = zsi G8 y1 7 5 := ⟨_, rfl⟩
    have h := h _ hG
    refine z_putI (ci := 1) (kf := 7) (pc' := 28) dX11_again_25 kX11_240 (Or.inl rfl) (by decide) (by decide) rfl (Or.inl rfl) rfl h1 (zok_int _) ?_
    refine z_st hG ?_
    refine z_aload_n (pc' := 29) dX11_again_28 rfl rfl ?_
    refine z_iconst (x := (-1)) (pc' := 30) dX11_again_29 (by decide) rfl ?_
    obtain ⟨h1, h⟩ := h
    obtain ⟨G11, hG⟩ : ∃ z, z = zsi G10 y1 13 (-1) := ⟨_, rfl⟩
    have h := h _ hG
    refine z_putI (ci := 1) (kf := 13) (pc' := 33) dX11_again_30 kX11_259 (Or.inl rfl) (by decide) (by decide) rfl (Or.inl rfl) rfl h1 (zok_int _) ?_
    refine z_st hG ?_
    exact z_vret dX11_again_33 rfl h
def wp_X11_ahead_0 (E : ZE) (l : Launch) (d b : Nat) (G0 : ZG) (Q : ZQ) (k : Nat) (q0 : Nat) (x1 : Int32) (G : ZG) : Prop :=
  zob G q0 12 ∧
  zob G q0 12 ∧
  xcR E l mX11_askingAt d [.ref q0, .int x1] G k (fun X G9 => Q (.inr X) G9) (fun y1 G2 k3 =>
  zob G2 (zrv G q0 8) 7 ∧
  xcI E l mX6_countAhead d [.ref (zrv G q0 8), .ref y1] G2 k3 (fun X G9 => Q (.inr X) G9) (fun y4 G5 k6 =>
  Q (.inl (some (.int y4))) G5))
theorem wpt_X11_ahead_0 {E : ZE} {l : Launch} {d b : Nat} {G0 : ZG} {Q : ZQ} {k : Nat} {q0 : Nat} {x1 : Int32} {G : ZG} (h : wp_X11_ahead_0 E l d b G0 Q k q0 x1 G) : zW E l mX11_ahead d b G0 Q k 0 [some (.ref q0), some (.int x1)] [] G := by
  unfold wp_X11_ahead_0 at h
  refine z_aload_n (pc' := 1) dX11_ahead_0 rfl rfl ?_
  obtain ⟨h1, h⟩ := h
  refine z_getR (ci := 12) (kf := 8) (pc' := 4) dX11_ahead_1 kX11_62 (Or.inl rfl) (by decide) (by decide) rfl rfl h1 ?_
  refine z_aload_n (pc' := 5) dX11_ahead_4 rfl rfl ?_
  refine z_iload_n (pc' := 6) dX11_ahead_5 rfl rfl ?_
  obtain ⟨h1, h⟩ := h
  obtain ⟨d1, b1, Qz, hm, hdd, hb, hkx, hk⟩ := h
  refine z_callV (Y := mX11_askingAt) (n := 1) (as := [.int x1]) (st := [.ref (zrv G q0 8)]) (pc' := 9) (ci := 12) (q := q0) hm dX11_ahead_6 kX11_236 vX11_askingAt rfl rfl (by decide) rfl h1 hdd hb (Nat.le_of_ble_eq_true rfl) (fun r G2 hz => ?_) hkx
  obtain ⟨y1, rfl, h⟩ := hk r G2 hz
  obtain ⟨h1, h⟩ := h
  obtain ⟨d1, b1, Qz, hm, hdd, hb, hkx, hk⟩ := h
  refine z_callV (Y := mX6_countAhead) (n := 1) (as := [.ref y1]) (st := []) (pc' := 12) (ci := 7) (q := (zrv G q0 8)) hm dX11_ahead_9 kX11_349 vX6_countAhead rfl rfl (by decide) rfl h1 hdd hb (Nat.le_of_ble_eq_true rfl) (fun r G5 hz => ?_) hkx
  obtain ⟨y4, rfl, h⟩ := hk r G5 hz
  exact z_iret dX11_ahead_12 rfl h
def wp_X11_allow_0 (E : ZE) (l : Launch) (d b : Nat) (G0 : ZG) (Q : ZQ) (k : Nat) (x0 : Int32) (G : ZG) : Prop :=
  ((¬ x0 = 0 →
    Q (.inl none) G) ∧
  (¬ (¬ x0 = 0) →
    7 ≤ k ∧ 6 ≤ d ∧ Q (.inr "java/lang/IllegalStateException") G))
theorem wpt_X11_allow_0 {E : ZE} {l : Launch} {d b : Nat} {G0 : ZG} {Q : ZQ} {k : Nat} {x0 : Int32} {G : ZG} (htr : l.stackTraces = false) (h : wp_X11_allow_0 E l d b G0 Q k x0 G) : zW E l mX11_allow d b G0 Q k 0 [some (.int x0)] [] G := by
  unfold wp_X11_allow_0 at h
  refine z_iload_n (pc' := 1) dX11_allow_0 rfl rfl ?_
  refine z_if_ne (pt := 12) (pc' := 4) dX11_allow_1 (by decide) rfl (fun hc => ?_) (fun hc => ?_)
  · have h := h.1 hc
    exact z_vret dX11_allow_12 rfl h
  · have h := h.2 hc
    exact z_throw (names := ["java/lang/RuntimeException", "java/lang/Exception"]) htr dX11_allow_4 dX11_allow_7 dX11_allow_8 dX11_allow_11 rfl (by decide) kX11_424 x_IllegalStateException h.2.1 (by decide) (Nat.le_of_ble_eq_true rfl) h.1 tX11_426 h.2.2
def wp_X11_ask_0 (E : ZE) (l : Launch) (d b : Nat) (G0 : ZG) (Q : ZQ) (k : Nat) (q0 : Nat) (x1 : Int32) (x2 : Int32) (x3 : Int32) (x4 : Int32) (x5 : Int32) (G : ZG) : Prop :=
  zob G q0 12 ∧
  xcR E l mX11_personAt d [.ref q0, .int x1] G k (fun X G9 => Q (.inr X) G9) (fun y1 G2 k3 =>
  xcI E l mX11_isKind d [.int x2] G2 k3 (fun X G9 => Q (.inr X) G9) (fun y4 G5 k6 =>
  ((y4 = 0 →
    zW E l mX11_ask d b G0 Q k6 35 [some (.ref q0), none, some (.int x2), some (.int x3), some (.int x4), some (.int x5), some (.ref y1), none, none] [.int 0] G5) ∧
  (¬ (y4 = 0) →
    zob G5 q0 12 ∧
    xcI E l mX11_isWanted d [.ref q0, .int x3] G5 k6 (fun X G9 => Q (.inr X) G9) (fun y7 G8 k9 =>
    ((y7 = 0 →
      zW E l mX11_ask d b G0 Q k9 35 [some (.ref q0), none, some (.int x2), some (.int x3), some (.int x4), some (.int x5), some (.ref y1), none, none] [.int 0] G8) ∧
    (¬ (y7 = 0) →
      xcI E l mX11_isItems d [.int x4] G8 k9 (fun X G9 => Q (.inr X) G9) (fun y10 G11 k12 =>
      ((y10 = 0 →
        zW E l mX11_ask d b G0 Q k12 35 [some (.ref q0), none, some (.int x2), some (.int x3), some (.int x4), some (.int x5), some (.ref y1), none, none] [.int 0] G11) ∧
      (¬ (y10 = 0) →
        zW E l mX11_ask d b G0 Q k12 35 [some (.ref q0), none, some (.int x2), some (.int x3), some (.int x4), some (.int x5), some (.ref y1), none, none] [.int 1] G11))))))))))
theorem wpt_X11_ask_0 {E : ZE} {l : Launch} {d b : Nat} {G0 : ZG} {Q : ZQ} {k : Nat} {q0 : Nat} {x1 : Int32} {x2 : Int32} {x3 : Int32} {x4 : Int32} {x5 : Int32} {G : ZG} (htr : l.stackTraces = false) (h : wp_X11_ask_0 E l d b G0 Q k q0 x1 x2 x3 x4 x5 G) : zW E l mX11_ask d b G0 Q k 0 [some (.ref q0), some (.int x1), some (.int x2), some (.int x3), some (.int x4), some (.int x5), none, none, none] [] G := by
  unfold wp_X11_ask_0 at h
  refine z_aload_n (pc' := 1) dX11_ask_0 rfl rfl ?_
  refine z_iload_n (pc' := 2) dX11_ask_1 rfl rfl ?_
  obtain ⟨h1, h⟩ := h
  obtain ⟨d1, b1, Qz, hm, hdd, hb, hkx, hk⟩ := h
  refine z_callV (Y := mX11_personAt) (n := 1) (as := [.int x1]) (st := []) (pc' := 5) (ci := 12) (q := q0) hm dX11_ask_2 kX11_134 vX11_personAt rfl rfl (by decide) rfl h1 hdd hb (Nat.le_of_ble_eq_true rfl) (fun r G2 hz => ?_) hkx
  obtain ⟨y1, rfl, h⟩ := hk r G2 hz
  refine z_astore (pc' := 7) dX11_ask_5 (by decide) rfl ?_
  refine z_iload_n (pc' := 8) dX11_ask_7 rfl rfl ?_
  obtain ⟨d1, b1, Qz, hm, hdd, hb, hkx, hk⟩ := h
  refine z_callS (Y := mX11_isKind) (n := 1) (as := [.int x2]) (st := []) (pc' := 11) hm dX11_ask_8 kX11_170 sX11_isKind rfl rfl hdd hb (Nat.le_of_ble_eq_true rfl) (fun r G5 hz => ?_) hkx
  obtain ⟨y4, rfl, h⟩ := hk r G5 hz
  refine z_if_eq (pt := 34) (pc' := 14) dX11_ask_11 (by decide) rfl (fun hc => ?_) (fun hc => ?_)
  · have h := h.1 hc
    refine z_iconst (x := 0) (pc' := 35) dX11_ask_34 (by decide) rfl ?_
    exact z_dr (ls' := [some (.ref q0), none, some (.int x2), some (.int x3), some (.int x4), some (.int x5), some (.ref y1), none, none]) ⟨rfl, rfl, rfl, rfl, rfl, rfl, trivial⟩ h
  · have h := h.2 hc
    refine z_aload_n (pc' := 15) dX11_ask_14 rfl rfl ?_
    refine z_iload_n (pc' := 16) dX11_ask_15 rfl rfl ?_
    obtain ⟨h1, h⟩ := h
    obtain ⟨d1, b1, Qz, hm, hdd, hb, hkx, hk⟩ := h
    refine z_callV (Y := mX11_isWanted) (n := 1) (as := [.int x3]) (st := []) (pc' := 19) (ci := 12) (q := q0) hm dX11_ask_16 kX11_173 vX11_isWanted rfl rfl (by decide) rfl h1 hdd hb (Nat.le_of_ble_eq_true rfl) (fun r G8 hz => ?_) hkx
    obtain ⟨y7, rfl, h⟩ := hk r G8 hz
    refine z_if_eq (pt := 34) (pc' := 22) dX11_ask_19 (by decide) rfl (fun hc => ?_) (fun hc => ?_)
    · have h := h.1 hc
      refine z_iconst (x := 0) (pc' := 35) dX11_ask_34 (by decide) rfl ?_
      exact z_dr (ls' := [some (.ref q0), none, some (.int x2), some (.int x3), some (.int x4), some (.int x5), some (.ref y1), none, none]) ⟨rfl, rfl, rfl, rfl, rfl, rfl, trivial⟩ h
    · have h := h.2 hc
      refine z_iload (pc' := 24) dX11_ask_22 rfl rfl ?_
      obtain ⟨d1, b1, Qz, hm, hdd, hb, hkx, hk⟩ := h
      refine z_callS (Y := mX11_isItems) (n := 1) (as := [.int x4]) (st := []) (pc' := 27) hm dX11_ask_24 kX11_220 sX11_isItems rfl rfl hdd hb (Nat.le_of_ble_eq_true rfl) (fun r G11 hz => ?_) hkx
      obtain ⟨y10, rfl, h⟩ := hk r G11 hz
      refine z_if_eq (pt := 34) (pc' := 30) dX11_ask_27 (by decide) rfl (fun hc => ?_) (fun hc => ?_)
      · have h := h.1 hc
        refine z_iconst (x := 0) (pc' := 35) dX11_ask_34 (by decide) rfl ?_
        exact z_dr (ls' := [some (.ref q0), none, some (.int x2), some (.int x3), some (.int x4), some (.int x5), some (.ref y1), none, none]) ⟨rfl, rfl, rfl, rfl, rfl, rfl, trivial⟩ h
      · have h := h.2 hc
        refine z_iconst (x := 1) (pc' := 31) dX11_ask_30 (by decide) rfl ?_
        refine z_goto (pc' := 35) dX11_ask_31 (by decide) ?_
        exact z_dr (ls' := [some (.ref q0), none, some (.int x2), some (.int x3), some (.int x4), some (.int x5), some (.ref y1), none, none]) ⟨rfl, rfl, rfl, rfl, rfl, rfl, trivial⟩ h
def wp_X11_ask_35 (E : ZE) (l : Launch) (d b : Nat) (G0 : ZG) (Q : ZQ) (k : Nat) (q0 : Nat) (x2 : Int32) (x3 : Int32) (x4 : Int32) (x5 : Int32) (q6 : Nat) (s0 : Int32) (G : ZG) : Prop :=
  xcV E l mX11_demand d [.int s0] G k (fun X G9 => Q (.inr X) G9) (fun G1 k2 =>
  zob G1 q0 12 ∧
  zob G1 (zrv G1 q0 8) 7 ∧
  zob G1 (zrv G1 (zrv G1 q0 8) 3) 0 ∧
  xcI E l mJx4a65c_size_8abf5 d [.ref (zrv G1 (zrv G1 q0 8) 3)] G1 k2 (fun X G9 => Q (.inr X) G9) (fun y3 G4 k5 =>
  ((y3 < 120 →
    zob G4 q0 12 ∧
    xcR E l mX11_lawOfToday d [.ref q0] G4 k5 (fun X G9 => Q (.inr X) G9) (fun y6 G7 k8 =>
    zob G7 q0 12 ∧
    xcR E l mX11_factsOf d [.ref q0, .ref q6, .int x2, .int x3, .int x5] G7 k8 (fun X G9 => Q (.inr X) G9) (fun y9 G10 k11 =>
    zob G10 y6 4 ∧
    xcR E l mX3_verdictOn d [.ref y6, .ref y9] G10 k11 (fun X G9 => Q (.inr X) G9) (fun y12 G13 k14 =>
    16 ≤ k14 ∧ ∃ t15, t15 ≠ 0 ∧ t15 < 448 ∧ t15 / 32 = 1 ∧
    ∀ q_16, q_16 = zp t15 (zcn G13 t15) → ∀ G17, G17 = znw G13 t15 0 → ∀ k18, k18 = k14 - 16 →
    zob G17 q0 12 ∧
    zob G17 (zrv G17 q0 8) 7 ∧
    zob G17 (zrv G17 (zrv G17 q0 8) 3) 0 ∧
    xcI E l mJx4a65c_size_8abf5 d [.ref (zrv G17 (zrv G17 q0 8) 3)] G17 k18 (fun X G9 => Q (.inr X) G9) (fun y19 G20 k21 =>
    zob G20 q0 12 ∧
    zob G20 (zrv G20 q0 8) 7 ∧
    zal G20 q_16 ∧
    xcV E l mX0_init d [.ref q_16, .int y19, .ref q6, .int x2, .int (ziv G20 (zrv G20 q0 8) 6), .int x3, .int x5, .ref y12] G20 k21 (fun X G9 => Q (.inr X) G9) (fun G22 k23 =>
    zob G22 q_16 1 ∧
    ∀ G24, G24 = zsi G22 q_16 8 x4 →
    zob G24 q0 12 ∧
    zob G24 (zrv G24 q0 8) 7 ∧
    zob G24 (zrv G24 (zrv G24 q0 8) 3) 0 ∧
    xcI E l mJx4a65c_add_9ea2d d [.ref (zrv G24 (zrv G24 q0 8) 3), .ref q_16] G24 k23 (fun X G9 => Q (.inr X) G9) (fun y25 G26 k27 =>
    zob G26 q0 12 ∧
    zob G26 (zrv G26 q0 8) 7 ∧
    zob G26 y12 11 ∧
    zob G26 (zrv G26 q0 8) 7 ∧
    ∀ G28, G28 = zsi G26 (zrv G26 q0 8) 9 ((ziv G26 (zrv G26 q0 8) 9) + (ziv G26 y12 1)) →
    zob G28 q_16 1 ∧
    Q (.inl (some (.int (ziv G28 q_16 0)))) G28))))))) ∧
  (¬ (y3 < 120) →
    7 ≤ k5 ∧ 6 ≤ d ∧ Q (.inr "java/lang/UnsupportedOperationException") G4))))
theorem wpt_X11_ask_35 {E : ZE} {l : Launch} {d b : Nat} {G0 : ZG} {Q : ZQ} {k : Nat} {q0 : Nat} {x2 : Int32} {x3 : Int32} {x4 : Int32} {x5 : Int32} {q6 : Nat} {s0 : Int32} {G : ZG} (htr : l.stackTraces = false) (h : wp_X11_ask_35 E l d b G0 Q k q0 x2 x3 x4 x5 q6 s0 G) : zW E l mX11_ask d b G0 Q k 35 [some (.ref q0), none, some (.int x2), some (.int x3), some (.int x4), some (.int x5), some (.ref q6), none, none] [.int s0] G := by
  unfold wp_X11_ask_35 at h
  obtain ⟨d1, b1, Qz, hm, hdd, hb, hkx, hk⟩ := h
  refine z_callS (Y := mX11_demand) (n := 1) (as := [.int s0]) (st := []) (pc' := 38) hm dX11_ask_35 kX11_86 sX11_demand rfl rfl hdd hb (Nat.le_of_ble_eq_true rfl) (fun r G1 hz => ?_) hkx
  obtain ⟨rfl, h⟩ := hk r G1 hz
  refine z_aload_n (pc' := 39) dX11_ask_38 rfl rfl ?_
  obtain ⟨h1, h⟩ := h
  refine z_getR (ci := 12) (kf := 8) (pc' := 42) dX11_ask_39 kX11_62 (Or.inl rfl) (by decide) (by decide) rfl rfl h1 ?_
  obtain ⟨h1, h⟩ := h
  refine z_getR (ci := 7) (kf := 3) (pc' := 45) dX11_ask_42 kX11_223 (Or.inl rfl) (by decide) (by decide) rfl rfl h1 ?_
  obtain ⟨h1, h⟩ := h
  obtain ⟨d1, b1, Qz, hm, hdd, hb, hkx, hk⟩ := h
  refine z_callV (Y := mJx4a65c_size_8abf5) (n := 0) (as := []) (st := []) (pc' := 48) (ci := 0) (q := (zrv G1 (zrv G1 q0 8) 3)) hm dX11_ask_45 kX11_97 vJx4a65c_size_8abf5 rfl rfl (by decide) rfl h1 hdd hb (Nat.le_of_ble_eq_true rfl) (fun r G4 hz => ?_) hkx
  obtain ⟨y3, rfl, h⟩ := hk r G4 hz
  refine z_bipush (x := 120) (pc' := 50) dX11_ask_48 (by decide) rfl ?_
  refine z_icmp_lt (pt := 61) (pc' := 53) dX11_ask_50 (by decide) rfl (fun hc => ?_) (fun hc => ?_)
  · have h := h.1 hc
    refine z_aload_n (pc' := 62) dX11_ask_61 rfl rfl ?_
    obtain ⟨h1, h⟩ := h
    obtain ⟨d1, b1, Qz, hm, hdd, hb, hkx, hk⟩ := h
    refine z_callV (Y := mX11_lawOfToday) (n := 0) (as := []) (st := []) (pc' := 65) (ci := 12) (q := q0) hm dX11_ask_62 kX11_176 vX11_lawOfToday rfl rfl (by decide) rfl h1 hdd hb (Nat.le_of_ble_eq_true rfl) (fun r G7 hz => ?_) hkx
    obtain ⟨y6, rfl, h⟩ := hk r G7 hz
    refine z_aload_n (pc' := 66) dX11_ask_65 rfl rfl ?_
    refine z_aload (pc' := 68) dX11_ask_66 rfl rfl ?_
    refine z_iload_n (pc' := 69) dX11_ask_68 rfl rfl ?_
    refine z_iload_n (pc' := 70) dX11_ask_69 rfl rfl ?_
    refine z_iload (pc' := 72) dX11_ask_70 rfl rfl ?_
    obtain ⟨h1, h⟩ := h
    obtain ⟨d1, b1, Qz, hm, hdd, hb, hkx, hk⟩ := h
    refine z_callV (Y := mX11_factsOf) (n := 4) (as := [.ref q6, .int x2, .int x3, .int x5]) (st := [.ref y6]) (pc' := 75) (ci := 12) (q := q0) hm dX11_ask_72 kX11_180 vX11_factsOf rfl rfl (by decide) rfl h1 hdd hb (Nat.le_of_ble_eq_true rfl) (fun r G10 hz => ?_) hkx
    obtain ⟨y9, rfl, h⟩ := hk r G10 hz
    obtain ⟨h1, h⟩ := h
    obtain ⟨d1, b1, Qz, hm, hdd, hb, hkx, hk⟩ := h
    refine z_callV (Y := mX3_verdictOn) (n := 1) (as := [.ref y9]) (st := []) (pc' := 78) (ci := 4) (q := y6) hm dX11_ask_75 kX11_90 vX3_verdictOn rfl rfl (by decide) rfl h1 hdd hb (Nat.le_of_ble_eq_true rfl) (fun r G13 hz => ?_) hkx
    obtain ⟨y12, rfl, h⟩ := hk r G13 hz
    refine z_astore (pc' := 80) dX11_ask_78 (by decide) rfl ?_
    obtain ⟨h1, t15, h2, h3, h4, h⟩ := h
    obtain ⟨q_16, hq⟩ : ∃ z, z = zp t15 (zcn G13 t15) := ⟨_, rfl⟩
    obtain ⟨G17, hG⟩ : ∃ z, z = znw G13 t15 0 := ⟨_, rfl⟩
    have h := h _ hq _ hG _ rfl
    refine z_new (ci := 1) (t := t15) (pc' := 83) dX11_ask_80 kX11_218 n1_inst n1_ini (by decide) rfl h2 h3 h4 h1 (z_df (by decide)) ?_
    refine z_mk hq hG ?_
    refine z_dup (pc' := 84) dX11_ask_83 rfl rfl ?_
    refine z_aload_n (pc' := 85) dX11_ask_84 rfl rfl ?_
    obtain ⟨h1, h⟩ := h
    refine z_getR (ci := 12) (kf := 8) (pc' := 88) dX11_ask_85 kX11_62 (Or.inl rfl) (by decide) (by decide) rfl rfl h1 ?_
    obtain ⟨h1, h⟩ := h
    refine z_getR (ci := 7) (kf := 3) (pc' := 91) dX11_ask_88 kX11_223 (Or.inl rfl) (by decide) (by decide) rfl rfl h1 ?_
    obtain ⟨h1, h⟩ := h
    obtain ⟨d1, b1, Qz, hm, hdd, hb, hkx, hk⟩ := h
    refine z_callV (Y := mJx4a65c_size_8abf5) (n := 0) (as := []) (st := [.ref q_16, .ref q_16]) (pc' := 94) (ci := 0) (q := (zrv G17 (zrv G17 q0 8) 3)) hm dX11_ask_91 kX11_97 vJx4a65c_size_8abf5 rfl rfl (by decide) rfl h1 hdd hb (Nat.le_of_ble_eq_true rfl) (fun r G20 hz => ?_) hkx
    obtain ⟨y19, rfl, h⟩ := hk r G20 hz
    refine z_aload (pc' := 96) dX11_ask_94 rfl rfl ?_
    refine z_iload_n (pc' := 97) dX11_ask_96 rfl rfl ?_
    refine z_aload_n (pc' := 98) dX11_ask_97 rfl rfl ?_
    obtain ⟨h1, h⟩ := h
    refine z_getR (ci := 12) (kf := 8) (pc' := 101) dX11_ask_98 kX11_62 (Or.inl rfl) (by decide) (by decide) rfl rfl h1 ?_
    obtain ⟨h1, h⟩ := h
    refine z_getI (ci := 7) (kf := 6) (pc' := 104) dX11_ask_101 kX11_83 (Or.inl rfl) (by decide) (by decide) rfl rfl h1 ?_
    refine z_iload_n (pc' := 105) dX11_ask_104 rfl rfl ?_
    refine z_iload (pc' := 107) dX11_ask_105 rfl rfl ?_
    refine z_aload (pc' := 109) dX11_ask_107 rfl rfl ?_
    obtain ⟨h1, h⟩ := h
    obtain ⟨d1, b1, Qz, hm, hdd, hb, hkx, hk⟩ := h
    refine z_callI (Y := mX0_init) (n := 7) (as := [.int y19, .ref q6, .int x2, .int (ziv G20 (zrv G20 q0 8) 6), .int x3, .int x5, .ref y12]) (st := [.ref q_16]) (pc' := 112) (q := q_16) hm dX11_ask_109 kX11_226 iX0_init rfl rfl h1 hdd hb (Nat.le_of_ble_eq_true rfl) (fun r G22 hz => ?_) hkx
    obtain ⟨rfl, h⟩ := hk r G22 hz
    refine z_astore (pc' := 114) dX11_ask_112 (by decide) rfl ?_
    refine z_aload (pc' := 116) dX11_ask_114 rfl rfl ?_
    refine z_iload (pc' := 118) dX11_ask_116 rfl rfl ?_
    obtain ⟨h1, h⟩ := h
    obtain ⟨G24, hG⟩ : ∃ z, z = zsi G22 q_16 8 x4 := ⟨_, rfl⟩
    have h := h _ hG
    refine z_putI (ci := 1) (kf := 8) (pc' := 121) dX11_ask_118 kX11_229 (Or.inl rfl) (by decide) (by decide) rfl (Or.inl rfl) rfl h1 (zok_int _) ?_
    refine z_st hG ?_
    refine z_aload_n (pc' := 122) dX11_ask_121 rfl rfl ?_
    obtain ⟨h1, h⟩ := h
    refine z_getR (ci := 12) (kf := 8) (pc' := 125) dX11_ask_122 kX11_62 (Or.inl rfl) (by decide) (by decide) rfl rfl h1 ?_
    obtain ⟨h1, h⟩ := h
    refine z_getR (ci := 7) (kf := 3) (pc' := 128) dX11_ask_125 kX11_223 (Or.inl rfl) (by decide) (by decide) rfl rfl h1 ?_
    refine z_aload (pc' := 130) dX11_ask_128 rfl rfl ?_
    obtain ⟨h1, h⟩ := h
    obtain ⟨d1, b1, Qz, hm, hdd, hb, hkx, hk⟩ := h
    refine z_callV (Y := mJx4a65c_add_9ea2d) (n := 1) (as := [.ref q_16]) (st := []) (pc' := 133) (ci := 0) (q := (zrv G24 (zrv G24 q0 8) 3)) hm dX11_ask_130 kX11_104 vJx4a65c_add_9ea2d rfl rfl (by decide) rfl h1 hdd hb (Nat.le_of_ble_eq_true rfl) (fun r G26 hz => ?_) hkx
    obtain ⟨y25, rfl, h⟩ := hk r G26 hz
    refine z_pop (pc' := 134) dX11_ask_133 rfl rfl ?_
    refine z_aload_n (pc' := 135) dX11_ask_134 rfl rfl ?_
    obtain ⟨h1, h⟩ := h
    refine z_getR (ci := 12) (kf := 8) (pc' := 138) dX11_ask_135 kX11_62 (Or.inl rfl) (by decide) (by decide) rfl rfl h1 ?_
    refine z_dup (pc' := 139) dX11_ask_138 rfl rfl ?_
    obtain ⟨h1, h⟩ := h
    refine z_getI (ci := 7) (kf := 9) (pc' := 142) dX11_ask_139 kX11_232 (Or.inl rfl) (by decide) (by decide) rfl rfl h1 ?_
    refine z_aload (pc' := 144) dX11_ask_142 rfl rfl ?_
    obtain ⟨h1, h⟩ := h
    refine z_getI (ci := 11) (kf := 1) (pc' := 147) dX11_ask_144 kX11_189 (Or.inl rfl) (by decide) (by decide) rfl rfl h1 ?_
    refine z_iadd (pc' := 148) dX11_ask_147 rfl rfl ?_
    obtain ⟨h1, h⟩ := h
    obtain ⟨G28, hG⟩ : ∃ z, z = zsi G26 (zrv G26 q0 8) 9 ((ziv G26 (zrv G26 q0 8) 9) + (ziv G26 y12 1)) := ⟨_, rfl⟩
    have h := h _ hG
    refine z_putI (ci := 7) (kf := 9) (pc' := 151) dX11_ask_148 kX11_232 (Or.inl rfl) (by decide) (by decide) rfl (Or.inl rfl) rfl h1 (zok_int _) ?_
    refine z_st hG ?_
    refine z_aload (pc' := 153) dX11_ask_151 rfl rfl ?_
    obtain ⟨h1, h⟩ := h
    refine z_getI (ci := 1) (kf := 0) (pc' := 156) dX11_ask_153 kX11_235 (Or.inl rfl) (by decide) (by decide) rfl rfl h1 ?_
    exact z_iret dX11_ask_156 rfl h
  · have h := h.2 hc
    exact z_throw (names := ["java/lang/RuntimeException", "java/lang/Exception"]) htr dX11_ask_53 dX11_ask_56 dX11_ask_57 dX11_ask_60 rfl (by decide) kX11_101 x_UnsupportedOperationException h.2.1 (by decide) (Nat.le_of_ble_eq_true rfl) h.1 tX11_103 h.2.2
def wp_X11_askingAt_0 (E : ZE) (l : Launch) (d b : Nat) (G0 : ZG) (Q : ZQ) (k : Nat) (q0 : Nat) (x1 : Int32) (G : ZG) : Prop :=
  ((x1 < 0 →
    7 ≤ k ∧ 6 ≤ d ∧ Q (.inr "java/lang/IndexOutOfBoundsException") G) ∧
  (¬ (x1 < 0) →
    zob G q0 12 ∧
    zob G (zrv G q0 8) 7 ∧
    zob G (zrv G (zrv G q0 8) 3) 0 ∧
    xcI E l mJx4a65c_size_8abf5 d [.ref (zrv G (zrv G q0 8) 3)] G k (fun X G9 => Q (.inr X) G9) (fun y1 G2 k3 =>
    ((x1 < y1 →
      zob G2 q0 12 ∧
      zob G2 (zrv G2 q0 8) 7 ∧
      zob G2 (zrv G2 (zrv G2 q0 8) 3) 0 ∧
      xcR E l mJx4a65c_get_915e3 d [.ref (zrv G2 (zrv G2 q0 8) 3), .int x1] G2 k3 (fun X G9 => Q (.inr X) G9) (fun y4 G5 k6 =>
      zob G5 y4 1 ∧
      Q (.inl (some (.ref y4))) G5)) ∧
    (¬ (x1 < y1) →
      7 ≤ k3 ∧ 6 ≤ d ∧ Q (.inr "java/lang/IndexOutOfBoundsException") G2)))))
theorem wpt_X11_askingAt_0 {E : ZE} {l : Launch} {d b : Nat} {G0 : ZG} {Q : ZQ} {k : Nat} {q0 : Nat} {x1 : Int32} {G : ZG} (htr : l.stackTraces = false) (h : wp_X11_askingAt_0 E l d b G0 Q k q0 x1 G) : zW E l mX11_askingAt d b G0 Q k 0 [some (.ref q0), some (.int x1)] [] G := by
  unfold wp_X11_askingAt_0 at h
  refine z_iload_n (pc' := 1) dX11_askingAt_0 rfl rfl ?_
  refine z_if_lt (pt := 18) (pc' := 4) dX11_askingAt_1 (by decide) rfl (fun hc => ?_) (fun hc => ?_)
  · have h := h.1 hc
    exact z_throw (names := ["java/lang/RuntimeException", "java/lang/Exception"]) htr dX11_askingAt_18 dX11_askingAt_21 dX11_askingAt_22 dX11_askingAt_25 rfl (by decide) kX11_357 x_IndexOutOfBoundsException h.2.1 (by decide) (Nat.le_of_ble_eq_true rfl) h.1 tX11_359 h.2.2
  · have h := h.2 hc
    refine z_iload_n (pc' := 5) dX11_askingAt_4 rfl rfl ?_
    refine z_aload_n (pc' := 6) dX11_askingAt_5 rfl rfl ?_
    obtain ⟨h1, h⟩ := h
    refine z_getR (ci := 12) (kf := 8) (pc' := 9) dX11_askingAt_6 kX11_62 (Or.inl rfl) (by decide) (by decide) rfl rfl h1 ?_
    obtain ⟨h1, h⟩ := h
    refine z_getR (ci := 7) (kf := 3) (pc' := 12) dX11_askingAt_9 kX11_223 (Or.inl rfl) (by decide) (by decide) rfl rfl h1 ?_
    obtain ⟨h1, h⟩ := h
    obtain ⟨d1, b1, Qz, hm, hdd, hb, hkx, hk⟩ := h
    refine z_callV (Y := mJx4a65c_size_8abf5) (n := 0) (as := []) (st := [.int x1]) (pc' := 15) (ci := 0) (q := (zrv G (zrv G q0 8) 3)) hm dX11_askingAt_12 kX11_97 vJx4a65c_size_8abf5 rfl rfl (by decide) rfl h1 hdd hb (Nat.le_of_ble_eq_true rfl) (fun r G2 hz => ?_) hkx
    obtain ⟨y1, rfl, h⟩ := hk r G2 hz
    refine z_icmp_lt (pt := 26) (pc' := 18) dX11_askingAt_15 (by decide) rfl (fun hc => ?_) (fun hc => ?_)
    · have h := h.1 hc
      refine z_aload_n (pc' := 27) dX11_askingAt_26 rfl rfl ?_
      obtain ⟨h1, h⟩ := h
      refine z_getR (ci := 12) (kf := 8) (pc' := 30) dX11_askingAt_27 kX11_62 (Or.inl rfl) (by decide) (by decide) rfl rfl h1 ?_
      obtain ⟨h1, h⟩ := h
      refine z_getR (ci := 7) (kf := 3) (pc' := 33) dX11_askingAt_30 kX11_223 (Or.inl rfl) (by decide) (by decide) rfl rfl h1 ?_
      refine z_iload_n (pc' := 34) dX11_askingAt_33 rfl rfl ?_
      obtain ⟨h1, h⟩ := h
      obtain ⟨d1, b1, Qz, hm, hdd, hb, hkx, hk⟩ := h
      refine z_callV (Y := mJx4a65c_get_915e3) (n := 1) (as := [.int x1]) (st := []) (pc' := 37) (ci := 0) (q := (zrv G2 (zrv G2 q0 8) 3)) hm dX11_askingAt_34 kX11_111 vJx4a65c_get_915e3 rfl rfl (by decide) rfl h1 hdd hb (Nat.le_of_ble_eq_true rfl) (fun r G5 hz => ?_) hkx
      obtain ⟨y4, rfl, h⟩ := hk r G5 hz
      obtain ⟨h1, h⟩ := h
      refine z_castO (ci := 1) (pc' := 40) dX11_askingAt_37 kX11_218 (by decide) rfl h1 ?_
      exact z_aret dX11_askingAt_40 rfl (Or.inl ⟨_, rfl⟩) h
    · have h := h.2 hc
      exact z_throw (names := ["java/lang/RuntimeException", "java/lang/Exception"]) htr dX11_askingAt_18 dX11_askingAt_21 dX11_askingAt_22 dX11_askingAt_25 rfl (by decide) kX11_357 x_IndexOutOfBoundsException h.2.1 (by decide) (Nat.le_of_ble_eq_true rfl) h.1 tX11_359 h.2.2
def wp_X11_blanks_0 (E : ZE) (l : Launch) (d b : Nat) (G0 : ZG) (Q : ZQ) (k : Nat) (q0 : Nat) (x1 : Int32) (G : ZG) : Prop :=
  ((x1 < 0 →
    xcV E l mX11_demand d [.int 0] G k (fun X G9 => Q (.inr X) G9) (fun G1 k2 =>
    zob G1 q0 12 ∧
    zob G1 (zrv G1 q0 8) 7 ∧
    zob G1 (zrv G1 q0 8) 7 ∧
    ∀ G3, G3 = zsi G1 (zrv G1 q0 8) 8 ((ziv G1 (zrv G1 q0 8) 8) + x1) →
    zob G3 q0 12 ∧
    zob G3 (zrv G3 q0 8) 7 ∧
    Q (.inl (some (.int (ziv G3 (zrv G3 q0 8) 8)))) G3)) ∧
  (¬ (x1 < 0) →
    ((1000 < x1 →
      xcV E l mX11_demand d [.int 0] G k (fun X G9 => Q (.inr X) G9) (fun G4 k5 =>
      zob G4 q0 12 ∧
      zob G4 (zrv G4 q0 8) 7 ∧
      zob G4 (zrv G4 q0 8) 7 ∧
      ∀ G6, G6 = zsi G4 (zrv G4 q0 8) 8 ((ziv G4 (zrv G4 q0 8) 8) + x1) →
      zob G6 q0 12 ∧
      zob G6 (zrv G6 q0 8) 7 ∧
      Q (.inl (some (.int (ziv G6 (zrv G6 q0 8) 8)))) G6)) ∧
    (¬ (1000 < x1) →
      zob G q0 12 ∧
      zob G (zrv G q0 8) 7 ∧
      ((10000 < ((ziv G (zrv G q0 8) 8) + x1) →
        xcV E l mX11_demand d [.int 0] G k (fun X G9 => Q (.inr X) G9) (fun G7 k8 =>
        zob G7 q0 12 ∧
        zob G7 (zrv G7 q0 8) 7 ∧
        zob G7 (zrv G7 q0 8) 7 ∧
        ∀ G9, G9 = zsi G7 (zrv G7 q0 8) 8 ((ziv G7 (zrv G7 q0 8) 8) + x1) →
        zob G9 q0 12 ∧
        zob G9 (zrv G9 q0 8) 7 ∧
        Q (.inl (some (.int (ziv G9 (zrv G9 q0 8) 8)))) G9)) ∧
      (¬ (10000 < ((ziv G (zrv G q0 8) 8) + x1)) →
        xcV E l mX11_demand d [.int 1] G k (fun X G9 => Q (.inr X) G9) (fun G10 k11 =>
        zob G10 q0 12 ∧
        zob G10 (zrv G10 q0 8) 7 ∧
        zob G10 (zrv G10 q0 8) 7 ∧
        ∀ G12, G12 = zsi G10 (zrv G10 q0 8) 8 ((ziv G10 (zrv G10 q0 8) 8) + x1) →
        zob G12 q0 12 ∧
        zob G12 (zrv G12 q0 8) 7 ∧
        Q (.inl (some (.int (ziv G12 (zrv G12 q0 8) 8)))) G12)))))))
theorem wpt_X11_blanks_0 {E : ZE} {l : Launch} {d b : Nat} {G0 : ZG} {Q : ZQ} {k : Nat} {q0 : Nat} {x1 : Int32} {G : ZG} (h : wp_X11_blanks_0 E l d b G0 Q k q0 x1 G) : zW E l mX11_blanks d b G0 Q k 0 [some (.ref q0), some (.int x1)] [] G := by
  unfold wp_X11_blanks_0 at h
  refine z_iload_n (pc' := 1) dX11_blanks_0 rfl rfl ?_
  refine z_if_lt (pt := 30) (pc' := 4) dX11_blanks_1 (by decide) rfl (fun hc => ?_) (fun hc => ?_)
  · have h := h.1 hc
    refine z_iconst (x := 0) (pc' := 31) dX11_blanks_30 (by decide) rfl ?_
    obtain ⟨d1, b1, Qz, hm, hdd, hb, hkx, hk⟩ := h
    refine z_callS (Y := mX11_demand) (n := 1) (as := [.int 0]) (st := []) (pc' := 34) hm dX11_blanks_31 kX11_86 sX11_demand rfl rfl hdd hb (Nat.le_of_ble_eq_true rfl) (fun r G1 hz => ?_) hkx
    obtain ⟨rfl, h⟩ := hk r G1 hz
    refine z_aload_n (pc' := 35) dX11_blanks_34 rfl rfl ?_
    obtain ⟨h1, h⟩ := h
    refine z_getR (ci := 12) (kf := 8) (pc' := 38) dX11_blanks_35 kX11_62 (Or.inl rfl) (by decide) (by decide) rfl rfl h1 ?_
    refine z_dup (pc' := 39) dX11_blanks_38 rfl rfl ?_
    obtain ⟨h1, h⟩ := h
    refine z_getI (ci := 7) (kf := 8) (pc' := 42) dX11_blanks_39 kX11_330 (Or.inl rfl) (by decide) (by decide) rfl rfl h1 ?_
    refine z_iload_n (pc' := 43) dX11_blanks_42 rfl rfl ?_
    refine z_iadd (pc' := 44) dX11_blanks_43 rfl rfl ?_
    obtain ⟨h1, h⟩ := h
    obtain ⟨G3, hG⟩ : ∃ z, z = zsi G1 (zrv G1 q0 8) 8 ((ziv G1 (zrv G1 q0 8) 8) + x1) := ⟨_, rfl⟩
    have h := h _ hG
    refine z_putI (ci := 7) (kf := 8) (pc' := 47) dX11_blanks_44 kX11_330 (Or.inl rfl) (by decide) (by decide) rfl (Or.inl rfl) rfl h1 (zok_int _) ?_
    refine z_st hG ?_
    refine z_aload_n (pc' := 48) dX11_blanks_47 rfl rfl ?_
    obtain ⟨h1, h⟩ := h
    refine z_getR (ci := 12) (kf := 8) (pc' := 51) dX11_blanks_48 kX11_62 (Or.inl rfl) (by decide) (by decide) rfl rfl h1 ?_
    obtain ⟨h1, h⟩ := h
    refine z_getI (ci := 7) (kf := 8) (pc' := 54) dX11_blanks_51 kX11_330 (Or.inl rfl) (by decide) (by decide) rfl rfl h1 ?_
    exact z_iret dX11_blanks_54 rfl h
  · have h := h.2 hc
    refine z_iload_n (pc' := 5) dX11_blanks_4 rfl rfl ?_
    refine z_sipush (x := 1000) (pc' := 8) dX11_blanks_5 (by decide) rfl ?_
    refine z_icmp_gt (pt := 30) (pc' := 11) dX11_blanks_8 (by decide) rfl (fun hc => ?_) (fun hc => ?_)
    · have h := h.1 hc
      refine z_iconst (x := 0) (pc' := 31) dX11_blanks_30 (by decide) rfl ?_
      obtain ⟨d1, b1, Qz, hm, hdd, hb, hkx, hk⟩ := h
      refine z_callS (Y := mX11_demand) (n := 1) (as := [.int 0]) (st := []) (pc' := 34) hm dX11_blanks_31 kX11_86 sX11_demand rfl rfl hdd hb (Nat.le_of_ble_eq_true rfl) (fun r G4 hz => ?_) hkx
      obtain ⟨rfl, h⟩ := hk r G4 hz
      refine z_aload_n (pc' := 35) dX11_blanks_34 rfl rfl ?_
      obtain ⟨h1, h⟩ := h
      refine z_getR (ci := 12) (kf := 8) (pc' := 38) dX11_blanks_35 kX11_62 (Or.inl rfl) (by decide) (by decide) rfl rfl h1 ?_
      refine z_dup (pc' := 39) dX11_blanks_38 rfl rfl ?_
      obtain ⟨h1, h⟩ := h
      refine z_getI (ci := 7) (kf := 8) (pc' := 42) dX11_blanks_39 kX11_330 (Or.inl rfl) (by decide) (by decide) rfl rfl h1 ?_
      refine z_iload_n (pc' := 43) dX11_blanks_42 rfl rfl ?_
      refine z_iadd (pc' := 44) dX11_blanks_43 rfl rfl ?_
      obtain ⟨h1, h⟩ := h
      obtain ⟨G6, hG⟩ : ∃ z, z = zsi G4 (zrv G4 q0 8) 8 ((ziv G4 (zrv G4 q0 8) 8) + x1) := ⟨_, rfl⟩
      have h := h _ hG
      refine z_putI (ci := 7) (kf := 8) (pc' := 47) dX11_blanks_44 kX11_330 (Or.inl rfl) (by decide) (by decide) rfl (Or.inl rfl) rfl h1 (zok_int _) ?_
      refine z_st hG ?_
      refine z_aload_n (pc' := 48) dX11_blanks_47 rfl rfl ?_
      obtain ⟨h1, h⟩ := h
      refine z_getR (ci := 12) (kf := 8) (pc' := 51) dX11_blanks_48 kX11_62 (Or.inl rfl) (by decide) (by decide) rfl rfl h1 ?_
      obtain ⟨h1, h⟩ := h
      refine z_getI (ci := 7) (kf := 8) (pc' := 54) dX11_blanks_51 kX11_330 (Or.inl rfl) (by decide) (by decide) rfl rfl h1 ?_
      exact z_iret dX11_blanks_54 rfl h
    · have h := h.2 hc
      refine z_aload_n (pc' := 12) dX11_blanks_11 rfl rfl ?_
      obtain ⟨h1, h⟩ := h
      refine z_getR (ci := 12) (kf := 8) (pc' := 15) dX11_blanks_12 kX11_62 (Or.inl rfl) (by decide) (by decide) rfl rfl h1 ?_
      obtain ⟨h1, h⟩ := h
      refine z_getI (ci := 7) (kf := 8) (pc' := 18) dX11_blanks_15 kX11_330 (Or.inl rfl) (by decide) (by decide) rfl rfl h1 ?_
      refine z_iload_n (pc' := 19) dX11_blanks_18 rfl rfl ?_
      refine z_iadd (pc' := 20) dX11_blanks_19 rfl rfl ?_
      refine z_sipush (x := 10000) (pc' := 23) dX11_blanks_20 (by decide) rfl ?_
      refine z_icmp_gt (pt := 30) (pc' := 26) dX11_blanks_23 (by decide) rfl (fun hc => ?_) (fun hc => ?_)
      · have h := h.1 hc
        refine z_iconst (x := 0) (pc' := 31) dX11_blanks_30 (by decide) rfl ?_
        obtain ⟨d1, b1, Qz, hm, hdd, hb, hkx, hk⟩ := h
        refine z_callS (Y := mX11_demand) (n := 1) (as := [.int 0]) (st := []) (pc' := 34) hm dX11_blanks_31 kX11_86 sX11_demand rfl rfl hdd hb (Nat.le_of_ble_eq_true rfl) (fun r G7 hz => ?_) hkx
        obtain ⟨rfl, h⟩ := hk r G7 hz
        refine z_aload_n (pc' := 35) dX11_blanks_34 rfl rfl ?_
        obtain ⟨h1, h⟩ := h
        refine z_getR (ci := 12) (kf := 8) (pc' := 38) dX11_blanks_35 kX11_62 (Or.inl rfl) (by decide) (by decide) rfl rfl h1 ?_
        refine z_dup (pc' := 39) dX11_blanks_38 rfl rfl ?_
        obtain ⟨h1, h⟩ := h
        refine z_getI (ci := 7) (kf := 8) (pc' := 42) dX11_blanks_39 kX11_330 (Or.inl rfl) (by decide) (by decide) rfl rfl h1 ?_
        refine z_iload_n (pc' := 43) dX11_blanks_42 rfl rfl ?_
        refine z_iadd (pc' := 44) dX11_blanks_43 rfl rfl ?_
        obtain ⟨h1, h⟩ := h
        obtain ⟨G9, hG⟩ : ∃ z, z = zsi G7 (zrv G7 q0 8) 8 ((ziv G7 (zrv G7 q0 8) 8) + x1) := ⟨_, rfl⟩
        have h := h _ hG
        refine z_putI (ci := 7) (kf := 8) (pc' := 47) dX11_blanks_44 kX11_330 (Or.inl rfl) (by decide) (by decide) rfl (Or.inl rfl) rfl h1 (zok_int _) ?_
        refine z_st hG ?_
        refine z_aload_n (pc' := 48) dX11_blanks_47 rfl rfl ?_
        obtain ⟨h1, h⟩ := h
        refine z_getR (ci := 12) (kf := 8) (pc' := 51) dX11_blanks_48 kX11_62 (Or.inl rfl) (by decide) (by decide) rfl rfl h1 ?_
        obtain ⟨h1, h⟩ := h
        refine z_getI (ci := 7) (kf := 8) (pc' := 54) dX11_blanks_51 kX11_330 (Or.inl rfl) (by decide) (by decide) rfl rfl h1 ?_
        exact z_iret dX11_blanks_54 rfl h
      · have h := h.2 hc
        refine z_iconst (x := 1) (pc' := 27) dX11_blanks_26 (by decide) rfl ?_
        refine z_goto (pc' := 31) dX11_blanks_27 (by decide) ?_
        obtain ⟨d1, b1, Qz, hm, hdd, hb, hkx, hk⟩ := h
        refine z_callS (Y := mX11_demand) (n := 1) (as := [.int 1]) (st := []) (pc' := 34) hm dX11_blanks_31 kX11_86 sX11_demand rfl rfl hdd hb (Nat.le_of_ble_eq_true rfl) (fun r G10 hz => ?_) hkx
        obtain ⟨rfl, h⟩ := hk r G10 hz
        refine z_aload_n (pc' := 35) dX11_blanks_34 rfl rfl ?_
        obtain ⟨h1, h⟩ := h
        refine z_getR (ci := 12) (kf := 8) (pc' := 38) dX11_blanks_35 kX11_62 (Or.inl rfl) (by decide) (by decide) rfl rfl h1 ?_
        refine z_dup (pc' := 39) dX11_blanks_38 rfl rfl ?_
        obtain ⟨h1, h⟩ := h
        refine z_getI (ci := 7) (kf := 8) (pc' := 42) dX11_blanks_39 kX11_330 (Or.inl rfl) (by decide) (by decide) rfl rfl h1 ?_
        refine z_iload_n (pc' := 43) dX11_blanks_42 rfl rfl ?_
        refine z_iadd (pc' := 44) dX11_blanks_43 rfl rfl ?_
        obtain ⟨h1, h⟩ := h
        obtain ⟨G12, hG⟩ : ∃ z, z = zsi G10 (zrv G10 q0 8) 8 ((ziv G10 (zrv G10 q0 8) 8) + x1) := ⟨_, rfl⟩
        have h := h _ hG
        refine z_putI (ci := 7) (kf := 8) (pc' := 47) dX11_blanks_44 kX11_330 (Or.inl rfl) (by decide) (by decide) rfl (Or.inl rfl) rfl h1 (zok_int _) ?_
        refine z_st hG ?_
        refine z_aload_n (pc' := 48) dX11_blanks_47 rfl rfl ?_
        obtain ⟨h1, h⟩ := h
        refine z_getR (ci := 12) (kf := 8) (pc' := 51) dX11_blanks_48 kX11_62 (Or.inl rfl) (by decide) (by decide) rfl rfl h1 ?_
        obtain ⟨h1, h⟩ := h
        refine z_getI (ci := 7) (kf := 8) (pc' := 54) dX11_blanks_51 kX11_330 (Or.inl rfl) (by decide) (by decide) rfl rfl h1 ?_
        exact z_iret dX11_blanks_54 rfl h
def wp_X11_booklet_0 (E : ZE) (l : Launch) (d b : Nat) (G0 : ZG) (Q : ZQ) (k : Nat) (q0 : Nat) (x1 : Int32) (x2 : Int32) (G : ZG) : Prop :=
  zob G q0 12 ∧
  zob G (zrv G q0 8) 7 ∧
  xcR E l mX6_bookletAt d [.ref (zrv G q0 8), .int x1] G k (fun X G9 => Q (.inr X) G9) (fun y1 G2 k3 =>
  ((¬ y1 = 0 →
    ((x2 = 0 →
      zob G2 y1 2 ∧
      Q (.inl (some (.int (ziv G2 y1 0)))) G2) ∧
    ((x2 = 1 →
      zob G2 y1 2 ∧
      Q (.inl (some (.int (ziv G2 y1 1)))) G2) ∧
    ((x2 = 2 →
      zob G2 y1 2 ∧
      Q (.inl (some (.int (ziv G2 y1 2)))) G2) ∧
    ((x2 = 3 →
      zob G2 y1 2 ∧
      Q (.inl (some (.int (ziv G2 y1 3)))) G2) ∧
    (¬ x2 = 0 → ¬ x2 = 1 → ¬ x2 = 2 → ¬ x2 = 3 →
      7 ≤ k3 ∧ 6 ≤ d ∧ Q (.inr "java/util/NoSuchElementException") G2)))))) ∧
  (¬ (¬ y1 = 0) →
    7 ≤ k3 ∧ 6 ≤ d ∧ Q (.inr "java/lang/IndexOutOfBoundsException") G2)))
theorem wpt_X11_booklet_0 {E : ZE} {l : Launch} {d b : Nat} {G0 : ZG} {Q : ZQ} {k : Nat} {q0 : Nat} {x1 : Int32} {x2 : Int32} {G : ZG} (htr : l.stackTraces = false) (h : wp_X11_booklet_0 E l d b G0 Q k q0 x1 x2 G) : zW E l mX11_booklet d b G0 Q k 0 [some (.ref q0), some (.int x1), some (.int x2), none] [] G := by
  unfold wp_X11_booklet_0 at h
  refine z_aload_n (pc' := 1) dX11_booklet_0 rfl rfl ?_
  obtain ⟨h1, h⟩ := h
  refine z_getR (ci := 12) (kf := 8) (pc' := 4) dX11_booklet_1 kX11_62 (Or.inl rfl) (by decide) (by decide) rfl rfl h1 ?_
  refine z_iload_n (pc' := 5) dX11_booklet_4 rfl rfl ?_
  obtain ⟨h1, h⟩ := h
  obtain ⟨d1, b1, Qz, hm, hdd, hb, hkx, hk⟩ := h
  refine z_callV (Y := mX6_bookletAt) (n := 1) (as := [.int x1]) (st := []) (pc' := 8) (ci := 7) (q := (zrv G q0 8)) hm dX11_booklet_5 kX11_353 vX6_bookletAt rfl rfl (by decide) rfl h1 hdd hb (Nat.le_of_ble_eq_true rfl) (fun r G2 hz => ?_) hkx
  obtain ⟨y1, rfl, h⟩ := hk r G2 hz
  refine z_astore_n (pc' := 9) dX11_booklet_8 (by decide) rfl ?_
  refine z_aload_n (pc' := 10) dX11_booklet_9 rfl rfl ?_
  refine z_ifnonnull (pt := 21) (pc' := 13) dX11_booklet_10 (by decide) rfl (fun hc => ?_) (fun hc => ?_)
  · have h := h.1 hc
    refine z_iload_n (pc' := 22) dX11_booklet_21 rfl rfl ?_
    by_cases hc0 : x2 = 0
    · have h := h.1 hc0
      refine z_tableIn (off := 30) (pt := 52) dX11_booklet_22 (by rw [hc0]; decide) (by rw [hc0]; decide) (by rw [hc0]; decide) (by decide) ?_
      refine z_aload_n (pc' := 53) dX11_booklet_52 rfl rfl ?_
      obtain ⟨h1, h⟩ := h
      refine z_getI (ci := 2) (kf := 0) (pc' := 56) dX11_booklet_53 kX11_360 (Or.inl rfl) (by decide) (by decide) rfl rfl h1 ?_
      exact z_iret dX11_booklet_56 rfl h
    have h := h.2
    by_cases hc1 : x2 = 1
    · have h := h.1 hc1
      refine z_tableIn (off := 35) (pt := 57) dX11_booklet_22 (by rw [hc1]; decide) (by rw [hc1]; decide) (by rw [hc1]; decide) (by decide) ?_
      refine z_aload_n (pc' := 58) dX11_booklet_57 rfl rfl ?_
      obtain ⟨h1, h⟩ := h
      refine z_getI (ci := 2) (kf := 1) (pc' := 61) dX11_booklet_58 kX11_364 (Or.inl rfl) (by decide) (by decide) rfl rfl h1 ?_
      exact z_iret dX11_booklet_61 rfl h
    have h := h.2
    by_cases hc2 : x2 = 2
    · have h := h.1 hc2
      refine z_tableIn (off := 40) (pt := 62) dX11_booklet_22 (by rw [hc2]; decide) (by rw [hc2]; decide) (by rw [hc2]; decide) (by decide) ?_
      refine z_aload_n (pc' := 63) dX11_booklet_62 rfl rfl ?_
      obtain ⟨h1, h⟩ := h
      refine z_getI (ci := 2) (kf := 2) (pc' := 66) dX11_booklet_63 kX11_367 (Or.inl rfl) (by decide) (by decide) rfl rfl h1 ?_
      exact z_iret dX11_booklet_66 rfl h
    have h := h.2
    by_cases hc3 : x2 = 3
    · have h := h.1 hc3
      refine z_tableIn (off := 45) (pt := 67) dX11_booklet_22 (by rw [hc3]; decide) (by rw [hc3]; decide) (by rw [hc3]; decide) (by decide) ?_
      refine z_aload_n (pc' := 68) dX11_booklet_67 rfl rfl ?_
      obtain ⟨h1, h⟩ := h
      refine z_getI (ci := 2) (kf := 3) (pc' := 71) dX11_booklet_68 kX11_370 (Or.inl rfl) (by decide) (by decide) rfl rfl h1 ?_
      exact z_iret dX11_booklet_71 rfl h
    have h := h.2
    have h := h hc0 hc1 hc2 hc3
    refine z_tableOut (pt := 72) dX11_booklet_22 (by have e0 := lv_neT (a := 0) hc0 (by decide); have e1 := lv_neT (a := 1) hc1 (by decide); have e2 := lv_neT (a := 2) hc2 (by decide); have e3 := lv_neT (a := 3) hc3 (by decide); omega) (by decide) ?_
    exact z_throw (names := ["java/lang/RuntimeException", "java/lang/Exception"]) htr dX11_booklet_72 dX11_booklet_75 dX11_booklet_76 dX11_booklet_79 rfl (by decide) kX11_205 x_NoSuchElementException h.2.1 (by decide) (Nat.le_of_ble_eq_true rfl) h.1 tX11_207 h.2.2
  · have h := h.2 hc
    exact z_throw (names := ["java/lang/RuntimeException", "java/lang/Exception"]) htr dX11_booklet_13 dX11_booklet_16 dX11_booklet_17 dX11_booklet_20 rfl (by decide) kX11_357 x_IndexOutOfBoundsException h.2.1 (by decide) (Nat.le_of_ble_eq_true rfl) h.1 tX11_359 h.2.2
def wp_X11_broken_0 (E : ZE) (l : Launch) (d b : Nat) (G0 : ZG) (Q : ZQ) (k : Nat) (q0 : Nat) (x1 : Int32) (x2 : Int32) (G : ZG) : Prop :=
  ((x2 < x1 →
    xcV E l mX11_demand d [.int 0] G k (fun X G9 => Q (.inr X) G9) (fun G1 k2 =>
    zob G1 q0 12 ∧
    zob G1 (zrv G1 q0 7) 10 ∧
    ∀ G3, G3 = zsi G1 (zrv G1 q0 7) 5 x1 →
    zob G3 q0 12 ∧
    zob G3 (zrv G3 q0 7) 10 ∧
    ∀ G4, G4 = zsi G3 (zrv G3 q0 7) 6 x2 →
    Q (.inl none) G4)) ∧
  (¬ (x2 < x1) →
    xcV E l mX11_demand d [.int 1] G k (fun X G9 => Q (.inr X) G9) (fun G5 k6 =>
    zob G5 q0 12 ∧
    zob G5 (zrv G5 q0 7) 10 ∧
    ∀ G7, G7 = zsi G5 (zrv G5 q0 7) 5 x1 →
    zob G7 q0 12 ∧
    zob G7 (zrv G7 q0 7) 10 ∧
    ∀ G8, G8 = zsi G7 (zrv G7 q0 7) 6 x2 →
    Q (.inl none) G8)))
theorem wpt_X11_broken_0 {E : ZE} {l : Launch} {d b : Nat} {G0 : ZG} {Q : ZQ} {k : Nat} {q0 : Nat} {x1 : Int32} {x2 : Int32} {G : ZG} (h : wp_X11_broken_0 E l d b G0 Q k q0 x1 x2 G) : zW E l mX11_broken d b G0 Q k 0 [some (.ref q0), some (.int x1), some (.int x2)] [] G := by
  unfold wp_X11_broken_0 at h
  refine z_iload_n (pc' := 1) dX11_broken_0 rfl rfl ?_
  refine z_iload_n (pc' := 2) dX11_broken_1 rfl rfl ?_
  refine z_icmp_gt (pt := 9) (pc' := 5) dX11_broken_2 (by decide) rfl (fun hc => ?_) (fun hc => ?_)
  · have h := h.1 hc
    refine z_iconst (x := 0) (pc' := 10) dX11_broken_9 (by decide) rfl ?_
    obtain ⟨d1, b1, Qz, hm, hdd, hb, hkx, hk⟩ := h
    refine z_callS (Y := mX11_demand) (n := 1) (as := [.int 0]) (st := []) (pc' := 13) hm dX11_broken_10 kX11_86 sX11_demand rfl rfl hdd hb (Nat.le_of_ble_eq_true rfl) (fun r G1 hz => ?_) hkx
    obtain ⟨rfl, h⟩ := hk r G1 hz
    refine z_aload_n (pc' := 14) dX11_broken_13 rfl rfl ?_
    obtain ⟨h1, h⟩ := h
    refine z_getR (ci := 12) (kf := 7) (pc' := 17) dX11_broken_14 kX11_53 (Or.inl rfl) (by decide) (by decide) rfl rfl h1 ?_
    refine z_iload_n (pc' := 18) dX11_broken_17 rfl rfl ?_
    obtain ⟨h1, h⟩ := h
    obtain ⟨G3, hG⟩ : ∃ z, z = zsi G1 (zrv G1 q0 7) 5 x1 := ⟨_, rfl⟩
    have h := h _ hG
    refine z_putI (ci := 10) (kf := 5) (pc' := 21) dX11_broken_18 kX11_333 (Or.inl rfl) (by decide) (by decide) rfl (Or.inl rfl) rfl h1 (zok_int _) ?_
    refine z_st hG ?_
    refine z_aload_n (pc' := 22) dX11_broken_21 rfl rfl ?_
    obtain ⟨h1, h⟩ := h
    refine z_getR (ci := 12) (kf := 7) (pc' := 25) dX11_broken_22 kX11_53 (Or.inl rfl) (by decide) (by decide) rfl rfl h1 ?_
    refine z_iload_n (pc' := 26) dX11_broken_25 rfl rfl ?_
    obtain ⟨h1, h⟩ := h
    obtain ⟨G4, hG⟩ : ∃ z, z = zsi G3 (zrv G3 q0 7) 6 x2 := ⟨_, rfl⟩
    have h := h _ hG
    refine z_putI (ci := 10) (kf := 6) (pc' := 29) dX11_broken_26 kX11_336 (Or.inl rfl) (by decide) (by decide) rfl (Or.inl rfl) rfl h1 (zok_int _) ?_
    refine z_st hG ?_
    exact z_vret dX11_broken_29 rfl h
  · have h := h.2 hc
    refine z_iconst (x := 1) (pc' := 6) dX11_broken_5 (by decide) rfl ?_
    refine z_goto (pc' := 10) dX11_broken_6 (by decide) ?_
    obtain ⟨d1, b1, Qz, hm, hdd, hb, hkx, hk⟩ := h
    refine z_callS (Y := mX11_demand) (n := 1) (as := [.int 1]) (st := []) (pc' := 13) hm dX11_broken_10 kX11_86 sX11_demand rfl rfl hdd hb (Nat.le_of_ble_eq_true rfl) (fun r G5 hz => ?_) hkx
    obtain ⟨rfl, h⟩ := hk r G5 hz
    refine z_aload_n (pc' := 14) dX11_broken_13 rfl rfl ?_
    obtain ⟨h1, h⟩ := h
    refine z_getR (ci := 12) (kf := 7) (pc' := 17) dX11_broken_14 kX11_53 (Or.inl rfl) (by decide) (by decide) rfl rfl h1 ?_
    refine z_iload_n (pc' := 18) dX11_broken_17 rfl rfl ?_
    obtain ⟨h1, h⟩ := h
    obtain ⟨G7, hG⟩ : ∃ z, z = zsi G5 (zrv G5 q0 7) 5 x1 := ⟨_, rfl⟩
    have h := h _ hG
    refine z_putI (ci := 10) (kf := 5) (pc' := 21) dX11_broken_18 kX11_333 (Or.inl rfl) (by decide) (by decide) rfl (Or.inl rfl) rfl h1 (zok_int _) ?_
    refine z_st hG ?_
    refine z_aload_n (pc' := 22) dX11_broken_21 rfl rfl ?_
    obtain ⟨h1, h⟩ := h
    refine z_getR (ci := 12) (kf := 7) (pc' := 25) dX11_broken_22 kX11_53 (Or.inl rfl) (by decide) (by decide) rfl rfl h1 ?_
    refine z_iload_n (pc' := 26) dX11_broken_25 rfl rfl ?_
    obtain ⟨h1, h⟩ := h
    obtain ⟨G8, hG⟩ : ∃ z, z = zsi G7 (zrv G7 q0 7) 6 x2 := ⟨_, rfl⟩
    have h := h _ hG
    refine z_putI (ci := 10) (kf := 6) (pc' := 29) dX11_broken_26 kX11_336 (Or.inl rfl) (by decide) (by decide) rfl (Or.inl rfl) rfl h1 (zok_int _) ?_
    refine z_st hG ?_
    exact z_vret dX11_broken_29 rfl h
def wp_X11_checkDesk_0 (E : ZE) (l : Launch) (d b : Nat) (G0 : ZG) (Q : ZQ) (k : Nat) (x0 : Int32) (G : ZG) : Prop :=
  ((x0 < 0 →
    7 ≤ k ∧ 6 ≤ d ∧ Q (.inr "java/lang/IndexOutOfBoundsException") G) ∧
  (¬ (x0 < 0) →
    ((x0 < 4 →
      Q (.inl none) G) ∧
    (¬ (x0 < 4) →
      7 ≤ k ∧ 6 ≤ d ∧ Q (.inr "java/lang/IndexOutOfBoundsException") G))))
theorem wpt_X11_checkDesk_0 {E : ZE} {l : Launch} {d b : Nat} {G0 : ZG} {Q : ZQ} {k : Nat} {x0 : Int32} {G : ZG} (htr : l.stackTraces = false) (h : wp_X11_checkDesk_0 E l d b G0 Q k x0 G) : zW E l mX11_checkDesk d b G0 Q k 0 [some (.int x0)] [] G := by
  unfold wp_X11_checkDesk_0 at h
  refine z_iload_n (pc' := 1) dX11_checkDesk_0 rfl rfl ?_
  refine z_if_lt (pt := 9) (pc' := 4) dX11_checkDesk_1 (by decide) rfl (fun hc => ?_) (fun hc => ?_)
  · have h := h.1 hc
    exact z_throw (names := ["java/lang/RuntimeException", "java/lang/Exception"]) htr dX11_checkDesk_9 dX11_checkDesk_12 dX11_checkDesk_13 dX11_checkDesk_16 rfl (by decide) kX11_357 x_IndexOutOfBoundsException h.2.1 (by decide) (Nat.le_of_ble_eq_true rfl) h.1 tX11_359 h.2.2
  · have h := h.2 hc
    refine z_iload_n (pc' := 5) dX11_checkDesk_4 rfl rfl ?_
    refine z_iconst (x := 4) (pc' := 6) dX11_checkDesk_5 (by decide) rfl ?_
    refine z_icmp_lt (pt := 17) (pc' := 9) dX11_checkDesk_6 (by decide) rfl (fun hc => ?_) (fun hc => ?_)
    · have h := h.1 hc
      exact z_vret dX11_checkDesk_17 rfl h
    · have h := h.2 hc
      exact z_throw (names := ["java/lang/RuntimeException", "java/lang/Exception"]) htr dX11_checkDesk_9 dX11_checkDesk_12 dX11_checkDesk_13 dX11_checkDesk_16 rfl (by decide) kX11_357 x_IndexOutOfBoundsException h.2.1 (by decide) (Nat.le_of_ble_eq_true rfl) h.1 tX11_359 h.2.2
def wp_X11_count_0 (E : ZE) (l : Launch) (d b : Nat) (G0 : ZG) (Q : ZQ) (k : Nat) (q0 : Nat) (x1 : Int32) (G : ZG) : Prop :=
  ((x1 = 0 →
    zob G q0 12 ∧
    zob G (zrv G q0 8) 7 ∧
    Q (.inl (some (.int (ziv G (zrv G q0 8) 6)))) G) ∧
  ((x1 = 1 →
    zob G q0 12 ∧
    zob G (zrv G q0 5) 8 ∧
    zob G (zrv G (zrv G q0 5) 0) 0 ∧
    xcI E l mJx4a65c_size_8abf5 d [.ref (zrv G (zrv G q0 5) 0)] G k (fun X G9 => Q (.inr X) G9) (fun y1 G2 k3 =>
    Q (.inl (some (.int y1))) G2)) ∧
  ((x1 = 2 →
    zob G q0 12 ∧
    zob G (zrv G q0 3) 0 ∧
    xcI E l mJx4a65c_size_8abf5 d [.ref (zrv G q0 3)] G k (fun X G9 => Q (.inr X) G9) (fun y4 G5 k6 =>
    Q (.inl (some (.int y4))) G5)) ∧
  ((x1 = 3 →
    zob G q0 12 ∧
    zob G (zrv G q0 8) 7 ∧
    zob G (zrv G (zrv G q0 8) 3) 0 ∧
    xcI E l mJx4a65c_size_8abf5 d [.ref (zrv G (zrv G q0 8) 3)] G k (fun X G9 => Q (.inr X) G9) (fun y7 G8 k9 =>
    Q (.inl (some (.int y7))) G8)) ∧
  ((x1 = 4 →
    zob G q0 12 ∧
    zob G (zrv G q0 8) 7 ∧
    xcI E l mX6_countOpen d [.ref (zrv G q0 8)] G k (fun X G9 => Q (.inr X) G9) (fun y10 G11 k12 =>
    Q (.inl (some (.int y10))) G11)) ∧
  ((x1 = 5 →
    zob G q0 12 ∧
    zob G (zrv G q0 8) 7 ∧
    xcI E l mX6_countIn d [.ref (zrv G q0 8), .int 7] G k (fun X G9 => Q (.inr X) G9) (fun y13 G14 k15 =>
    Q (.inl (some (.int y13))) G14)) ∧
  ((x1 = 6 →
    zob G q0 12 ∧
    zob G (zrv G q0 8) 7 ∧
    xcI E l mX6_countIn d [.ref (zrv G q0 8), .int 3] G k (fun X G9 => Q (.inr X) G9) (fun y16 G17 k18 =>
    Q (.inl (some (.int y16))) G17)) ∧
  ((x1 = 7 →
    zob G q0 12 ∧
    zob G (zrv G q0 8) 7 ∧
    Q (.inl (some (.int (ziv G (zrv G q0 8) 5)))) G) ∧
  ((x1 = 8 →
    zob G q0 12 ∧
    zob G (zrv G q0 8) 7 ∧
    Q (.inl (some (.int (ziv G (zrv G q0 8) 8)))) G) ∧
  ((x1 = 9 →
    zob G q0 12 ∧
    zob G (zrv G q0 8) 7 ∧
    Q (.inl (some (.int (ziv G (zrv G q0 8) 9)))) G) ∧
  ((x1 = 10 →
    zob G q0 12 ∧
    zob G (zrv G q0 8) 7 ∧
    Q (.inl (some (.int (ziv G (zrv G q0 8) 10)))) G) ∧
  ((x1 = 11 →
    zob G q0 12 ∧
    zob G (zrv G q0 8) 7 ∧
    Q (.inl (some (.int (ziv G (zrv G q0 8) 11)))) G) ∧
  ((x1 = 12 →
    zob G q0 12 ∧
    zob G (zrv G q0 8) 7 ∧
    Q (.inl (some (.int (ziv G (zrv G q0 8) 12)))) G) ∧
  ((x1 = 13 →
    zob G q0 12 ∧
    zob G (zrv G q0 6) 3 ∧
    zob G (zrv G (zrv G q0 6) 0) 0 ∧
    xcI E l mJx4a65c_size_8abf5 d [.ref (zrv G (zrv G q0 6) 0)] G k (fun X G9 => Q (.inr X) G9) (fun y19 G20 k21 =>
    Q (.inl (some (.int y19))) G20)) ∧
  ((x1 = 14 →
    zob G q0 12 ∧
    zob G (zrv G q0 8) 7 ∧
    Q (.inl (some (.int (ziv G (zrv G q0 8) 13)))) G) ∧
  ((x1 = 15 →
    zob G q0 12 ∧
    xcR E l mX11_lawOfToday d [.ref q0] G k (fun X G9 => Q (.inr X) G9) (fun y22 G23 k24 =>
    zob G23 y22 4 ∧
    Q (.inl (some (.int (ziv G23 y22 1)))) G23)) ∧
  ((x1 = 16 →
    zob G q0 12 ∧
    zob G (zrv G q0 8) 7 ∧
    xcI E l mX6_countIn d [.ref (zrv G q0 8), .int 9] G k (fun X G9 => Q (.inr X) G9) (fun y25 G26 k27 =>
    Q (.inl (some (.int y25))) G26)) ∧
  ((x1 = 17 →
    zob G q0 12 ∧
    zob G (zrv G q0 8) 7 ∧
    xcI E l mX6_countIn d [.ref (zrv G q0 8), .int 8] G k (fun X G9 => Q (.inr X) G9) (fun y28 G29 k30 =>
    Q (.inl (some (.int y28))) G29)) ∧
  (¬ x1 = 0 → ¬ x1 = 1 → ¬ x1 = 2 → ¬ x1 = 3 → ¬ x1 = 4 → ¬ x1 = 5 → ¬ x1 = 6 → ¬ x1 = 7 → ¬ x1 = 8 → ¬ x1 = 9 → ¬ x1 = 10 → ¬ x1 = 11 → ¬ x1 = 12 → ¬ x1 = 13 → ¬ x1 = 14 → ¬ x1 = 15 → ¬ x1 = 16 → ¬ x1 = 17 →
    Q (.inl (some (.int (-1)))) G)))))))))))))))))))
theorem wpt_X11_count_0 {E : ZE} {l : Launch} {d b : Nat} {G0 : ZG} {Q : ZQ} {k : Nat} {q0 : Nat} {x1 : Int32} {G : ZG} (h : wp_X11_count_0 E l d b G0 Q k q0 x1 G) : zW E l mX11_count d b G0 Q k 0 [some (.ref q0), some (.int x1)] [] G := by
  unfold wp_X11_count_0 at h
  refine z_iload_n (pc' := 1) dX11_count_0 rfl rfl ?_
  by_cases hc0 : x1 = 0
  · have h := h.1 hc0
    refine z_tableIn (off := 87) (pt := 88) dX11_count_1 (by rw [hc0]; decide) (by rw [hc0]; decide) (by rw [hc0]; decide) (by decide) ?_
    refine z_aload_n (pc' := 89) dX11_count_88 rfl rfl ?_
    obtain ⟨h1, h⟩ := h
    refine z_getR (ci := 12) (kf := 8) (pc' := 92) dX11_count_89 kX11_62 (Or.inl rfl) (by decide) (by decide) rfl rfl h1 ?_
    obtain ⟨h1, h⟩ := h
    refine z_getI (ci := 7) (kf := 6) (pc' := 95) dX11_count_92 kX11_83 (Or.inl rfl) (by decide) (by decide) rfl rfl h1 ?_
    exact z_iret dX11_count_95 rfl h
  have h := h.2
  by_cases hc1 : x1 = 1
  · have h := h.1 hc1
    refine z_tableIn (off := 95) (pt := 96) dX11_count_1 (by rw [hc1]; decide) (by rw [hc1]; decide) (by rw [hc1]; decide) (by decide) ?_
    refine z_aload_n (pc' := 97) dX11_count_96 rfl rfl ?_
    obtain ⟨h1, h⟩ := h
    refine z_getR (ci := 12) (kf := 5) (pc' := 100) dX11_count_97 kX11_39 (Or.inl rfl) (by decide) (by decide) rfl rfl h1 ?_
    obtain ⟨h1, h⟩ := h
    refine z_getR (ci := 8) (kf := 0) (pc' := 103) dX11_count_100 kX11_123 (Or.inl rfl) (by decide) (by decide) rfl rfl h1 ?_
    obtain ⟨h1, h⟩ := h
    obtain ⟨d1, b1, Qz, hm, hdd, hb, hkx, hk⟩ := h
    refine z_callV (Y := mJx4a65c_size_8abf5) (n := 0) (as := []) (st := []) (pc' := 106) (ci := 0) (q := (zrv G (zrv G q0 5) 0)) hm dX11_count_103 kX11_97 vJx4a65c_size_8abf5 rfl rfl (by decide) rfl h1 hdd hb (Nat.le_of_ble_eq_true rfl) (fun r G2 hz => ?_) hkx
    obtain ⟨y1, rfl, h⟩ := hk r G2 hz
    exact z_iret dX11_count_106 rfl h
  have h := h.2
  by_cases hc2 : x1 = 2
  · have h := h.1 hc2
    refine z_tableIn (off := 106) (pt := 107) dX11_count_1 (by rw [hc2]; decide) (by rw [hc2]; decide) (by rw [hc2]; decide) (by decide) ?_
    refine z_aload_n (pc' := 108) dX11_count_107 rfl rfl ?_
    obtain ⟨h1, h⟩ := h
    refine z_getR (ci := 12) (kf := 3) (pc' := 111) dX11_count_108 kX11_23 (Or.inl rfl) (by decide) (by decide) rfl rfl h1 ?_
    obtain ⟨h1, h⟩ := h
    obtain ⟨d1, b1, Qz, hm, hdd, hb, hkx, hk⟩ := h
    refine z_callV (Y := mJx4a65c_size_8abf5) (n := 0) (as := []) (st := []) (pc' := 114) (ci := 0) (q := (zrv G q0 3)) hm dX11_count_111 kX11_97 vJx4a65c_size_8abf5 rfl rfl (by decide) rfl h1 hdd hb (Nat.le_of_ble_eq_true rfl) (fun r G5 hz => ?_) hkx
    obtain ⟨y4, rfl, h⟩ := hk r G5 hz
    exact z_iret dX11_count_114 rfl h
  have h := h.2
  by_cases hc3 : x1 = 3
  · have h := h.1 hc3
    refine z_tableIn (off := 114) (pt := 115) dX11_count_1 (by rw [hc3]; decide) (by rw [hc3]; decide) (by rw [hc3]; decide) (by decide) ?_
    refine z_aload_n (pc' := 116) dX11_count_115 rfl rfl ?_
    obtain ⟨h1, h⟩ := h
    refine z_getR (ci := 12) (kf := 8) (pc' := 119) dX11_count_116 kX11_62 (Or.inl rfl) (by decide) (by decide) rfl rfl h1 ?_
    obtain ⟨h1, h⟩ := h
    refine z_getR (ci := 7) (kf := 3) (pc' := 122) dX11_count_119 kX11_223 (Or.inl rfl) (by decide) (by decide) rfl rfl h1 ?_
    obtain ⟨h1, h⟩ := h
    obtain ⟨d1, b1, Qz, hm, hdd, hb, hkx, hk⟩ := h
    refine z_callV (Y := mJx4a65c_size_8abf5) (n := 0) (as := []) (st := []) (pc' := 125) (ci := 0) (q := (zrv G (zrv G q0 8) 3)) hm dX11_count_122 kX11_97 vJx4a65c_size_8abf5 rfl rfl (by decide) rfl h1 hdd hb (Nat.le_of_ble_eq_true rfl) (fun r G8 hz => ?_) hkx
    obtain ⟨y7, rfl, h⟩ := hk r G8 hz
    exact z_iret dX11_count_125 rfl h
  have h := h.2
  by_cases hc4 : x1 = 4
  · have h := h.1 hc4
    refine z_tableIn (off := 125) (pt := 126) dX11_count_1 (by rw [hc4]; decide) (by rw [hc4]; decide) (by rw [hc4]; decide) (by decide) ?_
    refine z_aload_n (pc' := 127) dX11_count_126 rfl rfl ?_
    obtain ⟨h1, h⟩ := h
    refine z_getR (ci := 12) (kf := 8) (pc' := 130) dX11_count_127 kX11_62 (Or.inl rfl) (by decide) (by decide) rfl rfl h1 ?_
    obtain ⟨h1, h⟩ := h
    obtain ⟨d1, b1, Qz, hm, hdd, hb, hkx, hk⟩ := h
    refine z_callV (Y := mX6_countOpen) (n := 0) (as := []) (st := []) (pc' := 133) (ci := 7) (q := (zrv G q0 8)) hm dX11_count_130 kX11_403 vX6_countOpen rfl rfl (by decide) rfl h1 hdd hb (Nat.le_of_ble_eq_true rfl) (fun r G11 hz => ?_) hkx
    obtain ⟨y10, rfl, h⟩ := hk r G11 hz
    exact z_iret dX11_count_133 rfl h
  have h := h.2
  by_cases hc5 : x1 = 5
  · have h := h.1 hc5
    refine z_tableIn (off := 133) (pt := 134) dX11_count_1 (by rw [hc5]; decide) (by rw [hc5]; decide) (by rw [hc5]; decide) (by decide) ?_
    refine z_aload_n (pc' := 135) dX11_count_134 rfl rfl ?_
    obtain ⟨h1, h⟩ := h
    refine z_getR (ci := 12) (kf := 8) (pc' := 138) dX11_count_135 kX11_62 (Or.inl rfl) (by decide) (by decide) rfl rfl h1 ?_
    refine z_bipush (x := 7) (pc' := 140) dX11_count_138 (by decide) rfl ?_
    obtain ⟨h1, h⟩ := h
    obtain ⟨d1, b1, Qz, hm, hdd, hb, hkx, hk⟩ := h
    refine z_callV (Y := mX6_countIn) (n := 1) (as := [.int 7]) (st := []) (pc' := 143) (ci := 7) (q := (zrv G q0 8)) hm dX11_count_140 kX11_345 vX6_countIn rfl rfl (by decide) rfl h1 hdd hb (Nat.le_of_ble_eq_true rfl) (fun r G14 hz => ?_) hkx
    obtain ⟨y13, rfl, h⟩ := hk r G14 hz
    exact z_iret dX11_count_143 rfl h
  have h := h.2
  by_cases hc6 : x1 = 6
  · have h := h.1 hc6
    refine z_tableIn (off := 143) (pt := 144) dX11_count_1 (by rw [hc6]; decide) (by rw [hc6]; decide) (by rw [hc6]; decide) (by decide) ?_
    refine z_aload_n (pc' := 145) dX11_count_144 rfl rfl ?_
    obtain ⟨h1, h⟩ := h
    refine z_getR (ci := 12) (kf := 8) (pc' := 148) dX11_count_145 kX11_62 (Or.inl rfl) (by decide) (by decide) rfl rfl h1 ?_
    refine z_iconst (x := 3) (pc' := 149) dX11_count_148 (by decide) rfl ?_
    obtain ⟨h1, h⟩ := h
    obtain ⟨d1, b1, Qz, hm, hdd, hb, hkx, hk⟩ := h
    refine z_callV (Y := mX6_countIn) (n := 1) (as := [.int 3]) (st := []) (pc' := 152) (ci := 7) (q := (zrv G q0 8)) hm dX11_count_149 kX11_345 vX6_countIn rfl rfl (by decide) rfl h1 hdd hb (Nat.le_of_ble_eq_true rfl) (fun r G17 hz => ?_) hkx
    obtain ⟨y16, rfl, h⟩ := hk r G17 hz
    exact z_iret dX11_count_152 rfl h
  have h := h.2
  by_cases hc7 : x1 = 7
  · have h := h.1 hc7
    refine z_tableIn (off := 152) (pt := 153) dX11_count_1 (by rw [hc7]; decide) (by rw [hc7]; decide) (by rw [hc7]; decide) (by decide) ?_
    refine z_aload_n (pc' := 154) dX11_count_153 rfl rfl ?_
    obtain ⟨h1, h⟩ := h
    refine z_getR (ci := 12) (kf := 8) (pc' := 157) dX11_count_154 kX11_62 (Or.inl rfl) (by decide) (by decide) rfl rfl h1 ?_
    obtain ⟨h1, h⟩ := h
    refine z_getI (ci := 7) (kf := 5) (pc' := 160) dX11_count_157 kX11_406 (Or.inl rfl) (by decide) (by decide) rfl rfl h1 ?_
    exact z_iret dX11_count_160 rfl h
  have h := h.2
  by_cases hc8 : x1 = 8
  · have h := h.1 hc8
    refine z_tableIn (off := 160) (pt := 161) dX11_count_1 (by rw [hc8]; decide) (by rw [hc8]; decide) (by rw [hc8]; decide) (by decide) ?_
    refine z_aload_n (pc' := 162) dX11_count_161 rfl rfl ?_
    obtain ⟨h1, h⟩ := h
    refine z_getR (ci := 12) (kf := 8) (pc' := 165) dX11_count_162 kX11_62 (Or.inl rfl) (by decide) (by decide) rfl rfl h1 ?_
    obtain ⟨h1, h⟩ := h
    refine z_getI (ci := 7) (kf := 8) (pc' := 168) dX11_count_165 kX11_330 (Or.inl rfl) (by decide) (by decide) rfl rfl h1 ?_
    exact z_iret dX11_count_168 rfl h
  have h := h.2
  by_cases hc9 : x1 = 9
  · have h := h.1 hc9
    refine z_tableIn (off := 168) (pt := 169) dX11_count_1 (by rw [hc9]; decide) (by rw [hc9]; decide) (by rw [hc9]; decide) (by decide) ?_
    refine z_aload_n (pc' := 170) dX11_count_169 rfl rfl ?_
    obtain ⟨h1, h⟩ := h
    refine z_getR (ci := 12) (kf := 8) (pc' := 173) dX11_count_170 kX11_62 (Or.inl rfl) (by decide) (by decide) rfl rfl h1 ?_
    obtain ⟨h1, h⟩ := h
    refine z_getI (ci := 7) (kf := 9) (pc' := 176) dX11_count_173 kX11_232 (Or.inl rfl) (by decide) (by decide) rfl rfl h1 ?_
    exact z_iret dX11_count_176 rfl h
  have h := h.2
  by_cases hc10 : x1 = 10
  · have h := h.1 hc10
    refine z_tableIn (off := 176) (pt := 177) dX11_count_1 (by rw [hc10]; decide) (by rw [hc10]; decide) (by rw [hc10]; decide) (by decide) ?_
    refine z_aload_n (pc' := 178) dX11_count_177 rfl rfl ?_
    obtain ⟨h1, h⟩ := h
    refine z_getR (ci := 12) (kf := 8) (pc' := 181) dX11_count_178 kX11_62 (Or.inl rfl) (by decide) (by decide) rfl rfl h1 ?_
    obtain ⟨h1, h⟩ := h
    refine z_getI (ci := 7) (kf := 10) (pc' := 184) dX11_count_181 kX11_409 (Or.inl rfl) (by decide) (by decide) rfl rfl h1 ?_
    exact z_iret dX11_count_184 rfl h
  have h := h.2
  by_cases hc11 : x1 = 11
  · have h := h.1 hc11
    refine z_tableIn (off := 184) (pt := 185) dX11_count_1 (by rw [hc11]; decide) (by rw [hc11]; decide) (by rw [hc11]; decide) (by decide) ?_
    refine z_aload_n (pc' := 186) dX11_count_185 rfl rfl ?_
    obtain ⟨h1, h⟩ := h
    refine z_getR (ci := 12) (kf := 8) (pc' := 189) dX11_count_186 kX11_62 (Or.inl rfl) (by decide) (by decide) rfl rfl h1 ?_
    obtain ⟨h1, h⟩ := h
    refine z_getI (ci := 7) (kf := 11) (pc' := 192) dX11_count_189 kX11_412 (Or.inl rfl) (by decide) (by decide) rfl rfl h1 ?_
    exact z_iret dX11_count_192 rfl h
  have h := h.2
  by_cases hc12 : x1 = 12
  · have h := h.1 hc12
    refine z_tableIn (off := 192) (pt := 193) dX11_count_1 (by rw [hc12]; decide) (by rw [hc12]; decide) (by rw [hc12]; decide) (by decide) ?_
    refine z_aload_n (pc' := 194) dX11_count_193 rfl rfl ?_
    obtain ⟨h1, h⟩ := h
    refine z_getR (ci := 12) (kf := 8) (pc' := 197) dX11_count_194 kX11_62 (Or.inl rfl) (by decide) (by decide) rfl rfl h1 ?_
    obtain ⟨h1, h⟩ := h
    refine z_getI (ci := 7) (kf := 12) (pc' := 200) dX11_count_197 kX11_415 (Or.inl rfl) (by decide) (by decide) rfl rfl h1 ?_
    exact z_iret dX11_count_200 rfl h
  have h := h.2
  by_cases hc13 : x1 = 13
  · have h := h.1 hc13
    refine z_tableIn (off := 200) (pt := 201) dX11_count_1 (by rw [hc13]; decide) (by rw [hc13]; decide) (by rw [hc13]; decide) (by decide) ?_
    refine z_aload_n (pc' := 202) dX11_count_201 rfl rfl ?_
    obtain ⟨h1, h⟩ := h
    refine z_getR (ci := 12) (kf := 6) (pc' := 205) dX11_count_202 kX11_46 (Or.inl rfl) (by decide) (by decide) rfl rfl h1 ?_
    obtain ⟨h1, h⟩ := h
    refine z_getR (ci := 3) (kf := 0) (pc' := 208) dX11_count_205 kX11_298 (Or.inl rfl) (by decide) (by decide) rfl rfl h1 ?_
    obtain ⟨h1, h⟩ := h
    obtain ⟨d1, b1, Qz, hm, hdd, hb, hkx, hk⟩ := h
    refine z_callV (Y := mJx4a65c_size_8abf5) (n := 0) (as := []) (st := []) (pc' := 211) (ci := 0) (q := (zrv G (zrv G q0 6) 0)) hm dX11_count_208 kX11_97 vJx4a65c_size_8abf5 rfl rfl (by decide) rfl h1 hdd hb (Nat.le_of_ble_eq_true rfl) (fun r G20 hz => ?_) hkx
    obtain ⟨y19, rfl, h⟩ := hk r G20 hz
    exact z_iret dX11_count_211 rfl h
  have h := h.2
  by_cases hc14 : x1 = 14
  · have h := h.1 hc14
    refine z_tableIn (off := 211) (pt := 212) dX11_count_1 (by rw [hc14]; decide) (by rw [hc14]; decide) (by rw [hc14]; decide) (by decide) ?_
    refine z_aload_n (pc' := 213) dX11_count_212 rfl rfl ?_
    obtain ⟨h1, h⟩ := h
    refine z_getR (ci := 12) (kf := 8) (pc' := 216) dX11_count_213 kX11_62 (Or.inl rfl) (by decide) (by decide) rfl rfl h1 ?_
    obtain ⟨h1, h⟩ := h
    refine z_getI (ci := 7) (kf := 13) (pc' := 219) dX11_count_216 kX11_418 (Or.inl rfl) (by decide) (by decide) rfl rfl h1 ?_
    exact z_iret dX11_count_219 rfl h
  have h := h.2
  by_cases hc15 : x1 = 15
  · have h := h.1 hc15
    refine z_tableIn (off := 219) (pt := 220) dX11_count_1 (by rw [hc15]; decide) (by rw [hc15]; decide) (by rw [hc15]; decide) (by decide) ?_
    refine z_aload_n (pc' := 221) dX11_count_220 rfl rfl ?_
    obtain ⟨h1, h⟩ := h
    obtain ⟨d1, b1, Qz, hm, hdd, hb, hkx, hk⟩ := h
    refine z_callV (Y := mX11_lawOfToday) (n := 0) (as := []) (st := []) (pc' := 224) (ci := 12) (q := q0) hm dX11_count_221 kX11_176 vX11_lawOfToday rfl rfl (by decide) rfl h1 hdd hb (Nat.le_of_ble_eq_true rfl) (fun r G23 hz => ?_) hkx
    obtain ⟨y22, rfl, h⟩ := hk r G23 hz
    obtain ⟨h1, h⟩ := h
    refine z_getI (ci := 4) (kf := 1) (pc' := 227) dX11_count_224 kX11_108 (Or.inl rfl) (by decide) (by decide) rfl rfl h1 ?_
    exact z_iret dX11_count_227 rfl h
  have h := h.2
  by_cases hc16 : x1 = 16
  · have h := h.1 hc16
    refine z_tableIn (off := 227) (pt := 228) dX11_count_1 (by rw [hc16]; decide) (by rw [hc16]; decide) (by rw [hc16]; decide) (by decide) ?_
    refine z_aload_n (pc' := 229) dX11_count_228 rfl rfl ?_
    obtain ⟨h1, h⟩ := h
    refine z_getR (ci := 12) (kf := 8) (pc' := 232) dX11_count_229 kX11_62 (Or.inl rfl) (by decide) (by decide) rfl rfl h1 ?_
    refine z_bipush (x := 9) (pc' := 234) dX11_count_232 (by decide) rfl ?_
    obtain ⟨h1, h⟩ := h
    obtain ⟨d1, b1, Qz, hm, hdd, hb, hkx, hk⟩ := h
    refine z_callV (Y := mX6_countIn) (n := 1) (as := [.int 9]) (st := []) (pc' := 237) (ci := 7) (q := (zrv G q0 8)) hm dX11_count_234 kX11_345 vX6_countIn rfl rfl (by decide) rfl h1 hdd hb (Nat.le_of_ble_eq_true rfl) (fun r G26 hz => ?_) hkx
    obtain ⟨y25, rfl, h⟩ := hk r G26 hz
    exact z_iret dX11_count_237 rfl h
  have h := h.2
  by_cases hc17 : x1 = 17
  · have h := h.1 hc17
    refine z_tableIn (off := 237) (pt := 238) dX11_count_1 (by rw [hc17]; decide) (by rw [hc17]; decide) (by rw [hc17]; decide) (by decide) ?_
    refine z_aload_n (pc' := 239) dX11_count_238 rfl rfl ?_
    obtain ⟨h1, h⟩ := h
    refine z_getR (ci := 12) (kf := 8) (pc' := 242) dX11_count_239 kX11_62 (Or.inl rfl) (by decide) (by decide) rfl rfl h1 ?_
    refine z_bipush (x := 8) (pc' := 244) dX11_count_242 (by decide) rfl ?_
    obtain ⟨h1, h⟩ := h
    obtain ⟨d1, b1, Qz, hm, hdd, hb, hkx, hk⟩ := h
    refine z_callV (Y := mX6_countIn) (n := 1) (as := [.int 8]) (st := []) (pc' := 247) (ci := 7) (q := (zrv G q0 8)) hm dX11_count_244 kX11_345 vX6_countIn rfl rfl (by decide) rfl h1 hdd hb (Nat.le_of_ble_eq_true rfl) (fun r G29 hz => ?_) hkx
    obtain ⟨y28, rfl, h⟩ := hk r G29 hz
    exact z_iret dX11_count_247 rfl h
  have h := h.2
  have h := h hc0 hc1 hc2 hc3 hc4 hc5 hc6 hc7 hc8 hc9 hc10 hc11 hc12 hc13 hc14 hc15 hc16 hc17
  refine z_tableOut (pt := 248) dX11_count_1 (by have e0 := lv_neT (a := 0) hc0 (by decide); have e1 := lv_neT (a := 1) hc1 (by decide); have e2 := lv_neT (a := 2) hc2 (by decide); have e3 := lv_neT (a := 3) hc3 (by decide); have e4 := lv_neT (a := 4) hc4 (by decide); have e5 := lv_neT (a := 5) hc5 (by decide); have e6 := lv_neT (a := 6) hc6 (by decide); have e7 := lv_neT (a := 7) hc7 (by decide); have e8 := lv_neT (a := 8) hc8 (by decide); have e9 := lv_neT (a := 9) hc9 (by decide); have e10 := lv_neT (a := 10) hc10 (by decide); have e11 := lv_neT (a := 11) hc11 (by decide); have e12 := lv_neT (a := 12) hc12 (by decide); have e13 := lv_neT (a := 13) hc13 (by decide); have e14 := lv_neT (a := 14) hc14 (by decide); have e15 := lv_neT (a := 15) hc15 (by decide); have e16 := lv_neT (a := 16) hc16 (by decide); have e17 := lv_neT (a := 17) hc17 (by decide); omega) (by decide) ?_
  refine z_iconst (x := (-1)) (pc' := 249) dX11_count_248 (by decide) rfl ?_
  exact z_iret dX11_count_249 rfl h
def wp_X11_days_0 (E : ZE) (l : Launch) (d b : Nat) (G0 : ZG) (Q : ZQ) (k : Nat) (q0 : Nat) (x1 : Int32) (G : ZG) : Prop :=
  ((x1 < 0 →
    xcV E l mX11_demand d [.int 0] G k (fun X G9 => Q (.inr X) G9) (fun G1 k2 =>
    zW E l mX11_days d b G0 Q k2 20 [some (.ref q0), some (.int x1), some (.int 0)] [] G1)) ∧
  (¬ (x1 < 0) →
    ((60 < x1 →
      xcV E l mX11_demand d [.int 0] G k (fun X G9 => Q (.inr X) G9) (fun G3 k4 =>
      zW E l mX11_days d b G0 Q k4 20 [some (.ref q0), some (.int x1), some (.int 0)] [] G3)) ∧
    (¬ (60 < x1) →
      xcV E l mX11_demand d [.int 1] G k (fun X G9 => Q (.inr X) G9) (fun G5 k6 =>
      zW E l mX11_days d b G0 Q k6 20 [some (.ref q0), some (.int x1), some (.int 0)] [] G5)))))
theorem wpt_X11_days_0 {E : ZE} {l : Launch} {d b : Nat} {G0 : ZG} {Q : ZQ} {k : Nat} {q0 : Nat} {x1 : Int32} {G : ZG} (h : wp_X11_days_0 E l d b G0 Q k q0 x1 G) : zW E l mX11_days d b G0 Q k 0 [some (.ref q0), some (.int x1), none] [] G := by
  unfold wp_X11_days_0 at h
  refine z_iload_n (pc' := 1) dX11_days_0 rfl rfl ?_
  refine z_if_lt (pt := 14) (pc' := 4) dX11_days_1 (by decide) rfl (fun hc => ?_) (fun hc => ?_)
  · have h := h.1 hc
    refine z_iconst (x := 0) (pc' := 15) dX11_days_14 (by decide) rfl ?_
    obtain ⟨d1, b1, Qz, hm, hdd, hb, hkx, hk⟩ := h
    refine z_callS (Y := mX11_demand) (n := 1) (as := [.int 0]) (st := []) (pc' := 18) hm dX11_days_15 kX11_86 sX11_demand rfl rfl hdd hb (Nat.le_of_ble_eq_true rfl) (fun r G1 hz => ?_) hkx
    obtain ⟨rfl, h⟩ := hk r G1 hz
    refine z_iconst (x := 0) (pc' := 19) dX11_days_18 (by decide) rfl ?_
    refine z_istore_n (pc' := 20) dX11_days_19 (by decide) rfl ?_
    exact z_dr (ls' := [some (.ref q0), some (.int x1), some (.int 0)]) ⟨rfl, rfl, rfl, trivial⟩ h
  · have h := h.2 hc
    refine z_iload_n (pc' := 5) dX11_days_4 rfl rfl ?_
    refine z_bipush (x := 60) (pc' := 7) dX11_days_5 (by decide) rfl ?_
    refine z_icmp_gt (pt := 14) (pc' := 10) dX11_days_7 (by decide) rfl (fun hc => ?_) (fun hc => ?_)
    · have h := h.1 hc
      refine z_iconst (x := 0) (pc' := 15) dX11_days_14 (by decide) rfl ?_
      obtain ⟨d1, b1, Qz, hm, hdd, hb, hkx, hk⟩ := h
      refine z_callS (Y := mX11_demand) (n := 1) (as := [.int 0]) (st := []) (pc' := 18) hm dX11_days_15 kX11_86 sX11_demand rfl rfl hdd hb (Nat.le_of_ble_eq_true rfl) (fun r G3 hz => ?_) hkx
      obtain ⟨rfl, h⟩ := hk r G3 hz
      refine z_iconst (x := 0) (pc' := 19) dX11_days_18 (by decide) rfl ?_
      refine z_istore_n (pc' := 20) dX11_days_19 (by decide) rfl ?_
      exact z_dr (ls' := [some (.ref q0), some (.int x1), some (.int 0)]) ⟨rfl, rfl, rfl, trivial⟩ h
    · have h := h.2 hc
      refine z_iconst (x := 1) (pc' := 11) dX11_days_10 (by decide) rfl ?_
      refine z_goto (pc' := 15) dX11_days_11 (by decide) ?_
      obtain ⟨d1, b1, Qz, hm, hdd, hb, hkx, hk⟩ := h
      refine z_callS (Y := mX11_demand) (n := 1) (as := [.int 1]) (st := []) (pc' := 18) hm dX11_days_15 kX11_86 sX11_demand rfl rfl hdd hb (Nat.le_of_ble_eq_true rfl) (fun r G5 hz => ?_) hkx
      obtain ⟨rfl, h⟩ := hk r G5 hz
      refine z_iconst (x := 0) (pc' := 19) dX11_days_18 (by decide) rfl ?_
      refine z_istore_n (pc' := 20) dX11_days_19 (by decide) rfl ?_
      exact z_dr (ls' := [some (.ref q0), some (.int x1), some (.int 0)]) ⟨rfl, rfl, rfl, trivial⟩ h
def wp_X11_days_20 (E : ZE) (l : Launch) (d b : Nat) (G0 : ZG) (Q : ZQ) (k : Nat) (q0 : Nat) (x1 : Int32) (x2 : Int32) (G : ZG) : Prop :=
  ((x1 ≤ x2 →
    zob G q0 12 ∧
    zob G (zrv G q0 8) 7 ∧
    Q (.inl (some (.int (ziv G (zrv G q0 8) 6)))) G) ∧
  (¬ (x1 ≤ x2) →
    zob G q0 12 ∧
    zob G (zrv G q0 8) 7 ∧
    ((1000 ≤ (ziv G (zrv G q0 8) 6) →
      zob G q0 12 ∧
      zob G (zrv G q0 8) 7 ∧
      Q (.inl (some (.int (ziv G (zrv G q0 8) 6)))) G) ∧
    (¬ (1000 ≤ (ziv G (zrv G q0 8) 6)) →
      zob G q0 12 ∧
      zob G (zrv G q0 8) 7 ∧
      xcV E l mX6_passDay d [.ref (zrv G q0 8)] G k (fun X G9 => Q (.inr X) G9) (fun G1 k2 =>
      zW E l mX11_days d b G0 Q k2 20 [some (.ref q0), some (.int x1), some (.int (x2 + 1))] [] G1)))))
theorem wpt_X11_days_20 {E : ZE} {l : Launch} {d b : Nat} {G0 : ZG} {Q : ZQ} {k : Nat} {q0 : Nat} {x1 : Int32} {x2 : Int32} {G : ZG} (h : wp_X11_days_20 E l d b G0 Q k q0 x1 x2 G) : zW E l mX11_days d b G0 Q k 20 [some (.ref q0), some (.int x1), some (.int x2)] [] G := by
  unfold wp_X11_days_20 at h
  refine z_iload_n (pc' := 21) dX11_days_20 rfl rfl ?_
  refine z_iload_n (pc' := 22) dX11_days_21 rfl rfl ?_
  refine z_icmp_ge (pt := 51) (pc' := 25) dX11_days_22 (by decide) rfl (fun hc => ?_) (fun hc => ?_)
  · have h := h.1 hc
    refine z_aload_n (pc' := 52) dX11_days_51 rfl rfl ?_
    obtain ⟨h1, h⟩ := h
    refine z_getR (ci := 12) (kf := 8) (pc' := 55) dX11_days_52 kX11_62 (Or.inl rfl) (by decide) (by decide) rfl rfl h1 ?_
    obtain ⟨h1, h⟩ := h
    refine z_getI (ci := 7) (kf := 6) (pc' := 58) dX11_days_55 kX11_83 (Or.inl rfl) (by decide) (by decide) rfl rfl h1 ?_
    exact z_iret dX11_days_58 rfl h
  · have h := h.2 hc
    refine z_aload_n (pc' := 26) dX11_days_25 rfl rfl ?_
    obtain ⟨h1, h⟩ := h
    refine z_getR (ci := 12) (kf := 8) (pc' := 29) dX11_days_26 kX11_62 (Or.inl rfl) (by decide) (by decide) rfl rfl h1 ?_
    obtain ⟨h1, h⟩ := h
    refine z_getI (ci := 7) (kf := 6) (pc' := 32) dX11_days_29 kX11_83 (Or.inl rfl) (by decide) (by decide) rfl rfl h1 ?_
    refine z_sipush (x := 1000) (pc' := 35) dX11_days_32 (by decide) rfl ?_
    refine z_icmp_ge (pt := 51) (pc' := 38) dX11_days_35 (by decide) rfl (fun hc => ?_) (fun hc => ?_)
    · have h := h.1 hc
      refine z_aload_n (pc' := 52) dX11_days_51 rfl rfl ?_
      obtain ⟨h1, h⟩ := h
      refine z_getR (ci := 12) (kf := 8) (pc' := 55) dX11_days_52 kX11_62 (Or.inl rfl) (by decide) (by decide) rfl rfl h1 ?_
      obtain ⟨h1, h⟩ := h
      refine z_getI (ci := 7) (kf := 6) (pc' := 58) dX11_days_55 kX11_83 (Or.inl rfl) (by decide) (by decide) rfl rfl h1 ?_
      exact z_iret dX11_days_58 rfl h
    · have h := h.2 hc
      refine z_aload_n (pc' := 39) dX11_days_38 rfl rfl ?_
      obtain ⟨h1, h⟩ := h
      refine z_getR (ci := 12) (kf := 8) (pc' := 42) dX11_days_39 kX11_62 (Or.inl rfl) (by decide) (by decide) rfl rfl h1 ?_
      obtain ⟨h1, h⟩ := h
      obtain ⟨d1, b1, Qz, hm, hdd, hb, hkx, hk⟩ := h
      refine z_callV (Y := mX6_passDay) (n := 0) (as := []) (st := []) (pc' := 45) (ci := 7) (q := (zrv G q0 8)) hm dX11_days_42 kX11_339 vX6_passDay rfl rfl (by decide) rfl h1 hdd hb (Nat.le_of_ble_eq_true rfl) (fun r G1 hz => ?_) hkx
      obtain ⟨rfl, h⟩ := hk r G1 hz
      refine z_iinc (y := x2 + 1) (pc' := 48) dX11_days_45 rfl (zinc_1 _) (by decide) rfl ?_
      refine z_goto (pc' := 20) dX11_days_48 (by decide) ?_
      exact z_dr (ls' := [some (.ref q0), some (.int x1), some (.int (x2 + 1))]) ⟨rfl, rfl, rfl, trivial⟩ h
def wp_X11_demand_0 (E : ZE) (l : Launch) (d b : Nat) (G0 : ZG) (Q : ZQ) (k : Nat) (x0 : Int32) (G : ZG) : Prop :=
  ((¬ x0 = 0 →
    Q (.inl none) G) ∧
  (¬ (¬ x0 = 0) →
    7 ≤ k ∧ 6 ≤ d ∧ Q (.inr "java/lang/IllegalArgumentException") G))
theorem wpt_X11_demand_0 {E : ZE} {l : Launch} {d b : Nat} {G0 : ZG} {Q : ZQ} {k : Nat} {x0 : Int32} {G : ZG} (htr : l.stackTraces = false) (h : wp_X11_demand_0 E l d b G0 Q k x0 G) : zW E l mX11_demand d b G0 Q k 0 [some (.int x0)] [] G := by
  unfold wp_X11_demand_0 at h
  refine z_iload_n (pc' := 1) dX11_demand_0 rfl rfl ?_
  refine z_if_ne (pt := 12) (pc' := 4) dX11_demand_1 (by decide) rfl (fun hc => ?_) (fun hc => ?_)
  · have h := h.1 hc
    exact z_vret dX11_demand_12 rfl h
  · have h := h.2 hc
    exact z_throw (names := ["java/lang/RuntimeException", "java/lang/Exception"]) htr dX11_demand_4 dX11_demand_7 dX11_demand_8 dX11_demand_11 rfl (by decide) kX11_421 x_IllegalArgumentException h.2.1 (by decide) (Nat.le_of_ble_eq_true rfl) h.1 tX11_423 h.2.2
def wp_X11_end_0 (E : ZE) (l : Launch) (d b : Nat) (G0 : ZG) (Q : ZQ) (k : Nat) (q0 : Nat) (x1 : Int32) (G : ZG) : Prop :=
  ((x1 < 0 →
    Q (.inl (some (.int 0))) G) ∧
  (¬ (x1 < 0) →
    zob G q0 12 ∧
    ((x1 ≤ (ziv G q0 1) →
      zob G q0 12 ∧
      ∀ G1, G1 = zsi G q0 1 x1 →
      Q (.inl (some (.int 1))) G1) ∧
    (¬ (x1 ≤ (ziv G q0 1)) →
      Q (.inl (some (.int 0))) G))))
theorem wpt_X11_end_0 {E : ZE} {l : Launch} {d b : Nat} {G0 : ZG} {Q : ZQ} {k : Nat} {q0 : Nat} {x1 : Int32} {G : ZG} (h : wp_X11_end_0 E l d b G0 Q k q0 x1 G) : zW E l mX11_end d b G0 Q k 0 [some (.ref q0), some (.int x1)] [] G := by
  unfold wp_X11_end_0 at h
  refine z_iload_n (pc' := 1) dX11_end_0 rfl rfl ?_
  refine z_if_lt (pt := 12) (pc' := 4) dX11_end_1 (by decide) rfl (fun hc => ?_) (fun hc => ?_)
  · have h := h.1 hc
    refine z_iconst (x := 0) (pc' := 13) dX11_end_12 (by decide) rfl ?_
    exact z_zret (ty := .boolean) dX11_end_13 rfl (by decide) h
  · have h := h.2 hc
    refine z_iload_n (pc' := 5) dX11_end_4 rfl rfl ?_
    refine z_aload_n (pc' := 6) dX11_end_5 rfl rfl ?_
    obtain ⟨h1, h⟩ := h
    refine z_getI (ci := 12) (kf := 1) (pc' := 9) dX11_end_6 kX11_13 (Or.inl rfl) (by decide) (by decide) rfl rfl h1 ?_
    refine z_icmp_le (pt := 14) (pc' := 12) dX11_end_9 (by decide) rfl (fun hc => ?_) (fun hc => ?_)
    · have h := h.1 hc
      refine z_aload_n (pc' := 15) dX11_end_14 rfl rfl ?_
      refine z_iload_n (pc' := 16) dX11_end_15 rfl rfl ?_
      obtain ⟨h1, h⟩ := h
      obtain ⟨G1, hG⟩ : ∃ z, z = zsi G q0 1 x1 := ⟨_, rfl⟩
      have h := h _ hG
      refine z_putI (ci := 12) (kf := 1) (pc' := 19) dX11_end_16 kX11_13 (Or.inl rfl) (by decide) (by decide) rfl (Or.inl rfl) rfl h1 (zok_int _) ?_
      refine z_st hG ?_
      refine z_iconst (x := 1) (pc' := 20) dX11_end_19 (by decide) rfl ?_
      exact z_zret (ty := .boolean) dX11_end_20 rfl (by decide) h
    · have h := h.2 hc
      refine z_iconst (x := 0) (pc' := 13) dX11_end_12 (by decide) rfl ?_
      exact z_zret (ty := .boolean) dX11_end_13 rfl (by decide) h
def wp_X11_ends_0 (E : ZE) (l : Launch) (d b : Nat) (G0 : ZG) (Q : ZQ) (k : Nat) (q0 : Nat) (x1 : Int32) (x2 : Int32) (G : ZG) : Prop :=
  zob G q0 12 ∧
  zob G (zrv G q0 8) 7 ∧
  xcI E l mX6_countEnds d [.ref (zrv G q0 8), .int x1, .int x2] G k (fun X G9 => Q (.inr X) G9) (fun y1 G2 k3 =>
  Q (.inl (some (.int y1))) G2)
theorem wpt_X11_ends_0 {E : ZE} {l : Launch} {d b : Nat} {G0 : ZG} {Q : ZQ} {k : Nat} {q0 : Nat} {x1 : Int32} {x2 : Int32} {G : ZG} (h : wp_X11_ends_0 E l d b G0 Q k q0 x1 x2 G) : zW E l mX11_ends d b G0 Q k 0 [some (.ref q0), some (.int x1), some (.int x2)] [] G := by
  unfold wp_X11_ends_0 at h
  refine z_aload_n (pc' := 1) dX11_ends_0 rfl rfl ?_
  obtain ⟨h1, h⟩ := h
  refine z_getR (ci := 12) (kf := 8) (pc' := 4) dX11_ends_1 kX11_62 (Or.inl rfl) (by decide) (by decide) rfl rfl h1 ?_
  refine z_iload_n (pc' := 5) dX11_ends_4 rfl rfl ?_
  refine z_iload_n (pc' := 6) dX11_ends_5 rfl rfl ?_
  obtain ⟨h1, h⟩ := h
  obtain ⟨d1, b1, Qz, hm, hdd, hb, hkx, hk⟩ := h
  refine z_callV (Y := mX6_countEnds) (n := 2) (as := [.int x1, .int x2]) (st := []) (pc' := 9) (ci := 7) (q := (zrv G q0 8)) hm dX11_ends_6 kX11_400 vX6_countEnds rfl rfl (by decide) rfl h1 hdd hb (Nat.le_of_ble_eq_true rfl) (fun r G2 hz => ?_) hkx
  obtain ⟨y1, rfl, h⟩ := hk r G2 hz
  exact z_iret dX11_ends_9 rfl h
def wp_X11_factsOf_0 (E : ZE) (l : Launch) (d b : Nat) (G0 : ZG) (Q : ZQ) (k : Nat) (q0 : Nat) (q1 : Nat) (x2 : Int32) (x3 : Int32) (x4 : Int32) (G : ZG) : Prop :=
  ¬ (9 : Int32) < 0 ∧ (9 : Int32).toNatClampNeg ≤ 67108864 ∧ (9 : Int32).toNatClampNeg + 1 ≤ k ∧ ∃ t1, 1024 ≤ t1 ∧ t1 < 3584 ∧ (t1 - 1024) / 512 = 0 ∧
  ∀ q_2, q_2 = zp t1 (zcn G t1) → ∀ G3, G3 = znw G t1 (9 : Int32).toNatClampNeg → ∀ k4, k4 = k - ((9 : Int32).toNatClampNeg + 1) →
  zob G3 q0 12 ∧
  zob G3 (zrv G3 q0 8) 7 ∧
  zob G3 q1 9 ∧
  zar G3 q_2 0 ∧ vp_in 0 (zln G3 q_2) ∧
  ∀ G5, G5 = zsi G3 q_2 (0 : Int32).toNatClampNeg (((ziv G3 (zrv G3 q0 8) 6) - (ziv G3 q1 1)) / 365) →
  zob G5 q0 12 ∧
  zob G5 (zrv G5 q0 8) 7 ∧
  zar G5 q_2 0 ∧ vp_in 1 (zln G5 q_2) ∧
  ∀ G6, G6 = zsi G5 q_2 (1 : Int32).toNatClampNeg (x3 - (ziv G5 (zrv G5 q0 8) 6)) →
  zob G6 q0 12 ∧
  zob G6 q0 12 ∧
  zob G6 (zrv G6 q0 8) 7 ∧
  zob G6 (zrv G6 q0 8) 7 ∧
  xcI E l mX6_validOf d [.ref (zrv G6 q0 8), .ref q1, .int (ziv G6 (zrv G6 q0 8) 6)] G6 k4 (fun X G9 => Q (.inr X) G9) (fun y7 G8 k9 =>
  zar G8 q_2 0 ∧ vp_in 2 (zln G8 q_2) ∧
  ∀ G10, G10 = zsi G8 q_2 (2 : Int32).toNatClampNeg y7 →
  zob G10 q1 9 ∧
  (((ziv G10 q1 2) = 0 →
    zW E l mX11_factsOf d b G0 Q k9 67 [none, none, some (.int x2), none, some (.int x4), none] [.int 0, .int 3, .ref q_2, .ref q_2] G10) ∧
  (¬ ((ziv G10 q1 2) = 0) →
    zW E l mX11_factsOf d b G0 Q k9 67 [none, none, some (.int x2), none, some (.int x4), none] [.int 1, .int 3, .ref q_2, .ref q_2] G10)))
theorem wpt_X11_factsOf_0 {E : ZE} {l : Launch} {d b : Nat} {G0 : ZG} {Q : ZQ} {k : Nat} {q0 : Nat} {q1 : Nat} {x2 : Int32} {x3 : Int32} {x4 : Int32} {G : ZG} (h : wp_X11_factsOf_0 E l d b G0 Q k q0 q1 x2 x3 x4 G) : zW E l mX11_factsOf d b G0 Q k 0 [some (.ref q0), some (.ref q1), some (.int x2), some (.int x3), some (.int x4), none] [] G := by
  unfold wp_X11_factsOf_0 at h
  refine z_bipush (x := 9) (pc' := 2) dX11_factsOf_0 (by decide) rfl ?_
  obtain ⟨h1, h2, h3, t1, h4, h5, h6, h⟩ := h
  obtain ⟨q_2, hq⟩ : ∃ z, z = zp t1 (zcn G t1) := ⟨_, rfl⟩
  obtain ⟨G3, hG⟩ : ∃ z, z = znw G t1 (9 : Int32).toNatClampNeg := ⟨_, rfl⟩
  have h := h _ hq _ hG _ rfl
  refine z_newa (t := t1) (kd := 0) (pc' := 4) dX11_factsOf_2 rfl (by decide) a_int rfl h4 h5 h6 h1 rfl h2 h3 ?_
  refine z_mk hq hG ?_
  refine z_dup (pc' := 5) dX11_factsOf_4 rfl rfl ?_
  refine z_iconst (x := 0) (pc' := 6) dX11_factsOf_5 (by decide) rfl ?_
  refine z_aload_n (pc' := 7) dX11_factsOf_6 rfl rfl ?_
  obtain ⟨h1, h⟩ := h
  refine z_getR (ci := 12) (kf := 8) (pc' := 10) dX11_factsOf_7 kX11_62 (Or.inl rfl) (by decide) (by decide) rfl rfl h1 ?_
  obtain ⟨h1, h⟩ := h
  refine z_getI (ci := 7) (kf := 6) (pc' := 13) dX11_factsOf_10 kX11_83 (Or.inl rfl) (by decide) (by decide) rfl rfl h1 ?_
  refine z_aload_n (pc' := 14) dX11_factsOf_13 rfl rfl ?_
  obtain ⟨h1, h⟩ := h
  refine z_getI (ci := 9) (kf := 1) (pc' := 17) dX11_factsOf_14 kX11_208 (Or.inl rfl) (by decide) (by decide) rfl rfl h1 ?_
  refine z_isub (pc' := 18) dX11_factsOf_17 rfl rfl ?_
  refine z_sipush (x := 365) (pc' := 21) dX11_factsOf_18 (by decide) rfl ?_
  refine z_idiv (pc' := 22) dX11_factsOf_21 (by decide) rfl rfl ?_
  obtain ⟨h1, h2, h⟩ := h
  obtain ⟨G5, hG⟩ : ∃ z, z = zsi G3 q_2 (0 : Int32).toNatClampNeg (((ziv G3 (zrv G3 q0 8) 6) - (ziv G3 q1 1)) / 365) := ⟨_, rfl⟩
  have h := h _ hG
  refine z_iast (pc' := 23) dX11_factsOf_22 rfl h1 h2  ?_
  refine z_st hG ?_
  refine z_dup (pc' := 24) dX11_factsOf_23 rfl rfl ?_
  refine z_iconst (x := 1) (pc' := 25) dX11_factsOf_24 (by decide) rfl ?_
  refine z_iload_n (pc' := 26) dX11_factsOf_25 rfl rfl ?_
  refine z_aload_n (pc' := 27) dX11_factsOf_26 rfl rfl ?_
  obtain ⟨h1, h⟩ := h
  refine z_getR (ci := 12) (kf := 8) (pc' := 30) dX11_factsOf_27 kX11_62 (Or.inl rfl) (by decide) (by decide) rfl rfl h1 ?_
  obtain ⟨h1, h⟩ := h
  refine z_getI (ci := 7) (kf := 6) (pc' := 33) dX11_factsOf_30 kX11_83 (Or.inl rfl) (by decide) (by decide) rfl rfl h1 ?_
  refine z_isub (pc' := 34) dX11_factsOf_33 rfl rfl ?_
  obtain ⟨h1, h2, h⟩ := h
  obtain ⟨G6, hG⟩ : ∃ z, z = zsi G5 q_2 (1 : Int32).toNatClampNeg (x3 - (ziv G5 (zrv G5 q0 8) 6)) := ⟨_, rfl⟩
  have h := h _ hG
  refine z_iast (pc' := 35) dX11_factsOf_34 rfl h1 h2  ?_
  refine z_st hG ?_
  refine z_dup (pc' := 36) dX11_factsOf_35 rfl rfl ?_
  refine z_iconst (x := 2) (pc' := 37) dX11_factsOf_36 (by decide) rfl ?_
  refine z_aload_n (pc' := 38) dX11_factsOf_37 rfl rfl ?_
  obtain ⟨h1, h⟩ := h
  refine z_getR (ci := 12) (kf := 8) (pc' := 41) dX11_factsOf_38 kX11_62 (Or.inl rfl) (by decide) (by decide) rfl rfl h1 ?_
  refine z_aload_n (pc' := 42) dX11_factsOf_41 rfl rfl ?_
  refine z_aload_n (pc' := 43) dX11_factsOf_42 rfl rfl ?_
  obtain ⟨h1, h⟩ := h
  refine z_getR (ci := 12) (kf := 8) (pc' := 46) dX11_factsOf_43 kX11_62 (Or.inl rfl) (by decide) (by decide) rfl rfl h1 ?_
  obtain ⟨h1, h⟩ := h
  refine z_getI (ci := 7) (kf := 6) (pc' := 49) dX11_factsOf_46 kX11_83 (Or.inl rfl) (by decide) (by decide) rfl rfl h1 ?_
  obtain ⟨h1, h⟩ := h
  obtain ⟨d1, b1, Qz, hm, hdd, hb, hkx, hk⟩ := h
  refine z_callV (Y := mX6_validOf) (n := 2) (as := [.ref q1, .int (ziv G6 (zrv G6 q0 8) 6)]) (st := [.int 2, .ref q_2, .ref q_2]) (pc' := 52) (ci := 7) (q := (zrv G6 q0 8)) hm dX11_factsOf_49 kX11_211 vX6_validOf rfl rfl (by decide) rfl h1 hdd hb (Nat.le_of_ble_eq_true rfl) (fun r G8 hz => ?_) hkx
  obtain ⟨y7, rfl, h⟩ := hk r G8 hz
  obtain ⟨h1, h2, h⟩ := h
  obtain ⟨G10, hG⟩ : ∃ z, z = zsi G8 q_2 (2 : Int32).toNatClampNeg y7 := ⟨_, rfl⟩
  have h := h _ hG
  refine z_iast (pc' := 53) dX11_factsOf_52 rfl h1 h2  ?_
  refine z_st hG ?_
  refine z_dup (pc' := 54) dX11_factsOf_53 rfl rfl ?_
  refine z_iconst (x := 3) (pc' := 55) dX11_factsOf_54 (by decide) rfl ?_
  refine z_aload_n (pc' := 56) dX11_factsOf_55 rfl rfl ?_
  obtain ⟨h1, h⟩ := h
  refine z_getI (ci := 9) (kf := 2) (pc' := 59) dX11_factsOf_56 kX11_215 (Or.inl rfl) (by decide) (by decide) rfl rfl h1 ?_
  refine z_if_eq (pt := 66) (pc' := 62) dX11_factsOf_59 (by decide) rfl (fun hc => ?_) (fun hc => ?_)
  · have h := h.1 hc
    refine z_iconst (x := 0) (pc' := 67) dX11_factsOf_66 (by decide) rfl ?_
    exact z_dr (ls' := [none, none, some (.int x2), none, some (.int x4), none]) ⟨rfl, rfl, trivial⟩ h
  · have h := h.2 hc
    refine z_iconst (x := 1) (pc' := 63) dX11_factsOf_62 (by decide) rfl ?_
    refine z_goto (pc' := 67) dX11_factsOf_63 (by decide) ?_
    exact z_dr (ls' := [none, none, some (.int x2), none, some (.int x4), none]) ⟨rfl, rfl, trivial⟩ h
def wp_X11_factsOf_67 (E : ZE) (l : Launch) (d b : Nat) (G0 : ZG) (Q : ZQ) (k : Nat) (x2 : Int32) (x4 : Int32) (s0 : Int32) (s1 : Int32) (p2 : Nat) (p3 : Nat) (G : ZG) : Prop :=
  zar G p2 0 ∧ vp_in s1 (zln G p2) ∧
  ∀ G1, G1 = zsi G p2 s1.toNatClampNeg s0 →
  ((¬ x2 = 0 →
    zar G1 p3 0 ∧ vp_in 4 (zln G1 p3) ∧
    ∀ G2, G2 = zsi G1 p3 (4 : Int32).toNatClampNeg 0 →
    ((¬ x2 = 1 →
      zW E l mX11_factsOf d b G0 Q k 92 [none, none, some (.int x2), none, some (.int x4), none] [.int 0, .int 5, .ref p3, .ref p3] G2) ∧
    (¬ (¬ x2 = 1) →
      zW E l mX11_factsOf d b G0 Q k 92 [none, none, some (.int x2), none, some (.int x4), none] [.int 1, .int 5, .ref p3, .ref p3] G2))) ∧
  (¬ (¬ x2 = 0) →
    zar G1 p3 0 ∧ vp_in 4 (zln G1 p3) ∧
    ∀ G3, G3 = zsi G1 p3 (4 : Int32).toNatClampNeg 1 →
    ((¬ x2 = 1 →
      zW E l mX11_factsOf d b G0 Q k 92 [none, none, some (.int x2), none, some (.int x4), none] [.int 0, .int 5, .ref p3, .ref p3] G3) ∧
    (¬ (¬ x2 = 1) →
      zW E l mX11_factsOf d b G0 Q k 92 [none, none, some (.int x2), none, some (.int x4), none] [.int 1, .int 5, .ref p3, .ref p3] G3))))
theorem wpt_X11_factsOf_67 {E : ZE} {l : Launch} {d b : Nat} {G0 : ZG} {Q : ZQ} {k : Nat} {x2 : Int32} {x4 : Int32} {s0 : Int32} {s1 : Int32} {p2 : Nat} {p3 : Nat} {G : ZG} (h : wp_X11_factsOf_67 E l d b G0 Q k x2 x4 s0 s1 p2 p3 G) : zW E l mX11_factsOf d b G0 Q k 67 [none, none, some (.int x2), none, some (.int x4), none] [.int s0, .int s1, .ref p2, .ref p3] G := by
  unfold wp_X11_factsOf_67 at h
  obtain ⟨h1, h2, h⟩ := h
  obtain ⟨G1, hG⟩ : ∃ z, z = zsi G p2 s1.toNatClampNeg s0 := ⟨_, rfl⟩
  have h := h _ hG
  refine z_iast (pc' := 68) dX11_factsOf_67 rfl h1 h2  ?_
  refine z_st hG ?_
  refine z_dup (pc' := 69) dX11_factsOf_68 rfl rfl ?_
  refine z_iconst (x := 4) (pc' := 70) dX11_factsOf_69 (by decide) rfl ?_
  refine z_iload_n (pc' := 71) dX11_factsOf_70 rfl rfl ?_
  refine z_if_ne (pt := 78) (pc' := 74) dX11_factsOf_71 (by decide) rfl (fun hc => ?_) (fun hc => ?_)
  · have h := h.1 hc
    refine z_iconst (x := 0) (pc' := 79) dX11_factsOf_78 (by decide) rfl ?_
    obtain ⟨h1, h2, h⟩ := h
    obtain ⟨G2, hG⟩ : ∃ z, z = zsi G1 p3 (4 : Int32).toNatClampNeg 0 := ⟨_, rfl⟩
    have h := h _ hG
    refine z_iast (pc' := 80) dX11_factsOf_79 rfl h1 h2  ?_
    refine z_st hG ?_
    refine z_dup (pc' := 81) dX11_factsOf_80 rfl rfl ?_
    refine z_iconst (x := 5) (pc' := 82) dX11_factsOf_81 (by decide) rfl ?_
    refine z_iload_n (pc' := 83) dX11_factsOf_82 rfl rfl ?_
    refine z_iconst (x := 1) (pc' := 84) dX11_factsOf_83 (by decide) rfl ?_
    refine z_icmp_ne (pt := 91) (pc' := 87) dX11_factsOf_84 (by decide) rfl (fun hc => ?_) (fun hc => ?_)
    · have h := h.1 hc
      refine z_iconst (x := 0) (pc' := 92) dX11_factsOf_91 (by decide) rfl ?_
      exact z_dr (ls' := [none, none, some (.int x2), none, some (.int x4), none]) ⟨rfl, rfl, trivial⟩ h
    · have h := h.2 hc
      refine z_iconst (x := 1) (pc' := 88) dX11_factsOf_87 (by decide) rfl ?_
      refine z_goto (pc' := 92) dX11_factsOf_88 (by decide) ?_
      exact z_dr (ls' := [none, none, some (.int x2), none, some (.int x4), none]) ⟨rfl, rfl, trivial⟩ h
  · have h := h.2 hc
    refine z_iconst (x := 1) (pc' := 75) dX11_factsOf_74 (by decide) rfl ?_
    refine z_goto (pc' := 79) dX11_factsOf_75 (by decide) ?_
    obtain ⟨h1, h2, h⟩ := h
    obtain ⟨G3, hG⟩ : ∃ z, z = zsi G1 p3 (4 : Int32).toNatClampNeg 1 := ⟨_, rfl⟩
    have h := h _ hG
    refine z_iast (pc' := 80) dX11_factsOf_79 rfl h1 h2  ?_
    refine z_st hG ?_
    refine z_dup (pc' := 81) dX11_factsOf_80 rfl rfl ?_
    refine z_iconst (x := 5) (pc' := 82) dX11_factsOf_81 (by decide) rfl ?_
    refine z_iload_n (pc' := 83) dX11_factsOf_82 rfl rfl ?_
    refine z_iconst (x := 1) (pc' := 84) dX11_factsOf_83 (by decide) rfl ?_
    refine z_icmp_ne (pt := 91) (pc' := 87) dX11_factsOf_84 (by decide) rfl (fun hc => ?_) (fun hc => ?_)
    · have h := h.1 hc
      refine z_iconst (x := 0) (pc' := 92) dX11_factsOf_91 (by decide) rfl ?_
      exact z_dr (ls' := [none, none, some (.int x2), none, some (.int x4), none]) ⟨rfl, rfl, trivial⟩ h
    · have h := h.2 hc
      refine z_iconst (x := 1) (pc' := 88) dX11_factsOf_87 (by decide) rfl ?_
      refine z_goto (pc' := 92) dX11_factsOf_88 (by decide) ?_
      exact z_dr (ls' := [none, none, some (.int x2), none, some (.int x4), none]) ⟨rfl, rfl, trivial⟩ h
def wp_X11_factsOf_92 (E : ZE) (l : Launch) (d b : Nat) (G0 : ZG) (Q : ZQ) (k : Nat) (x2 : Int32) (x4 : Int32) (s0 : Int32) (s1 : Int32) (p2 : Nat) (p3 : Nat) (G : ZG) : Prop :=
  zar G p2 0 ∧ vp_in s1 (zln G p2) ∧
  ∀ G1, G1 = zsi G p2 s1.toNatClampNeg s0 →
  ((¬ x2 = 2 →
    zar G1 p3 0 ∧ vp_in 6 (zln G1 p3) ∧
    ∀ G2, G2 = zsi G1 p3 (6 : Int32).toNatClampNeg 0 →
    ((¬ x2 = 3 →
      zW E l mX11_factsOf d b G0 Q k 120 [none, none, none, none, some (.int x4), none] [.int 0, .int 7, .ref p3, .ref p3] G2) ∧
    (¬ (¬ x2 = 3) →
      zW E l mX11_factsOf d b G0 Q k 120 [none, none, none, none, some (.int x4), none] [.int 1, .int 7, .ref p3, .ref p3] G2))) ∧
  (¬ (¬ x2 = 2) →
    zar G1 p3 0 ∧ vp_in 6 (zln G1 p3) ∧
    ∀ G3, G3 = zsi G1 p3 (6 : Int32).toNatClampNeg 1 →
    ((¬ x2 = 3 →
      zW E l mX11_factsOf d b G0 Q k 120 [none, none, none, none, some (.int x4), none] [.int 0, .int 7, .ref p3, .ref p3] G3) ∧
    (¬ (¬ x2 = 3) →
      zW E l mX11_factsOf d b G0 Q k 120 [none, none, none, none, some (.int x4), none] [.int 1, .int 7, .ref p3, .ref p3] G3))))
theorem wpt_X11_factsOf_92 {E : ZE} {l : Launch} {d b : Nat} {G0 : ZG} {Q : ZQ} {k : Nat} {x2 : Int32} {x4 : Int32} {s0 : Int32} {s1 : Int32} {p2 : Nat} {p3 : Nat} {G : ZG} (h : wp_X11_factsOf_92 E l d b G0 Q k x2 x4 s0 s1 p2 p3 G) : zW E l mX11_factsOf d b G0 Q k 92 [none, none, some (.int x2), none, some (.int x4), none] [.int s0, .int s1, .ref p2, .ref p3] G := by
  unfold wp_X11_factsOf_92 at h
  obtain ⟨h1, h2, h⟩ := h
  obtain ⟨G1, hG⟩ : ∃ z, z = zsi G p2 s1.toNatClampNeg s0 := ⟨_, rfl⟩
  have h := h _ hG
  refine z_iast (pc' := 93) dX11_factsOf_92 rfl h1 h2  ?_
  refine z_st hG ?_
  refine z_dup (pc' := 94) dX11_factsOf_93 rfl rfl ?_
  refine z_bipush (x := 6) (pc' := 96) dX11_factsOf_94 (by decide) rfl ?_
  refine z_iload_n (pc' := 97) dX11_factsOf_96 rfl rfl ?_
  refine z_iconst (x := 2) (pc' := 98) dX11_factsOf_97 (by decide) rfl ?_
  refine z_icmp_ne (pt := 105) (pc' := 101) dX11_factsOf_98 (by decide) rfl (fun hc => ?_) (fun hc => ?_)
  · have h := h.1 hc
    refine z_iconst (x := 0) (pc' := 106) dX11_factsOf_105 (by decide) rfl ?_
    obtain ⟨h1, h2, h⟩ := h
    obtain ⟨G2, hG⟩ : ∃ z, z = zsi G1 p3 (6 : Int32).toNatClampNeg 0 := ⟨_, rfl⟩
    have h := h _ hG
    refine z_iast (pc' := 107) dX11_factsOf_106 rfl h1 h2  ?_
    refine z_st hG ?_
    refine z_dup (pc' := 108) dX11_factsOf_107 rfl rfl ?_
    refine z_bipush (x := 7) (pc' := 110) dX11_factsOf_108 (by decide) rfl ?_
    refine z_iload_n (pc' := 111) dX11_factsOf_110 rfl rfl ?_
    refine z_iconst (x := 3) (pc' := 112) dX11_factsOf_111 (by decide) rfl ?_
    refine z_icmp_ne (pt := 119) (pc' := 115) dX11_factsOf_112 (by decide) rfl (fun hc => ?_) (fun hc => ?_)
    · have h := h.1 hc
      refine z_iconst (x := 0) (pc' := 120) dX11_factsOf_119 (by decide) rfl ?_
      exact z_dr (ls' := [none, none, none, none, some (.int x4), none]) ⟨rfl, trivial⟩ h
    · have h := h.2 hc
      refine z_iconst (x := 1) (pc' := 116) dX11_factsOf_115 (by decide) rfl ?_
      refine z_goto (pc' := 120) dX11_factsOf_116 (by decide) ?_
      exact z_dr (ls' := [none, none, none, none, some (.int x4), none]) ⟨rfl, trivial⟩ h
  · have h := h.2 hc
    refine z_iconst (x := 1) (pc' := 102) dX11_factsOf_101 (by decide) rfl ?_
    refine z_goto (pc' := 106) dX11_factsOf_102 (by decide) ?_
    obtain ⟨h1, h2, h⟩ := h
    obtain ⟨G3, hG⟩ : ∃ z, z = zsi G1 p3 (6 : Int32).toNatClampNeg 1 := ⟨_, rfl⟩
    have h := h _ hG
    refine z_iast (pc' := 107) dX11_factsOf_106 rfl h1 h2  ?_
    refine z_st hG ?_
    refine z_dup (pc' := 108) dX11_factsOf_107 rfl rfl ?_
    refine z_bipush (x := 7) (pc' := 110) dX11_factsOf_108 (by decide) rfl ?_
    refine z_iload_n (pc' := 111) dX11_factsOf_110 rfl rfl ?_
    refine z_iconst (x := 3) (pc' := 112) dX11_factsOf_111 (by decide) rfl ?_
    refine z_icmp_ne (pt := 119) (pc' := 115) dX11_factsOf_112 (by decide) rfl (fun hc => ?_) (fun hc => ?_)
    · have h := h.1 hc
      refine z_iconst (x := 0) (pc' := 120) dX11_factsOf_119 (by decide) rfl ?_
      exact z_dr (ls' := [none, none, none, none, some (.int x4), none]) ⟨rfl, trivial⟩ h
    · have h := h.2 hc
      refine z_iconst (x := 1) (pc' := 116) dX11_factsOf_115 (by decide) rfl ?_
      refine z_goto (pc' := 120) dX11_factsOf_116 (by decide) ?_
      exact z_dr (ls' := [none, none, none, none, some (.int x4), none]) ⟨rfl, trivial⟩ h
def wp_X11_factsOf_120 (E : ZE) (l : Launch) (d b : Nat) (G0 : ZG) (Q : ZQ) (k : Nat) (x4 : Int32) (s0 : Int32) (s1 : Int32) (p2 : Nat) (p3 : Nat) (G : ZG) : Prop :=
  zar G p2 0 ∧ vp_in s1 (zln G p2) ∧
  ∀ G1, G1 = zsi G p2 s1.toNatClampNeg s0 →
  ((x4 = 0 →
    zar G1 p3 0 ∧ vp_in 8 (zln G1 p3) ∧
    ∀ G2, G2 = zsi G1 p3 (8 : Int32).toNatClampNeg 0 →
    Q (.inl (some (.ref p3))) G2) ∧
  (¬ (x4 = 0) →
    zar G1 p3 0 ∧ vp_in 8 (zln G1 p3) ∧
    ∀ G3, G3 = zsi G1 p3 (8 : Int32).toNatClampNeg 1 →
    Q (.inl (some (.ref p3))) G3))
theorem wpt_X11_factsOf_120 {E : ZE} {l : Launch} {d b : Nat} {G0 : ZG} {Q : ZQ} {k : Nat} {x4 : Int32} {s0 : Int32} {s1 : Int32} {p2 : Nat} {p3 : Nat} {G : ZG} (h : wp_X11_factsOf_120 E l d b G0 Q k x4 s0 s1 p2 p3 G) : zW E l mX11_factsOf d b G0 Q k 120 [none, none, none, none, some (.int x4), none] [.int s0, .int s1, .ref p2, .ref p3] G := by
  unfold wp_X11_factsOf_120 at h
  obtain ⟨h1, h2, h⟩ := h
  obtain ⟨G1, hG⟩ : ∃ z, z = zsi G p2 s1.toNatClampNeg s0 := ⟨_, rfl⟩
  have h := h _ hG
  refine z_iast (pc' := 121) dX11_factsOf_120 rfl h1 h2  ?_
  refine z_st hG ?_
  refine z_dup (pc' := 122) dX11_factsOf_121 rfl rfl ?_
  refine z_bipush (x := 8) (pc' := 124) dX11_factsOf_122 (by decide) rfl ?_
  refine z_iload (pc' := 126) dX11_factsOf_124 rfl rfl ?_
  refine z_if_eq (pt := 133) (pc' := 129) dX11_factsOf_126 (by decide) rfl (fun hc => ?_) (fun hc => ?_)
  · have h := h.1 hc
    refine z_iconst (x := 0) (pc' := 134) dX11_factsOf_133 (by decide) rfl ?_
    obtain ⟨h1, h2, h⟩ := h
    obtain ⟨G2, hG⟩ : ∃ z, z = zsi G1 p3 (8 : Int32).toNatClampNeg 0 := ⟨_, rfl⟩
    have h := h _ hG
    refine z_iast (pc' := 135) dX11_factsOf_134 rfl h1 h2  ?_
    refine z_st hG ?_
    refine z_astore (pc' := 137) dX11_factsOf_135 (by decide) rfl ?_
    refine z_aload (pc' := 139) dX11_factsOf_137 rfl rfl ?_
    exact z_aret dX11_factsOf_139 rfl (Or.inr ⟨_, rfl⟩) h
  · have h := h.2 hc
    refine z_iconst (x := 1) (pc' := 130) dX11_factsOf_129 (by decide) rfl ?_
    refine z_goto (pc' := 134) dX11_factsOf_130 (by decide) ?_
    obtain ⟨h1, h2, h⟩ := h
    obtain ⟨G3, hG⟩ : ∃ z, z = zsi G1 p3 (8 : Int32).toNatClampNeg 1 := ⟨_, rfl⟩
    have h := h _ hG
    refine z_iast (pc' := 135) dX11_factsOf_134 rfl h1 h2  ?_
    refine z_st hG ?_
    refine z_astore (pc' := 137) dX11_factsOf_135 (by decide) rfl ?_
    refine z_aload (pc' := 139) dX11_factsOf_137 rfl rfl ?_
    exact z_aret dX11_factsOf_139 rfl (Or.inr ⟨_, rfl⟩) h
