/-! what the methods come to -/
def wp_X12_fact_0 (E : ZE) (l : Launch) (d b : Nat) (G0 : ZG) (Q : ZQ) (k : Nat) (x0 : Int32) (G : ZG) : Prop :=
  ((x0 = 0 →
    Q (.inl (some (.ref (zp 1000 23)))) G) ∧
  ((x0 = 1 →
    Q (.inl (some (.ref (zp 1000 24)))) G) ∧
  ((x0 = 2 →
    Q (.inl (some (.ref (zp 1000 25)))) G) ∧
  ((x0 = 3 →
    Q (.inl (some (.ref (zp 1000 26)))) G) ∧
  ((x0 = 4 →
    Q (.inl (some (.ref (zp 1000 27)))) G) ∧
  ((x0 = 5 →
    Q (.inl (some (.ref (zp 1000 28)))) G) ∧
  ((x0 = 6 →
    Q (.inl (some (.ref (zp 1000 29)))) G) ∧
  ((x0 = 7 →
    Q (.inl (some (.ref (zp 1000 30)))) G) ∧
  (¬ x0 = 0 → ¬ x0 = 1 → ¬ x0 = 2 → ¬ x0 = 3 → ¬ x0 = 4 → ¬ x0 = 5 → ¬ x0 = 6 → ¬ x0 = 7 →
    Q (.inl (some (.ref (zp 1000 31)))) G)))))))))
theorem wpt_X12_fact_0 {E : ZE} {l : Launch} {d b : Nat} {G0 : ZG} {Q : ZQ} {k : Nat} {x0 : Int32} {G : ZG} (h : wp_X12_fact_0 E l d b G0 Q k x0 G) : zW E l mX12_fact d b G0 Q k 0 [some (.int x0)] [] G := by
  unfold wp_X12_fact_0 at h
  refine z_iload_n (pc' := 1) dX12_fact_0 rfl rfl ?_
  by_cases hc0 : x0 = 0
  · have h := h.1 hc0
    refine z_tableIn (off := 47) (pt := 48) dX12_fact_1 (by rw [hc0]; decide) (by rw [hc0]; decide) (by rw [hc0]; decide) (by decide) ?_
    refine z_ldcS (n := 23) (pc' := 50) (own := RX12) (tx := "age") rfl (by decide) dX12_fact_48 rfl ?_
    exact z_aret dX12_fact_50 rfl (Or.inl ⟨_, rfl⟩) h
  have h := h.2
  by_cases hc1 : x0 = 1
  · have h := h.1 hc1
    refine z_tableIn (off := 50) (pt := 51) dX12_fact_1 (by rw [hc1]; decide) (by rw [hc1]; decide) (by rw [hc1]; decide) (by decide) ?_
    refine z_ldcS (n := 24) (pc' := 53) (own := RX12) (tx := "wanted") rfl (by decide) dX12_fact_51 rfl ?_
    exact z_aret dX12_fact_53 rfl (Or.inl ⟨_, rfl⟩) h
  have h := h.2
  by_cases hc2 : x0 = 2
  · have h := h.1 hc2
    refine z_tableIn (off := 53) (pt := 54) dX12_fact_1 (by rw [hc2]; decide) (by rw [hc2]; decide) (by rw [hc2]; decide) (by decide) ?_
    refine z_ldcS (n := 25) (pc' := 56) (own := RX12) (tx := "valid") rfl (by decide) dX12_fact_54 rfl ?_
    exact z_aret dX12_fact_56 rfl (Or.inl ⟨_, rfl⟩) h
  have h := h.2
  by_cases hc3 : x0 = 3
  · have h := h.1 hc3
    refine z_tableIn (off := 56) (pt := 57) dX12_fact_1 (by rw [hc3]; decide) (by rw [hc3]; decide) (by rw [hc3]; decide) (by decide) ?_
    refine z_ldcS (n := 26) (pc' := 59) (own := RX12) (tx := "abroad") rfl (by decide) dX12_fact_57 rfl ?_
    exact z_aret dX12_fact_59 rfl (Or.inl ⟨_, rfl⟩) h
  have h := h.2
  by_cases hc4 : x0 = 4
  · have h := h.1 hc4
    refine z_tableIn (off := 59) (pt := 60) dX12_fact_1 (by rw [hc4]; decide) (by rw [hc4]; decide) (by rw [hc4]; decide) (by decide) ?_
    refine z_ldcS (n := 27) (pc' := 62) (own := RX12) (tx := "first") rfl (by decide) dX12_fact_60 rfl ?_
    exact z_aret dX12_fact_62 rfl (Or.inl ⟨_, rfl⟩) h
  have h := h.2
  by_cases hc5 : x0 = 5
  · have h := h.1 hc5
    refine z_tableIn (off := 62) (pt := 63) dX12_fact_1 (by rw [hc5]; decide) (by rw [hc5]; decide) (by rw [hc5]; decide) (by decide) ?_
    refine z_ldcS (n := 28) (pc' := 65) (own := RX12) (tx := "renew") rfl (by decide) dX12_fact_63 rfl ?_
    exact z_aret dX12_fact_65 rfl (Or.inl ⟨_, rfl⟩) h
  have h := h.2
  by_cases hc6 : x0 = 6
  · have h := h.1 hc6
    refine z_tableIn (off := 65) (pt := 66) dX12_fact_1 (by rw [hc6]; decide) (by rw [hc6]; decide) (by rw [hc6]; decide) (by decide) ?_
    refine z_ldcS (n := 29) (pc' := 68) (own := RX12) (tx := "lost") rfl (by decide) dX12_fact_66 rfl ?_
    exact z_aret dX12_fact_68 rfl (Or.inl ⟨_, rfl⟩) h
  have h := h.2
  by_cases hc7 : x0 = 7
  · have h := h.1 hc7
    refine z_tableIn (off := 68) (pt := 69) dX12_fact_1 (by rw [hc7]; decide) (by rw [hc7]; decide) (by rw [hc7]; decide) (by decide) ?_
    refine z_ldcS (n := 30) (pc' := 71) (own := RX12) (tx := "second") rfl (by decide) dX12_fact_69 rfl ?_
    exact z_aret dX12_fact_71 rfl (Or.inl ⟨_, rfl⟩) h
  have h := h.2
  have h := h hc0 hc1 hc2 hc3 hc4 hc5 hc6 hc7
  refine z_tableOut (pt := 72) dX12_fact_1 (by have e0 := lv_neT (a := 0) hc0 (by decide); have e1 := lv_neT (a := 1) hc1 (by decide); have e2 := lv_neT (a := 2) hc2 (by decide); have e3 := lv_neT (a := 3) hc3 (by decide); have e4 := lv_neT (a := 4) hc4 (by decide); have e5 := lv_neT (a := 5) hc5 (by decide); have e6 := lv_neT (a := 6) hc6 (by decide); have e7 := lv_neT (a := 7) hc7 (by decide); omega) (by decide) ?_
  refine z_ldcS (n := 31) (pc' := 74) (own := RX12) (tx := "urgent") rfl (by decide) dX12_fact_72 rfl ?_
  exact z_aret dX12_fact_74 rfl (Or.inl ⟨_, rfl⟩) h
def wp_X12_in_0 (E : ZE) (l : Launch) (d b : Nat) (G0 : ZG) (Q : ZQ) (k : Nat) (x0 : Int32) (x1 : Int32) (x2 : Int32) (G : ZG) : Prop :=
  ((x0 < x1 →
    Q (.inl (some (.int 0))) G) ∧
  (¬ (x0 < x1) →
    ((x2 < x0 →
      Q (.inl (some (.int 0))) G) ∧
    (¬ (x2 < x0) →
      Q (.inl (some (.int 1))) G))))
theorem wpt_X12_in_0 {E : ZE} {l : Launch} {d b : Nat} {G0 : ZG} {Q : ZQ} {k : Nat} {x0 : Int32} {x1 : Int32} {x2 : Int32} {G : ZG} (h : wp_X12_in_0 E l d b G0 Q k x0 x1 x2 G) : zW E l mX12_in d b G0 Q k 0 [some (.int x0), some (.int x1), some (.int x2)] [] G := by
  unfold wp_X12_in_0 at h
  refine z_iload_n (pc' := 1) dX12_in_0 rfl rfl ?_
  refine z_iload_n (pc' := 2) dX12_in_1 rfl rfl ?_
  refine z_icmp_lt (pt := 14) (pc' := 5) dX12_in_2 (by decide) rfl (fun hc => ?_) (fun hc => ?_)
  · have h := h.1 hc
    refine z_iconst (x := 0) (pc' := 15) dX12_in_14 (by decide) rfl ?_
    exact z_zret (ty := .boolean) dX12_in_15 rfl (by decide) h
  · have h := h.2 hc
    refine z_iload_n (pc' := 6) dX12_in_5 rfl rfl ?_
    refine z_iload_n (pc' := 7) dX12_in_6 rfl rfl ?_
    refine z_icmp_gt (pt := 14) (pc' := 10) dX12_in_7 (by decide) rfl (fun hc => ?_) (fun hc => ?_)
    · have h := h.1 hc
      refine z_iconst (x := 0) (pc' := 15) dX12_in_14 (by decide) rfl ?_
      exact z_zret (ty := .boolean) dX12_in_15 rfl (by decide) h
    · have h := h.2 hc
      refine z_iconst (x := 1) (pc' := 11) dX12_in_10 (by decide) rfl ?_
      refine z_goto (pc' := 15) dX12_in_11 (by decide) ?_
      exact z_zret (ty := .boolean) dX12_in_15 rfl (by decide) h
def wp_X12_init_0 (E : ZE) (l : Launch) (d b : Nat) (G0 : ZG) (Q : ZQ) (k : Nat) (q0 : Nat) (G : ZG) : Prop :=
  zal G q0 ∧ 1 ≤ d ∧
  ¬ (400 : Int32) < 0 ∧ (400 : Int32).toNatClampNeg ≤ 67108864 ∧ (400 : Int32).toNatClampNeg + 1 ≤ k ∧ ∃ t1, 1024 ≤ t1 ∧ t1 < 3584 ∧ (t1 - 1024) / 512 = 1 ∧
  ∀ q_2, q_2 = zp t1 (zcn G t1) → ∀ G3, G3 = znw G t1 (400 : Int32).toNatClampNeg → ∀ k4, k4 = k - ((400 : Int32).toNatClampNeg + 1) →
  zob G3 q0 13 ∧
  ∀ G5, G5 = zsr G3 q0 2 q_2 →
  zob G5 q0 13 ∧
  ∀ G6, G6 = zsi G5 q0 8 (-1) →
  ¬ (5 : Int32) < 0 ∧ (5 : Int32).toNatClampNeg ≤ 67108864 ∧ (5 : Int32).toNatClampNeg + 1 ≤ k4 ∧ ∃ t7, 1024 ≤ t7 ∧ t7 < 3584 ∧ (t7 - 1024) / 512 = 0 ∧
  ∀ q_8, q_8 = zp t7 (zcn G6 t7) → ∀ G9, G9 = znw G6 t7 (5 : Int32).toNatClampNeg → ∀ k10, k10 = k4 - ((5 : Int32).toNatClampNeg + 1) →
  zob G9 q0 13 ∧
  ∀ G11, G11 = zsr G9 q0 9 q_8 →
  ¬ (13 : Int32) < 0 ∧ (13 : Int32).toNatClampNeg ≤ 67108864 ∧ (13 : Int32).toNatClampNeg + 1 ≤ k10 ∧ ∃ t12, 1024 ≤ t12 ∧ t12 < 3584 ∧ (t12 - 1024) / 512 = 0 ∧
  ∀ q_13, q_13 = zp t12 (zcn G11 t12) → ∀ G14, G14 = znw G11 t12 (13 : Int32).toNatClampNeg → ∀ k15, k15 = k10 - ((13 : Int32).toNatClampNeg + 1) →
  zob G14 q0 13 ∧
  ∀ G16, G16 = zsr G14 q0 10 q_13 →
  ¬ (13 : Int32) < 0 ∧ (13 : Int32).toNatClampNeg ≤ 67108864 ∧ (13 : Int32).toNatClampNeg + 1 ≤ k15 ∧ ∃ t17, 1024 ≤ t17 ∧ t17 < 3584 ∧ (t17 - 1024) / 512 = 0 ∧
  ∀ q_18, q_18 = zp t17 (zcn G16 t17) → ∀ G19, G19 = znw G16 t17 (13 : Int32).toNatClampNeg → ∀ k20, k20 = k15 - ((13 : Int32).toNatClampNeg + 1) →
  zob G19 q0 13 ∧
  ∀ G21, G21 = zsr G19 q0 11 q_18 →
  ¬ (208 : Int32) < 0 ∧ (208 : Int32).toNatClampNeg ≤ 67108864 ∧ (208 : Int32).toNatClampNeg + 1 ≤ k20 ∧ ∃ t22, 1024 ≤ t22 ∧ t22 < 3584 ∧ (t22 - 1024) / 512 = 0 ∧
  ∀ q_23, q_23 = zp t22 (zcn G21 t22) → ∀ G24, G24 = znw G21 t22 (208 : Int32).toNatClampNeg → ∀ k25, k25 = k20 - ((208 : Int32).toNatClampNeg + 1) →
  zob G24 q0 13 ∧
  ∀ G26, G26 = zsr G24 q0 12 q_23 →
  ¬ (208 : Int32) < 0 ∧ (208 : Int32).toNatClampNeg ≤ 67108864 ∧ (208 : Int32).toNatClampNeg + 1 ≤ k25 ∧ ∃ t27, 1024 ≤ t27 ∧ t27 < 3584 ∧ (t27 - 1024) / 512 = 0 ∧
  ∀ q_28, q_28 = zp t27 (zcn G26 t27) → ∀ G29, G29 = znw G26 t27 (208 : Int32).toNatClampNeg → ∀ k30, k30 = k25 - ((208 : Int32).toNatClampNeg + 1) →
  zob G29 q0 13 ∧
  ∀ G31, G31 = zsr G29 q0 13 q_28 →
  ¬ (208 : Int32) < 0 ∧ (208 : Int32).toNatClampNeg ≤ 67108864 ∧ (208 : Int32).toNatClampNeg + 1 ≤ k30 ∧ ∃ t32, 1024 ≤ t32 ∧ t32 < 3584 ∧ (t32 - 1024) / 512 = 0 ∧
  ∀ q_33, q_33 = zp t32 (zcn G31 t32) → ∀ G34, G34 = znw G31 t32 (208 : Int32).toNatClampNeg → ∀ k35, k35 = k30 - ((208 : Int32).toNatClampNeg + 1) →
  zob G34 q0 13 ∧
  ∀ G36, G36 = zsr G34 q0 14 q_33 →
  ¬ (208 : Int32) < 0 ∧ (208 : Int32).toNatClampNeg ≤ 67108864 ∧ (208 : Int32).toNatClampNeg + 1 ≤ k35 ∧ ∃ t37, 1024 ≤ t37 ∧ t37 < 3584 ∧ (t37 - 1024) / 512 = 0 ∧
  ∀ q_38, q_38 = zp t37 (zcn G36 t37) → ∀ G39, G39 = znw G36 t37 (208 : Int32).toNatClampNeg → ∀ k40, k40 = k35 - ((208 : Int32).toNatClampNeg + 1) →
  zob G39 q0 13 ∧
  ∀ G41, G41 = zsr G39 q0 15 q_38 →
  ¬ (5200 : Int32) < 0 ∧ (5200 : Int32).toNatClampNeg ≤ 67108864 ∧ (5200 : Int32).toNatClampNeg + 1 ≤ k40 ∧ ∃ t42, 1024 ≤ t42 ∧ t42 < 3584 ∧ (t42 - 1024) / 512 = 0 ∧
  ∀ q_43, q_43 = zp t42 (zcn G41 t42) → ∀ G44, G44 = znw G41 t42 (5200 : Int32).toNatClampNeg → ∀ k45, k45 = k40 - ((5200 : Int32).toNatClampNeg + 1) →
  zob G44 q0 13 ∧
  ∀ G46, G46 = zsr G44 q0 16 q_43 →
  ¬ (5200 : Int32) < 0 ∧ (5200 : Int32).toNatClampNeg ≤ 67108864 ∧ (5200 : Int32).toNatClampNeg + 1 ≤ k45 ∧ ∃ t47, 1024 ≤ t47 ∧ t47 < 3584 ∧ (t47 - 1024) / 512 = 0 ∧
  ∀ q_48, q_48 = zp t47 (zcn G46 t47) → ∀ G49, G49 = znw G46 t47 (5200 : Int32).toNatClampNeg → ∀ k50, k50 = k45 - ((5200 : Int32).toNatClampNeg + 1) →
  zob G49 q0 13 ∧
  ∀ G51, G51 = zsr G49 q0 17 q_48 →
  zW E l mX12_init d b G0 Q k50 95 [some (.ref q0)] [] G51
theorem wpt_X12_init_0 {E : ZE} {l : Launch} {d b : Nat} {G0 : ZG} {Q : ZQ} {k : Nat} {q0 : Nat} {G : ZG} (h : wp_X12_init_0 E l d b G0 Q k q0 G) : zW E l mX12_init d b G0 Q k 0 [some (.ref q0)] [] G := by
  unfold wp_X12_init_0 at h
  refine z_aload_n (pc' := 1) dX12_init_0 rfl rfl ?_
  obtain ⟨h1, h2, h⟩ := h
  refine z_objInit (pc' := 4) dX12_init_1 kX12_3 o_inst o_code rfl h2 h1 (Nat.le_of_ble_eq_true rfl) ?_
  refine z_aload_n (pc' := 5) dX12_init_4 rfl rfl ?_
  refine z_sipush (x := 400) (pc' := 8) dX12_init_5 (by decide) rfl ?_
  obtain ⟨h1, h2, h3, t1, h4, h5, h6, h⟩ := h
  obtain ⟨q_2, hq⟩ : ∃ z, z = zp t1 (zcn G t1) := ⟨_, rfl⟩
  obtain ⟨G3, hG⟩ : ∃ z, z = znw G t1 (400 : Int32).toNatClampNeg := ⟨_, rfl⟩
  have h := h _ hq _ hG _ rfl
  refine z_newa (t := t1) (kd := 1) (pc' := 10) dX12_init_8 rfl (by decide) a_byte rfl h4 h5 h6 h1 rfl h2 h3 ?_
  refine z_mk hq hG ?_
  obtain ⟨h1, h⟩ := h
  obtain ⟨G5, hG⟩ : ∃ z, z = zsr G3 q0 2 q_2 := ⟨_, rfl⟩
  have h := h _ hG
  refine z_putR (ci := 13) (kf := 2) (pc' := 13) dX12_init_10 kX12_9 (Or.inl rfl) (by decide) (by decide) rfl (Or.inr ⟨rfl, rfl⟩) rfl h1 ?_
  refine z_st hG ?_
  refine z_aload_n (pc' := 14) dX12_init_13 rfl rfl ?_
  refine z_iconst (x := (-1)) (pc' := 15) dX12_init_14 (by decide) rfl ?_
  obtain ⟨h1, h⟩ := h
  obtain ⟨G6, hG⟩ : ∃ z, z = zsi G5 q0 8 (-1) := ⟨_, rfl⟩
  have h := h _ hG
  refine z_putI (ci := 13) (kf := 8) (pc' := 18) dX12_init_15 kX12_13 (Or.inl rfl) (by decide) (by decide) rfl (Or.inl rfl) rfl h1 (zok_int _) ?_
  refine z_st hG ?_
  refine z_aload_n (pc' := 19) dX12_init_18 rfl rfl ?_
  refine z_iconst (x := 5) (pc' := 20) dX12_init_19 (by decide) rfl ?_
  obtain ⟨h1, h2, h3, t7, h4, h5, h6, h⟩ := h
  obtain ⟨q_8, hq⟩ : ∃ z, z = zp t7 (zcn G6 t7) := ⟨_, rfl⟩
  obtain ⟨G9, hG⟩ : ∃ z, z = znw G6 t7 (5 : Int32).toNatClampNeg := ⟨_, rfl⟩
  have h := h _ hq _ hG _ rfl
  refine z_newa (t := t7) (kd := 0) (pc' := 22) dX12_init_20 rfl (by decide) a_int rfl h4 h5 h6 h1 rfl h2 h3 ?_
  refine z_mk hq hG ?_
  obtain ⟨h1, h⟩ := h
  obtain ⟨G11, hG⟩ : ∃ z, z = zsr G9 q0 9 q_8 := ⟨_, rfl⟩
  have h := h _ hG
  refine z_putR (ci := 13) (kf := 9) (pc' := 25) dX12_init_22 kX12_17 (Or.inl rfl) (by decide) (by decide) rfl (Or.inr ⟨rfl, rfl⟩) rfl h1 ?_
  refine z_st hG ?_
  refine z_aload_n (pc' := 26) dX12_init_25 rfl rfl ?_
  refine z_bipush (x := 13) (pc' := 28) dX12_init_26 (by decide) rfl ?_
  obtain ⟨h1, h2, h3, t12, h4, h5, h6, h⟩ := h
  obtain ⟨q_13, hq⟩ : ∃ z, z = zp t12 (zcn G11 t12) := ⟨_, rfl⟩
  obtain ⟨G14, hG⟩ : ∃ z, z = znw G11 t12 (13 : Int32).toNatClampNeg := ⟨_, rfl⟩
  have h := h _ hq _ hG _ rfl
  refine z_newa (t := t12) (kd := 0) (pc' := 30) dX12_init_28 rfl (by decide) a_int rfl h4 h5 h6 h1 rfl h2 h3 ?_
  refine z_mk hq hG ?_
  obtain ⟨h1, h⟩ := h
  obtain ⟨G16, hG⟩ : ∃ z, z = zsr G14 q0 10 q_13 := ⟨_, rfl⟩
  have h := h _ hG
  refine z_putR (ci := 13) (kf := 10) (pc' := 33) dX12_init_30 kX12_21 (Or.inl rfl) (by decide) (by decide) rfl (Or.inr ⟨rfl, rfl⟩) rfl h1 ?_
  refine z_st hG ?_
  refine z_aload_n (pc' := 34) dX12_init_33 rfl rfl ?_
  refine z_bipush (x := 13) (pc' := 36) dX12_init_34 (by decide) rfl ?_
  obtain ⟨h1, h2, h3, t17, h4, h5, h6, h⟩ := h
  obtain ⟨q_18, hq⟩ : ∃ z, z = zp t17 (zcn G16 t17) := ⟨_, rfl⟩
  obtain ⟨G19, hG⟩ : ∃ z, z = znw G16 t17 (13 : Int32).toNatClampNeg := ⟨_, rfl⟩
  have h := h _ hq _ hG _ rfl
  refine z_newa (t := t17) (kd := 0) (pc' := 38) dX12_init_36 rfl (by decide) a_int rfl h4 h5 h6 h1 rfl h2 h3 ?_
  refine z_mk hq hG ?_
  obtain ⟨h1, h⟩ := h
  obtain ⟨G21, hG⟩ : ∃ z, z = zsr G19 q0 11 q_18 := ⟨_, rfl⟩
  have h := h _ hG
  refine z_putR (ci := 13) (kf := 11) (pc' := 41) dX12_init_38 kX12_24 (Or.inl rfl) (by decide) (by decide) rfl (Or.inr ⟨rfl, rfl⟩) rfl h1 ?_
  refine z_st hG ?_
  refine z_aload_n (pc' := 42) dX12_init_41 rfl rfl ?_
  refine z_sipush (x := 208) (pc' := 45) dX12_init_42 (by decide) rfl ?_
  obtain ⟨h1, h2, h3, t22, h4, h5, h6, h⟩ := h
  obtain ⟨q_23, hq⟩ : ∃ z, z = zp t22 (zcn G21 t22) := ⟨_, rfl⟩
  obtain ⟨G24, hG⟩ : ∃ z, z = znw G21 t22 (208 : Int32).toNatClampNeg := ⟨_, rfl⟩
  have h := h _ hq _ hG _ rfl
  refine z_newa (t := t22) (kd := 0) (pc' := 47) dX12_init_45 rfl (by decide) a_int rfl h4 h5 h6 h1 rfl h2 h3 ?_
  refine z_mk hq hG ?_
  obtain ⟨h1, h⟩ := h
  obtain ⟨G26, hG⟩ : ∃ z, z = zsr G24 q0 12 q_23 := ⟨_, rfl⟩
  have h := h _ hG
  refine z_putR (ci := 13) (kf := 12) (pc' := 50) dX12_init_47 kX12_27 (Or.inl rfl) (by decide) (by decide) rfl (Or.inr ⟨rfl, rfl⟩) rfl h1 ?_
  refine z_st hG ?_
  refine z_aload_n (pc' := 51) dX12_init_50 rfl rfl ?_
  refine z_sipush (x := 208) (pc' := 54) dX12_init_51 (by decide) rfl ?_
  obtain ⟨h1, h2, h3, t27, h4, h5, h6, h⟩ := h
  obtain ⟨q_28, hq⟩ : ∃ z, z = zp t27 (zcn G26 t27) := ⟨_, rfl⟩
  obtain ⟨G29, hG⟩ : ∃ z, z = znw G26 t27 (208 : Int32).toNatClampNeg := ⟨_, rfl⟩
  have h := h _ hq _ hG _ rfl
  refine z_newa (t := t27) (kd := 0) (pc' := 56) dX12_init_54 rfl (by decide) a_int rfl h4 h5 h6 h1 rfl h2 h3 ?_
  refine z_mk hq hG ?_
  obtain ⟨h1, h⟩ := h
  obtain ⟨G31, hG⟩ : ∃ z, z = zsr G29 q0 13 q_28 := ⟨_, rfl⟩
  have h := h _ hG
  refine z_putR (ci := 13) (kf := 13) (pc' := 59) dX12_init_56 kX12_30 (Or.inl rfl) (by decide) (by decide) rfl (Or.inr ⟨rfl, rfl⟩) rfl h1 ?_
  refine z_st hG ?_
  refine z_aload_n (pc' := 60) dX12_init_59 rfl rfl ?_
  refine z_sipush (x := 208) (pc' := 63) dX12_init_60 (by decide) rfl ?_
  obtain ⟨h1, h2, h3, t32, h4, h5, h6, h⟩ := h
  obtain ⟨q_33, hq⟩ : ∃ z, z = zp t32 (zcn G31 t32) := ⟨_, rfl⟩
  obtain ⟨G34, hG⟩ : ∃ z, z = znw G31 t32 (208 : Int32).toNatClampNeg := ⟨_, rfl⟩
  have h := h _ hq _ hG _ rfl
  refine z_newa (t := t32) (kd := 0) (pc' := 65) dX12_init_63 rfl (by decide) a_int rfl h4 h5 h6 h1 rfl h2 h3 ?_
  refine z_mk hq hG ?_
  obtain ⟨h1, h⟩ := h
  obtain ⟨G36, hG⟩ : ∃ z, z = zsr G34 q0 14 q_33 := ⟨_, rfl⟩
  have h := h _ hG
  refine z_putR (ci := 13) (kf := 14) (pc' := 68) dX12_init_65 kX12_33 (Or.inl rfl) (by decide) (by decide) rfl (Or.inr ⟨rfl, rfl⟩) rfl h1 ?_
  refine z_st hG ?_
  refine z_aload_n (pc' := 69) dX12_init_68 rfl rfl ?_
  refine z_sipush (x := 208) (pc' := 72) dX12_init_69 (by decide) rfl ?_
  obtain ⟨h1, h2, h3, t37, h4, h5, h6, h⟩ := h
  obtain ⟨q_38, hq⟩ : ∃ z, z = zp t37 (zcn G36 t37) := ⟨_, rfl⟩
  obtain ⟨G39, hG⟩ : ∃ z, z = znw G36 t37 (208 : Int32).toNatClampNeg := ⟨_, rfl⟩
  have h := h _ hq _ hG _ rfl
  refine z_newa (t := t37) (kd := 0) (pc' := 74) dX12_init_72 rfl (by decide) a_int rfl h4 h5 h6 h1 rfl h2 h3 ?_
  refine z_mk hq hG ?_
  obtain ⟨h1, h⟩ := h
  obtain ⟨G41, hG⟩ : ∃ z, z = zsr G39 q0 15 q_38 := ⟨_, rfl⟩
  have h := h _ hG
  refine z_putR (ci := 13) (kf := 15) (pc' := 77) dX12_init_74 kX12_36 (Or.inl rfl) (by decide) (by decide) rfl (Or.inr ⟨rfl, rfl⟩) rfl h1 ?_
  refine z_st hG ?_
  refine z_aload_n (pc' := 78) dX12_init_77 rfl rfl ?_
  refine z_sipush (x := 5200) (pc' := 81) dX12_init_78 (by decide) rfl ?_
  obtain ⟨h1, h2, h3, t42, h4, h5, h6, h⟩ := h
  obtain ⟨q_43, hq⟩ : ∃ z, z = zp t42 (zcn G41 t42) := ⟨_, rfl⟩
  obtain ⟨G44, hG⟩ : ∃ z, z = znw G41 t42 (5200 : Int32).toNatClampNeg := ⟨_, rfl⟩
  have h := h _ hq _ hG _ rfl
  refine z_newa (t := t42) (kd := 0) (pc' := 83) dX12_init_81 rfl (by decide) a_int rfl h4 h5 h6 h1 rfl h2 h3 ?_
  refine z_mk hq hG ?_
  obtain ⟨h1, h⟩ := h
  obtain ⟨G46, hG⟩ : ∃ z, z = zsr G44 q0 16 q_43 := ⟨_, rfl⟩
  have h := h _ hG
  refine z_putR (ci := 13) (kf := 16) (pc' := 86) dX12_init_83 kX12_39 (Or.inl rfl) (by decide) (by decide) rfl (Or.inr ⟨rfl, rfl⟩) rfl h1 ?_
  refine z_st hG ?_
  refine z_aload_n (pc' := 87) dX12_init_86 rfl rfl ?_
  refine z_sipush (x := 5200) (pc' := 90) dX12_init_87 (by decide) rfl ?_
  obtain ⟨h1, h2, h3, t47, h4, h5, h6, h⟩ := h
  obtain ⟨q_48, hq⟩ : ∃ z, z = zp t47 (zcn G46 t47) := ⟨_, rfl⟩
  obtain ⟨G49, hG⟩ : ∃ z, z = znw G46 t47 (5200 : Int32).toNatClampNeg := ⟨_, rfl⟩
  have h := h _ hq _ hG _ rfl
  refine z_newa (t := t47) (kd := 0) (pc' := 92) dX12_init_90 rfl (by decide) a_int rfl h4 h5 h6 h1 rfl h2 h3 ?_
  refine z_mk hq hG ?_
  obtain ⟨h1, h⟩ := h
  obtain ⟨G51, hG⟩ : ∃ z, z = zsr G49 q0 17 q_48 := ⟨_, rfl⟩
  have h := h _ hG
  refine z_putR (ci := 13) (kf := 17) (pc' := 95) dX12_init_92 kX12_42 (Or.inl rfl) (by decide) (by decide) rfl (Or.inr ⟨rfl, rfl⟩) rfl h1 ?_
  refine z_st hG ?_
  exact z_dr (ls' := [some (.ref q0)]) ⟨rfl, trivial⟩ h
def wp_X12_init_95 (E : ZE) (l : Launch) (d b : Nat) (G0 : ZG) (Q : ZQ) (k : Nat) (q0 : Nat) (G : ZG) : Prop :=
  ¬ (5200 : Int32) < 0 ∧ (5200 : Int32).toNatClampNeg ≤ 67108864 ∧ (5200 : Int32).toNatClampNeg + 1 ≤ k ∧ ∃ t1, 1024 ≤ t1 ∧ t1 < 3584 ∧ (t1 - 1024) / 512 = 0 ∧
  ∀ q_2, q_2 = zp t1 (zcn G t1) → ∀ G3, G3 = znw G t1 (5200 : Int32).toNatClampNeg → ∀ k4, k4 = k - ((5200 : Int32).toNatClampNeg + 1) →
  zob G3 q0 13 ∧
  ∀ G5, G5 = zsr G3 q0 18 q_2 →
  ¬ (9 : Int32) < 0 ∧ (9 : Int32).toNatClampNeg ≤ 67108864 ∧ (9 : Int32).toNatClampNeg + 1 ≤ k4 ∧ ∃ t6, 1024 ≤ t6 ∧ t6 < 3584 ∧ (t6 - 1024) / 512 = 0 ∧
  ∀ q_7, q_7 = zp t6 (zcn G5 t6) → ∀ G8, G8 = znw G5 t6 (9 : Int32).toNatClampNeg → ∀ k9, k9 = k4 - ((9 : Int32).toNatClampNeg + 1) →
  zob G8 q0 13 ∧
  ∀ G10, G10 = zsr G8 q0 21 q_7 →
  ¬ (400 : Int32) < 0 ∧ (400 : Int32).toNatClampNeg ≤ 67108864 ∧ (400 : Int32).toNatClampNeg + 1 ≤ k9 ∧ ∃ t11, 1024 ≤ t11 ∧ t11 < 3584 ∧ (t11 - 1024) / 512 = 2 ∧
  ∀ q_12, q_12 = zp t11 (zcn G10 t11) → ∀ G13, G13 = znw G10 t11 (400 : Int32).toNatClampNeg → ∀ k14, k14 = k9 - ((400 : Int32).toNatClampNeg + 1) →
  zob G13 q0 13 ∧
  ∀ G15, G15 = zsr G13 q0 22 q_12 →
  ¬ (80 : Int32) < 0 ∧ (80 : Int32).toNatClampNeg ≤ 67108864 ∧ (80 : Int32).toNatClampNeg + 1 ≤ k14 ∧ ∃ t16, 1024 ≤ t16 ∧ t16 < 3584 ∧ (t16 - 1024) / 512 = 0 ∧
  ∀ q_17, q_17 = zp t16 (zcn G15 t16) → ∀ G18, G18 = znw G15 t16 (80 : Int32).toNatClampNeg → ∀ k19, k19 = k14 - ((80 : Int32).toNatClampNeg + 1) →
  zob G18 q0 13 ∧
  ∀ G20, G20 = zsr G18 q0 29 q_17 →
  ¬ (80 : Int32) < 0 ∧ (80 : Int32).toNatClampNeg ≤ 67108864 ∧ (80 : Int32).toNatClampNeg + 1 ≤ k19 ∧ ∃ t21, 1024 ≤ t21 ∧ t21 < 3584 ∧ (t21 - 1024) / 512 = 2 ∧
  ∀ q_22, q_22 = zp t21 (zcn G20 t21) → ∀ G23, G23 = znw G20 t21 (80 : Int32).toNatClampNeg → ∀ k24, k24 = k19 - ((80 : Int32).toNatClampNeg + 1) →
  zob G23 q0 13 ∧
  ∀ G25, G25 = zsr G23 q0 30 q_22 →
  ¬ (400 : Int32) < 0 ∧ (400 : Int32).toNatClampNeg ≤ 67108864 ∧ (400 : Int32).toNatClampNeg + 1 ≤ k24 ∧ ∃ t26, 1024 ≤ t26 ∧ t26 < 3584 ∧ (t26 - 1024) / 512 = 0 ∧
  ∀ q_27, q_27 = zp t26 (zcn G25 t26) → ∀ G28, G28 = znw G25 t26 (400 : Int32).toNatClampNeg → ∀ k29, k29 = k24 - ((400 : Int32).toNatClampNeg + 1) →
  zob G28 q0 13 ∧
  ∀ G30, G30 = zsr G28 q0 31 q_27 →
  ¬ (1920 : Int32) < 0 ∧ (1920 : Int32).toNatClampNeg ≤ 67108864 ∧ (1920 : Int32).toNatClampNeg + 1 ≤ k29 ∧ ∃ t31, 1024 ≤ t31 ∧ t31 < 3584 ∧ (t31 - 1024) / 512 = 0 ∧
  ∀ q_32, q_32 = zp t31 (zcn G30 t31) → ∀ G33, G33 = znw G30 t31 (1920 : Int32).toNatClampNeg → ∀ k34, k34 = k29 - ((1920 : Int32).toNatClampNeg + 1) →
  zob G33 q0 13 ∧
  ∀ G35, G35 = zsr G33 q0 32 q_32 →
  ¬ (80 : Int32) < 0 ∧ (80 : Int32).toNatClampNeg ≤ 67108864 ∧ (80 : Int32).toNatClampNeg + 1 ≤ k34 ∧ ∃ t36, 1024 ≤ t36 ∧ t36 < 3584 ∧ (t36 - 1024) / 512 = 2 ∧
  ∀ q_37, q_37 = zp t36 (zcn G35 t36) → ∀ G38, G38 = znw G35 t36 (80 : Int32).toNatClampNeg → ∀ k39, k39 = k34 - ((80 : Int32).toNatClampNeg + 1) →
  zob G38 q0 13 ∧
  ∀ G40, G40 = zsr G38 q0 33 q_37 →
  ¬ (6400 : Int32) < 0 ∧ (6400 : Int32).toNatClampNeg ≤ 67108864 ∧ (6400 : Int32).toNatClampNeg + 1 ≤ k39 ∧ ∃ t41, 1024 ≤ t41 ∧ t41 < 3584 ∧ (t41 - 1024) / 512 = 0 ∧
  ∀ q_42, q_42 = zp t41 (zcn G40 t41) → ∀ G43, G43 = znw G40 t41 (6400 : Int32).toNatClampNeg → ∀ k44, k44 = k39 - ((6400 : Int32).toNatClampNeg + 1) →
  zob G43 q0 13 ∧
  ∀ G45, G45 = zsr G43 q0 35 q_42 →
  ¬ (48 : Int32) < 0 ∧ (48 : Int32).toNatClampNeg ≤ 67108864 ∧ (48 : Int32).toNatClampNeg + 1 ≤ k44 ∧ ∃ t46, 1024 ≤ t46 ∧ t46 < 3584 ∧ (t46 - 1024) / 512 = 0 ∧
  ∀ q_47, q_47 = zp t46 (zcn G45 t46) → ∀ G48, G48 = znw G45 t46 (48 : Int32).toNatClampNeg → ∀ k49, k49 = k44 - ((48 : Int32).toNatClampNeg + 1) →
  zob G48 q0 13 ∧
  ∀ G50, G50 = zsr G48 q0 36 q_47 →
  zob G50 q0 13 ∧
  ∀ G51, G51 = zsi G50 q0 37 20 →
  zob G51 q0 13 ∧
  ∀ G52, G52 = zsi G51 q0 38 30 →
  zW E l mX12_init d b G0 Q k49 192 [some (.ref q0)] [] G52
theorem wpt_X12_init_95 {E : ZE} {l : Launch} {d b : Nat} {G0 : ZG} {Q : ZQ} {k : Nat} {q0 : Nat} {G : ZG} (h : wp_X12_init_95 E l d b G0 Q k q0 G) : zW E l mX12_init d b G0 Q k 95 [some (.ref q0)] [] G := by
  unfold wp_X12_init_95 at h
  refine z_aload_n (pc' := 96) dX12_init_95 rfl rfl ?_
  refine z_sipush (x := 5200) (pc' := 99) dX12_init_96 (by decide) rfl ?_
  obtain ⟨h1, h2, h3, t1, h4, h5, h6, h⟩ := h
  obtain ⟨q_2, hq⟩ : ∃ z, z = zp t1 (zcn G t1) := ⟨_, rfl⟩
  obtain ⟨G3, hG⟩ : ∃ z, z = znw G t1 (5200 : Int32).toNatClampNeg := ⟨_, rfl⟩
  have h := h _ hq _ hG _ rfl
  refine z_newa (t := t1) (kd := 0) (pc' := 101) dX12_init_99 rfl (by decide) a_int rfl h4 h5 h6 h1 rfl h2 h3 ?_
  refine z_mk hq hG ?_
  obtain ⟨h1, h⟩ := h
  obtain ⟨G5, hG⟩ : ∃ z, z = zsr G3 q0 18 q_2 := ⟨_, rfl⟩
  have h := h _ hG
  refine z_putR (ci := 13) (kf := 18) (pc' := 104) dX12_init_101 kX12_45 (Or.inl rfl) (by decide) (by decide) rfl (Or.inr ⟨rfl, rfl⟩) rfl h1 ?_
  refine z_st hG ?_
  refine z_aload_n (pc' := 105) dX12_init_104 rfl rfl ?_
  refine z_bipush (x := 9) (pc' := 107) dX12_init_105 (by decide) rfl ?_
  obtain ⟨h1, h2, h3, t6, h4, h5, h6, h⟩ := h
  obtain ⟨q_7, hq⟩ : ∃ z, z = zp t6 (zcn G5 t6) := ⟨_, rfl⟩
  obtain ⟨G8, hG⟩ : ∃ z, z = znw G5 t6 (9 : Int32).toNatClampNeg := ⟨_, rfl⟩
  have h := h _ hq _ hG _ rfl
  refine z_newa (t := t6) (kd := 0) (pc' := 109) dX12_init_107 rfl (by decide) a_int rfl h4 h5 h6 h1 rfl h2 h3 ?_
  refine z_mk hq hG ?_
  obtain ⟨h1, h⟩ := h
  obtain ⟨G10, hG⟩ : ∃ z, z = zsr G8 q0 21 q_7 := ⟨_, rfl⟩
  have h := h _ hG
  refine z_putR (ci := 13) (kf := 21) (pc' := 112) dX12_init_109 kX12_48 (Or.inl rfl) (by decide) (by decide) rfl (Or.inr ⟨rfl, rfl⟩) rfl h1 ?_
  refine z_st hG ?_
  refine z_aload_n (pc' := 113) dX12_init_112 rfl rfl ?_
  refine z_sipush (x := 400) (pc' := 116) dX12_init_113 (by decide) rfl ?_
  obtain ⟨h1, h2, h3, t11, h4, h5, h6, h⟩ := h
  obtain ⟨q_12, hq⟩ : ∃ z, z = zp t11 (zcn G10 t11) := ⟨_, rfl⟩
  obtain ⟨G13, hG⟩ : ∃ z, z = znw G10 t11 (400 : Int32).toNatClampNeg := ⟨_, rfl⟩
  have h := h _ hq _ hG _ rfl
  refine z_newa (t := t11) (kd := 2) (pc' := 118) dX12_init_116 rfl (by decide) a_boolean rfl h4 h5 h6 h1 rfl h2 h3 ?_
  refine z_mk hq hG ?_
  obtain ⟨h1, h⟩ := h
  obtain ⟨G15, hG⟩ : ∃ z, z = zsr G13 q0 22 q_12 := ⟨_, rfl⟩
  have h := h _ hG
  refine z_putR (ci := 13) (kf := 22) (pc' := 121) dX12_init_118 kX12_51 (Or.inl rfl) (by decide) (by decide) rfl (Or.inr ⟨rfl, rfl⟩) rfl h1 ?_
  refine z_st hG ?_
  refine z_aload_n (pc' := 122) dX12_init_121 rfl rfl ?_
  refine z_bipush (x := 80) (pc' := 124) dX12_init_122 (by decide) rfl ?_
  obtain ⟨h1, h2, h3, t16, h4, h5, h6, h⟩ := h
  obtain ⟨q_17, hq⟩ : ∃ z, z = zp t16 (zcn G15 t16) := ⟨_, rfl⟩
  obtain ⟨G18, hG⟩ : ∃ z, z = znw G15 t16 (80 : Int32).toNatClampNeg := ⟨_, rfl⟩
  have h := h _ hq _ hG _ rfl
  refine z_newa (t := t16) (kd := 0) (pc' := 126) dX12_init_124 rfl (by decide) a_int rfl h4 h5 h6 h1 rfl h2 h3 ?_
  refine z_mk hq hG ?_
  obtain ⟨h1, h⟩ := h
  obtain ⟨G20, hG⟩ : ∃ z, z = zsr G18 q0 29 q_17 := ⟨_, rfl⟩
  have h := h _ hG
  refine z_putR (ci := 13) (kf := 29) (pc' := 129) dX12_init_126 kX12_55 (Or.inl rfl) (by decide) (by decide) rfl (Or.inr ⟨rfl, rfl⟩) rfl h1 ?_
  refine z_st hG ?_
  refine z_aload_n (pc' := 130) dX12_init_129 rfl rfl ?_
  refine z_bipush (x := 80) (pc' := 132) dX12_init_130 (by decide) rfl ?_
  obtain ⟨h1, h2, h3, t21, h4, h5, h6, h⟩ := h
  obtain ⟨q_22, hq⟩ : ∃ z, z = zp t21 (zcn G20 t21) := ⟨_, rfl⟩
  obtain ⟨G23, hG⟩ : ∃ z, z = znw G20 t21 (80 : Int32).toNatClampNeg := ⟨_, rfl⟩
  have h := h _ hq _ hG _ rfl
  refine z_newa (t := t21) (kd := 2) (pc' := 134) dX12_init_132 rfl (by decide) a_boolean rfl h4 h5 h6 h1 rfl h2 h3 ?_
  refine z_mk hq hG ?_
  obtain ⟨h1, h⟩ := h
  obtain ⟨G25, hG⟩ : ∃ z, z = zsr G23 q0 30 q_22 := ⟨_, rfl⟩
  have h := h _ hG
  refine z_putR (ci := 13) (kf := 30) (pc' := 137) dX12_init_134 kX12_58 (Or.inl rfl) (by decide) (by decide) rfl (Or.inr ⟨rfl, rfl⟩) rfl h1 ?_
  refine z_st hG ?_
  refine z_aload_n (pc' := 138) dX12_init_137 rfl rfl ?_
  refine z_sipush (x := 400) (pc' := 141) dX12_init_138 (by decide) rfl ?_
  obtain ⟨h1, h2, h3, t26, h4, h5, h6, h⟩ := h
  obtain ⟨q_27, hq⟩ : ∃ z, z = zp t26 (zcn G25 t26) := ⟨_, rfl⟩
  obtain ⟨G28, hG⟩ : ∃ z, z = znw G25 t26 (400 : Int32).toNatClampNeg := ⟨_, rfl⟩
  have h := h _ hq _ hG _ rfl
  refine z_newa (t := t26) (kd := 0) (pc' := 143) dX12_init_141 rfl (by decide) a_int rfl h4 h5 h6 h1 rfl h2 h3 ?_
  refine z_mk hq hG ?_
  obtain ⟨h1, h⟩ := h
  obtain ⟨G30, hG⟩ : ∃ z, z = zsr G28 q0 31 q_27 := ⟨_, rfl⟩
  have h := h _ hG
  refine z_putR (ci := 13) (kf := 31) (pc' := 146) dX12_init_143 kX12_61 (Or.inl rfl) (by decide) (by decide) rfl (Or.inr ⟨rfl, rfl⟩) rfl h1 ?_
  refine z_st hG ?_
  refine z_aload_n (pc' := 147) dX12_init_146 rfl rfl ?_
  refine z_sipush (x := 1920) (pc' := 150) dX12_init_147 (by decide) rfl ?_
  obtain ⟨h1, h2, h3, t31, h4, h5, h6, h⟩ := h
  obtain ⟨q_32, hq⟩ : ∃ z, z = zp t31 (zcn G30 t31) := ⟨_, rfl⟩
  obtain ⟨G33, hG⟩ : ∃ z, z = znw G30 t31 (1920 : Int32).toNatClampNeg := ⟨_, rfl⟩
  have h := h _ hq _ hG _ rfl
  refine z_newa (t := t31) (kd := 0) (pc' := 152) dX12_init_150 rfl (by decide) a_int rfl h4 h5 h6 h1 rfl h2 h3 ?_
  refine z_mk hq hG ?_
  obtain ⟨h1, h⟩ := h
  obtain ⟨G35, hG⟩ : ∃ z, z = zsr G33 q0 32 q_32 := ⟨_, rfl⟩
  have h := h _ hG
  refine z_putR (ci := 13) (kf := 32) (pc' := 155) dX12_init_152 kX12_64 (Or.inl rfl) (by decide) (by decide) rfl (Or.inr ⟨rfl, rfl⟩) rfl h1 ?_
  refine z_st hG ?_
  refine z_aload_n (pc' := 156) dX12_init_155 rfl rfl ?_
  refine z_bipush (x := 80) (pc' := 158) dX12_init_156 (by decide) rfl ?_
  obtain ⟨h1, h2, h3, t36, h4, h5, h6, h⟩ := h
  obtain ⟨q_37, hq⟩ : ∃ z, z = zp t36 (zcn G35 t36) := ⟨_, rfl⟩
  obtain ⟨G38, hG⟩ : ∃ z, z = znw G35 t36 (80 : Int32).toNatClampNeg := ⟨_, rfl⟩
  have h := h _ hq _ hG _ rfl
  refine z_newa (t := t36) (kd := 2) (pc' := 160) dX12_init_158 rfl (by decide) a_boolean rfl h4 h5 h6 h1 rfl h2 h3 ?_
  refine z_mk hq hG ?_
  obtain ⟨h1, h⟩ := h
  obtain ⟨G40, hG⟩ : ∃ z, z = zsr G38 q0 33 q_37 := ⟨_, rfl⟩
  have h := h _ hG
  refine z_putR (ci := 13) (kf := 33) (pc' := 163) dX12_init_160 kX12_67 (Or.inl rfl) (by decide) (by decide) rfl (Or.inr ⟨rfl, rfl⟩) rfl h1 ?_
  refine z_st hG ?_
  refine z_aload_n (pc' := 164) dX12_init_163 rfl rfl ?_
  refine z_sipush (x := 6400) (pc' := 167) dX12_init_164 (by decide) rfl ?_
  obtain ⟨h1, h2, h3, t41, h4, h5, h6, h⟩ := h
  obtain ⟨q_42, hq⟩ : ∃ z, z = zp t41 (zcn G40 t41) := ⟨_, rfl⟩
  obtain ⟨G43, hG⟩ : ∃ z, z = znw G40 t41 (6400 : Int32).toNatClampNeg := ⟨_, rfl⟩
  have h := h _ hq _ hG _ rfl
  refine z_newa (t := t41) (kd := 0) (pc' := 169) dX12_init_167 rfl (by decide) a_int rfl h4 h5 h6 h1 rfl h2 h3 ?_
  refine z_mk hq hG ?_
  obtain ⟨h1, h⟩ := h
  obtain ⟨G45, hG⟩ : ∃ z, z = zsr G43 q0 35 q_42 := ⟨_, rfl⟩
  have h := h _ hG
  refine z_putR (ci := 13) (kf := 35) (pc' := 172) dX12_init_169 kX12_70 (Or.inl rfl) (by decide) (by decide) rfl (Or.inr ⟨rfl, rfl⟩) rfl h1 ?_
  refine z_st hG ?_
  refine z_aload_n (pc' := 173) dX12_init_172 rfl rfl ?_
  refine z_bipush (x := 48) (pc' := 175) dX12_init_173 (by decide) rfl ?_
  obtain ⟨h1, h2, h3, t46, h4, h5, h6, h⟩ := h
  obtain ⟨q_47, hq⟩ : ∃ z, z = zp t46 (zcn G45 t46) := ⟨_, rfl⟩
  obtain ⟨G48, hG⟩ : ∃ z, z = znw G45 t46 (48 : Int32).toNatClampNeg := ⟨_, rfl⟩
  have h := h _ hq _ hG _ rfl
  refine z_newa (t := t46) (kd := 0) (pc' := 177) dX12_init_175 rfl (by decide) a_int rfl h4 h5 h6 h1 rfl h2 h3 ?_
  refine z_mk hq hG ?_
  obtain ⟨h1, h⟩ := h
  obtain ⟨G50, hG⟩ : ∃ z, z = zsr G48 q0 36 q_47 := ⟨_, rfl⟩
  have h := h _ hG
  refine z_putR (ci := 13) (kf := 36) (pc' := 180) dX12_init_177 kX12_73 (Or.inl rfl) (by decide) (by decide) rfl (Or.inr ⟨rfl, rfl⟩) rfl h1 ?_
  refine z_st hG ?_
  refine z_aload_n (pc' := 181) dX12_init_180 rfl rfl ?_
  refine z_bipush (x := 20) (pc' := 183) dX12_init_181 (by decide) rfl ?_
  obtain ⟨h1, h⟩ := h
  obtain ⟨G51, hG⟩ : ∃ z, z = zsi G50 q0 37 20 := ⟨_, rfl⟩
  have h := h _ hG
  refine z_putI (ci := 13) (kf := 37) (pc' := 186) dX12_init_183 kX12_76 (Or.inl rfl) (by decide) (by decide) rfl (Or.inl rfl) rfl h1 (zok_int _) ?_
  refine z_st hG ?_
  refine z_aload_n (pc' := 187) dX12_init_186 rfl rfl ?_
  refine z_bipush (x := 30) (pc' := 189) dX12_init_187 (by decide) rfl ?_
  obtain ⟨h1, h⟩ := h
  obtain ⟨G52, hG⟩ : ∃ z, z = zsi G51 q0 38 30 := ⟨_, rfl⟩
  have h := h _ hG
  refine z_putI (ci := 13) (kf := 38) (pc' := 192) dX12_init_189 kX12_79 (Or.inl rfl) (by decide) (by decide) rfl (Or.inl rfl) rfl h1 (zok_int _) ?_
  refine z_st hG ?_
  exact z_dr (ls' := [some (.ref q0)]) ⟨rfl, trivial⟩ h
def wp_X12_init_192 (E : ZE) (l : Launch) (d b : Nat) (G0 : ZG) (Q : ZQ) (k : Nat) (q0 : Nat) (G : ZG) : Prop :=
  zob G q0 13 ∧
  ∀ G1, G1 = zsi G q0 39 10 →
  zob G1 q0 13 ∧
  ∀ G2, G2 = zsi G1 q0 40 2 →
  zob G2 q0 13 ∧
  ∀ G3, G3 = zsi G2 q0 41 9 →
  zob G3 q0 13 ∧
  ∀ G4, G4 = zsi G3 q0 44 1 →
  ¬ (4 : Int32) < 0 ∧ (4 : Int32).toNatClampNeg ≤ 67108864 ∧ (4 : Int32).toNatClampNeg + 1 ≤ k ∧ ∃ t5, 1024 ≤ t5 ∧ t5 < 3584 ∧ (t5 - 1024) / 512 = 0 ∧
  ∀ q_6, q_6 = zp t5 (zcn G4 t5) → ∀ G7, G7 = znw G4 t5 (4 : Int32).toNatClampNeg → ∀ k8, k8 = k - ((4 : Int32).toNatClampNeg + 1) →
  zar G7 q_6 0 ∧ vp_in 0 (zln G7 q_6) ∧
  ∀ G9, G9 = zsi G7 q_6 (0 : Int32).toNatClampNeg 1 →
  zar G9 q_6 0 ∧ vp_in 1 (zln G9 q_6) ∧
  ∀ G10, G10 = zsi G9 q_6 (1 : Int32).toNatClampNeg 1 →
  zar G10 q_6 0 ∧ vp_in 2 (zln G10 q_6) ∧
  ∀ G11, G11 = zsi G10 q_6 (2 : Int32).toNatClampNeg 1 →
  zar G11 q_6 0 ∧ vp_in 3 (zln G11 q_6) ∧
  ∀ G12, G12 = zsi G11 q_6 (3 : Int32).toNatClampNeg 1 →
  zob G12 q0 13 ∧
  ∀ G13, G13 = zsr G12 q0 46 q_6 →
  ¬ (20 : Int32) < 0 ∧ (20 : Int32).toNatClampNeg ≤ 67108864 ∧ (20 : Int32).toNatClampNeg + 1 ≤ k8 ∧ ∃ t14, 1024 ≤ t14 ∧ t14 < 3584 ∧ (t14 - 1024) / 512 = 0 ∧
  ∀ q_15, q_15 = zp t14 (zcn G13 t14) → ∀ G16, G16 = znw G13 t14 (20 : Int32).toNatClampNeg → ∀ k17, k17 = k8 - ((20 : Int32).toNatClampNeg + 1) →
  zob G16 q0 13 ∧
  ∀ G18, G18 = zsr G16 q0 47 q_15 →
  ¬ (20 : Int32) < 0 ∧ (20 : Int32).toNatClampNeg ≤ 67108864 ∧ (20 : Int32).toNatClampNeg + 1 ≤ k17 ∧ ∃ t19, 1024 ≤ t19 ∧ t19 < 3584 ∧ (t19 - 1024) / 512 = 0 ∧
  ∀ q_20, q_20 = zp t19 (zcn G18 t19) → ∀ G21, G21 = znw G18 t19 (20 : Int32).toNatClampNeg → ∀ k22, k22 = k17 - ((20 : Int32).toNatClampNeg + 1) →
  zob G21 q0 13 ∧
  ∀ G23, G23 = zsr G21 q0 48 q_20 →
  ¬ (20 : Int32) < 0 ∧ (20 : Int32).toNatClampNeg ≤ 67108864 ∧ (20 : Int32).toNatClampNeg + 1 ≤ k22 ∧ ∃ t24, 1024 ≤ t24 ∧ t24 < 3584 ∧ (t24 - 1024) / 512 = 0 ∧
  ∀ q_25, q_25 = zp t24 (zcn G23 t24) → ∀ G26, G26 = znw G23 t24 (20 : Int32).toNatClampNeg → ∀ k27, k27 = k22 - ((20 : Int32).toNatClampNeg + 1) →
  zob G26 q0 13 ∧
  ∀ G28, G28 = zsr G26 q0 49 q_25 →
  ¬ (20 : Int32) < 0 ∧ (20 : Int32).toNatClampNeg ≤ 67108864 ∧ (20 : Int32).toNatClampNeg + 1 ≤ k27 ∧ ∃ t29, 1024 ≤ t29 ∧ t29 < 3584 ∧ (t29 - 1024) / 512 = 0 ∧
  ∀ q_30, q_30 = zp t29 (zcn G28 t29) → ∀ G31, G31 = znw G28 t29 (20 : Int32).toNatClampNeg → ∀ k32, k32 = k27 - ((20 : Int32).toNatClampNeg + 1) →
  zob G31 q0 13 ∧
  ∀ G33, G33 = zsr G31 q0 50 q_30 →
  zW E l mX12_init d b G0 Q k32 269 [some (.ref q0)] [] G33
theorem wpt_X12_init_192 {E : ZE} {l : Launch} {d b : Nat} {G0 : ZG} {Q : ZQ} {k : Nat} {q0 : Nat} {G : ZG} (h : wp_X12_init_192 E l d b G0 Q k q0 G) : zW E l mX12_init d b G0 Q k 192 [some (.ref q0)] [] G := by
  unfold wp_X12_init_192 at h
  refine z_aload_n (pc' := 193) dX12_init_192 rfl rfl ?_
  refine z_bipush (x := 10) (pc' := 195) dX12_init_193 (by decide) rfl ?_
  obtain ⟨h1, h⟩ := h
  obtain ⟨G1, hG⟩ : ∃ z, z = zsi G q0 39 10 := ⟨_, rfl⟩
  have h := h _ hG
  refine z_putI (ci := 13) (kf := 39) (pc' := 198) dX12_init_195 kX12_82 (Or.inl rfl) (by decide) (by decide) rfl (Or.inl rfl) rfl h1 (zok_int _) ?_
  refine z_st hG ?_
  refine z_aload_n (pc' := 199) dX12_init_198 rfl rfl ?_
  refine z_iconst (x := 2) (pc' := 200) dX12_init_199 (by decide) rfl ?_
  obtain ⟨h1, h⟩ := h
  obtain ⟨G2, hG⟩ : ∃ z, z = zsi G1 q0 40 2 := ⟨_, rfl⟩
  have h := h _ hG
  refine z_putI (ci := 13) (kf := 40) (pc' := 203) dX12_init_200 kX12_85 (Or.inl rfl) (by decide) (by decide) rfl (Or.inl rfl) rfl h1 (zok_int _) ?_
  refine z_st hG ?_
  refine z_aload_n (pc' := 204) dX12_init_203 rfl rfl ?_
  refine z_bipush (x := 9) (pc' := 206) dX12_init_204 (by decide) rfl ?_
  obtain ⟨h1, h⟩ := h
  obtain ⟨G3, hG⟩ : ∃ z, z = zsi G2 q0 41 9 := ⟨_, rfl⟩
  have h := h _ hG
  refine z_putI (ci := 13) (kf := 41) (pc' := 209) dX12_init_206 kX12_88 (Or.inl rfl) (by decide) (by decide) rfl (Or.inl rfl) rfl h1 (zok_int _) ?_
  refine z_st hG ?_
  refine z_aload_n (pc' := 210) dX12_init_209 rfl rfl ?_
  refine z_iconst (x := 1) (pc' := 211) dX12_init_210 (by decide) rfl ?_
  obtain ⟨h1, h⟩ := h
  obtain ⟨G4, hG⟩ : ∃ z, z = zsi G3 q0 44 1 := ⟨_, rfl⟩
  have h := h _ hG
  refine z_putI (ci := 13) (kf := 44) (pc' := 214) dX12_init_211 kX12_91 (Or.inl rfl) (by decide) (by decide) rfl (Or.inl rfl) rfl h1 (zok_int _) ?_
  refine z_st hG ?_
  refine z_aload_n (pc' := 215) dX12_init_214 rfl rfl ?_
  refine z_iconst (x := 4) (pc' := 216) dX12_init_215 (by decide) rfl ?_
  obtain ⟨h1, h2, h3, t5, h4, h5, h6, h⟩ := h
  obtain ⟨q_6, hq⟩ : ∃ z, z = zp t5 (zcn G4 t5) := ⟨_, rfl⟩
  obtain ⟨G7, hG⟩ : ∃ z, z = znw G4 t5 (4 : Int32).toNatClampNeg := ⟨_, rfl⟩
  have h := h _ hq _ hG _ rfl
  refine z_newa (t := t5) (kd := 0) (pc' := 218) dX12_init_216 rfl (by decide) a_int rfl h4 h5 h6 h1 rfl h2 h3 ?_
  refine z_mk hq hG ?_
  refine z_dup (pc' := 219) dX12_init_218 rfl rfl ?_
  refine z_iconst (x := 0) (pc' := 220) dX12_init_219 (by decide) rfl ?_
  refine z_iconst (x := 1) (pc' := 221) dX12_init_220 (by decide) rfl ?_
  obtain ⟨h1, h2, h⟩ := h
  obtain ⟨G9, hG⟩ : ∃ z, z = zsi G7 q_6 (0 : Int32).toNatClampNeg 1 := ⟨_, rfl⟩
  have h := h _ hG
  refine z_iast (pc' := 222) dX12_init_221 rfl h1 h2  ?_
  refine z_st hG ?_
  refine z_dup (pc' := 223) dX12_init_222 rfl rfl ?_
  refine z_iconst (x := 1) (pc' := 224) dX12_init_223 (by decide) rfl ?_
  refine z_iconst (x := 1) (pc' := 225) dX12_init_224 (by decide) rfl ?_
  obtain ⟨h1, h2, h⟩ := h
  obtain ⟨G10, hG⟩ : ∃ z, z = zsi G9 q_6 (1 : Int32).toNatClampNeg 1 := ⟨_, rfl⟩
  have h := h _ hG
  refine z_iast (pc' := 226) dX12_init_225 rfl h1 h2  ?_
  refine z_st hG ?_
  refine z_dup (pc' := 227) dX12_init_226 rfl rfl ?_
  refine z_iconst (x := 2) (pc' := 228) dX12_init_227 (by decide) rfl ?_
  refine z_iconst (x := 1) (pc' := 229) dX12_init_228 (by decide) rfl ?_
  obtain ⟨h1, h2, h⟩ := h
  obtain ⟨G11, hG⟩ : ∃ z, z = zsi G10 q_6 (2 : Int32).toNatClampNeg 1 := ⟨_, rfl⟩
  have h := h _ hG
  refine z_iast (pc' := 230) dX12_init_229 rfl h1 h2  ?_
  refine z_st hG ?_
  refine z_dup (pc' := 231) dX12_init_230 rfl rfl ?_
  refine z_iconst (x := 3) (pc' := 232) dX12_init_231 (by decide) rfl ?_
  refine z_iconst (x := 1) (pc' := 233) dX12_init_232 (by decide) rfl ?_
  obtain ⟨h1, h2, h⟩ := h
  obtain ⟨G12, hG⟩ : ∃ z, z = zsi G11 q_6 (3 : Int32).toNatClampNeg 1 := ⟨_, rfl⟩
  have h := h _ hG
  refine z_iast (pc' := 234) dX12_init_233 rfl h1 h2  ?_
  refine z_st hG ?_
  obtain ⟨h1, h⟩ := h
  obtain ⟨G13, hG⟩ : ∃ z, z = zsr G12 q0 46 q_6 := ⟨_, rfl⟩
  have h := h _ hG
  refine z_putR (ci := 13) (kf := 46) (pc' := 237) dX12_init_234 kX12_94 (Or.inl rfl) (by decide) (by decide) rfl (Or.inr ⟨rfl, rfl⟩) rfl h1 ?_
  refine z_st hG ?_
  refine z_aload_n (pc' := 238) dX12_init_237 rfl rfl ?_
  refine z_bipush (x := 20) (pc' := 240) dX12_init_238 (by decide) rfl ?_
  obtain ⟨h1, h2, h3, t14, h4, h5, h6, h⟩ := h
  obtain ⟨q_15, hq⟩ : ∃ z, z = zp t14 (zcn G13 t14) := ⟨_, rfl⟩
  obtain ⟨G16, hG⟩ : ∃ z, z = znw G13 t14 (20 : Int32).toNatClampNeg := ⟨_, rfl⟩
  have h := h _ hq _ hG _ rfl
  refine z_newa (t := t14) (kd := 0) (pc' := 242) dX12_init_240 rfl (by decide) a_int rfl h4 h5 h6 h1 rfl h2 h3 ?_
  refine z_mk hq hG ?_
  obtain ⟨h1, h⟩ := h
  obtain ⟨G18, hG⟩ : ∃ z, z = zsr G16 q0 47 q_15 := ⟨_, rfl⟩
  have h := h _ hG
  refine z_putR (ci := 13) (kf := 47) (pc' := 245) dX12_init_242 kX12_97 (Or.inl rfl) (by decide) (by decide) rfl (Or.inr ⟨rfl, rfl⟩) rfl h1 ?_
  refine z_st hG ?_
  refine z_aload_n (pc' := 246) dX12_init_245 rfl rfl ?_
  refine z_bipush (x := 20) (pc' := 248) dX12_init_246 (by decide) rfl ?_
  obtain ⟨h1, h2, h3, t19, h4, h5, h6, h⟩ := h
  obtain ⟨q_20, hq⟩ : ∃ z, z = zp t19 (zcn G18 t19) := ⟨_, rfl⟩
  obtain ⟨G21, hG⟩ : ∃ z, z = znw G18 t19 (20 : Int32).toNatClampNeg := ⟨_, rfl⟩
  have h := h _ hq _ hG _ rfl
  refine z_newa (t := t19) (kd := 0) (pc' := 250) dX12_init_248 rfl (by decide) a_int rfl h4 h5 h6 h1 rfl h2 h3 ?_
  refine z_mk hq hG ?_
  obtain ⟨h1, h⟩ := h
  obtain ⟨G23, hG⟩ : ∃ z, z = zsr G21 q0 48 q_20 := ⟨_, rfl⟩
  have h := h _ hG
  refine z_putR (ci := 13) (kf := 48) (pc' := 253) dX12_init_250 kX12_100 (Or.inl rfl) (by decide) (by decide) rfl (Or.inr ⟨rfl, rfl⟩) rfl h1 ?_
  refine z_st hG ?_
  refine z_aload_n (pc' := 254) dX12_init_253 rfl rfl ?_
  refine z_bipush (x := 20) (pc' := 256) dX12_init_254 (by decide) rfl ?_
  obtain ⟨h1, h2, h3, t24, h4, h5, h6, h⟩ := h
  obtain ⟨q_25, hq⟩ : ∃ z, z = zp t24 (zcn G23 t24) := ⟨_, rfl⟩
  obtain ⟨G26, hG⟩ : ∃ z, z = znw G23 t24 (20 : Int32).toNatClampNeg := ⟨_, rfl⟩
  have h := h _ hq _ hG _ rfl
  refine z_newa (t := t24) (kd := 0) (pc' := 258) dX12_init_256 rfl (by decide) a_int rfl h4 h5 h6 h1 rfl h2 h3 ?_
  refine z_mk hq hG ?_
  obtain ⟨h1, h⟩ := h
  obtain ⟨G28, hG⟩ : ∃ z, z = zsr G26 q0 49 q_25 := ⟨_, rfl⟩
  have h := h _ hG
  refine z_putR (ci := 13) (kf := 49) (pc' := 261) dX12_init_258 kX12_103 (Or.inl rfl) (by decide) (by decide) rfl (Or.inr ⟨rfl, rfl⟩) rfl h1 ?_
  refine z_st hG ?_
  refine z_aload_n (pc' := 262) dX12_init_261 rfl rfl ?_
  refine z_bipush (x := 20) (pc' := 264) dX12_init_262 (by decide) rfl ?_
  obtain ⟨h1, h2, h3, t29, h4, h5, h6, h⟩ := h
  obtain ⟨q_30, hq⟩ : ∃ z, z = zp t29 (zcn G28 t29) := ⟨_, rfl⟩
  obtain ⟨G31, hG⟩ : ∃ z, z = znw G28 t29 (20 : Int32).toNatClampNeg := ⟨_, rfl⟩
  have h := h _ hq _ hG _ rfl
  refine z_newa (t := t29) (kd := 0) (pc' := 266) dX12_init_264 rfl (by decide) a_int rfl h4 h5 h6 h1 rfl h2 h3 ?_
  refine z_mk hq hG ?_
  obtain ⟨h1, h⟩ := h
  obtain ⟨G33, hG⟩ : ∃ z, z = zsr G31 q0 50 q_30 := ⟨_, rfl⟩
  have h := h _ hG
  refine z_putR (ci := 13) (kf := 50) (pc' := 269) dX12_init_266 kX12_106 (Or.inl rfl) (by decide) (by decide) rfl (Or.inr ⟨rfl, rfl⟩) rfl h1 ?_
  refine z_st hG ?_
  exact z_dr (ls' := [some (.ref q0)]) ⟨rfl, trivial⟩ h
def wp_X12_init_269 (E : ZE) (l : Launch) (d b : Nat) (G0 : ZG) (Q : ZQ) (k : Nat) (q0 : Nat) (G : ZG) : Prop :=
  ¬ (20 : Int32) < 0 ∧ (20 : Int32).toNatClampNeg ≤ 67108864 ∧ (20 : Int32).toNatClampNeg + 1 ≤ k ∧ ∃ t1, 1024 ≤ t1 ∧ t1 < 3584 ∧ (t1 - 1024) / 512 = 0 ∧
  ∀ q_2, q_2 = zp t1 (zcn G t1) → ∀ G3, G3 = znw G t1 (20 : Int32).toNatClampNeg → ∀ k4, k4 = k - ((20 : Int32).toNatClampNeg + 1) →
  zob G3 q0 13 ∧
  ∀ G5, G5 = zsr G3 q0 51 q_2 →
  ¬ (120 : Int32) < 0 ∧ (120 : Int32).toNatClampNeg ≤ 67108864 ∧ (120 : Int32).toNatClampNeg + 1 ≤ k4 ∧ ∃ t6, 1024 ≤ t6 ∧ t6 < 3584 ∧ (t6 - 1024) / 512 = 0 ∧
  ∀ q_7, q_7 = zp t6 (zcn G5 t6) → ∀ G8, G8 = znw G5 t6 (120 : Int32).toNatClampNeg → ∀ k9, k9 = k4 - ((120 : Int32).toNatClampNeg + 1) →
  zob G8 q0 13 ∧
  ∀ G10, G10 = zsr G8 q0 53 q_7 →
  ¬ (120 : Int32) < 0 ∧ (120 : Int32).toNatClampNeg ≤ 67108864 ∧ (120 : Int32).toNatClampNeg + 1 ≤ k9 ∧ ∃ t11, 1024 ≤ t11 ∧ t11 < 3584 ∧ (t11 - 1024) / 512 = 0 ∧
  ∀ q_12, q_12 = zp t11 (zcn G10 t11) → ∀ G13, G13 = znw G10 t11 (120 : Int32).toNatClampNeg → ∀ k14, k14 = k9 - ((120 : Int32).toNatClampNeg + 1) →
  zob G13 q0 13 ∧
  ∀ G15, G15 = zsr G13 q0 54 q_12 →
  ¬ (120 : Int32) < 0 ∧ (120 : Int32).toNatClampNeg ≤ 67108864 ∧ (120 : Int32).toNatClampNeg + 1 ≤ k14 ∧ ∃ t16, 1024 ≤ t16 ∧ t16 < 3584 ∧ (t16 - 1024) / 512 = 0 ∧
  ∀ q_17, q_17 = zp t16 (zcn G15 t16) → ∀ G18, G18 = znw G15 t16 (120 : Int32).toNatClampNeg → ∀ k19, k19 = k14 - ((120 : Int32).toNatClampNeg + 1) →
  zob G18 q0 13 ∧
  ∀ G20, G20 = zsr G18 q0 55 q_17 →
  ¬ (120 : Int32) < 0 ∧ (120 : Int32).toNatClampNeg ≤ 67108864 ∧ (120 : Int32).toNatClampNeg + 1 ≤ k19 ∧ ∃ t21, 1024 ≤ t21 ∧ t21 < 3584 ∧ (t21 - 1024) / 512 = 0 ∧
  ∀ q_22, q_22 = zp t21 (zcn G20 t21) → ∀ G23, G23 = znw G20 t21 (120 : Int32).toNatClampNeg → ∀ k24, k24 = k19 - ((120 : Int32).toNatClampNeg + 1) →
  zob G23 q0 13 ∧
  ∀ G25, G25 = zsr G23 q0 56 q_22 →
  ¬ (120 : Int32) < 0 ∧ (120 : Int32).toNatClampNeg ≤ 67108864 ∧ (120 : Int32).toNatClampNeg + 1 ≤ k24 ∧ ∃ t26, 1024 ≤ t26 ∧ t26 < 3584 ∧ (t26 - 1024) / 512 = 0 ∧
  ∀ q_27, q_27 = zp t26 (zcn G25 t26) → ∀ G28, G28 = znw G25 t26 (120 : Int32).toNatClampNeg → ∀ k29, k29 = k24 - ((120 : Int32).toNatClampNeg + 1) →
  zob G28 q0 13 ∧
  ∀ G30, G30 = zsr G28 q0 57 q_27 →
  ¬ (120 : Int32) < 0 ∧ (120 : Int32).toNatClampNeg ≤ 67108864 ∧ (120 : Int32).toNatClampNeg + 1 ≤ k29 ∧ ∃ t31, 1024 ≤ t31 ∧ t31 < 3584 ∧ (t31 - 1024) / 512 = 2 ∧
  ∀ q_32, q_32 = zp t31 (zcn G30 t31) → ∀ G33, G33 = znw G30 t31 (120 : Int32).toNatClampNeg → ∀ k34, k34 = k29 - ((120 : Int32).toNatClampNeg + 1) →
  zob G33 q0 13 ∧
  ∀ G35, G35 = zsr G33 q0 58 q_32 →
  ¬ (120 : Int32) < 0 ∧ (120 : Int32).toNatClampNeg ≤ 67108864 ∧ (120 : Int32).toNatClampNeg + 1 ≤ k34 ∧ ∃ t36, 1024 ≤ t36 ∧ t36 < 3584 ∧ (t36 - 1024) / 512 = 0 ∧
  ∀ q_37, q_37 = zp t36 (zcn G35 t36) → ∀ G38, G38 = znw G35 t36 (120 : Int32).toNatClampNeg → ∀ k39, k39 = k34 - ((120 : Int32).toNatClampNeg + 1) →
  zob G38 q0 13 ∧
  ∀ G40, G40 = zsr G38 q0 59 q_37 →
  ¬ (120 : Int32) < 0 ∧ (120 : Int32).toNatClampNeg ≤ 67108864 ∧ (120 : Int32).toNatClampNeg + 1 ≤ k39 ∧ ∃ t41, 1024 ≤ t41 ∧ t41 < 3584 ∧ (t41 - 1024) / 512 = 0 ∧
  ∀ q_42, q_42 = zp t41 (zcn G40 t41) → ∀ G43, G43 = znw G40 t41 (120 : Int32).toNatClampNeg → ∀ k44, k44 = k39 - ((120 : Int32).toNatClampNeg + 1) →
  zob G43 q0 13 ∧
  ∀ G45, G45 = zsr G43 q0 60 q_42 →
  ¬ (120 : Int32) < 0 ∧ (120 : Int32).toNatClampNeg ≤ 67108864 ∧ (120 : Int32).toNatClampNeg + 1 ≤ k44 ∧ ∃ t46, 1024 ≤ t46 ∧ t46 < 3584 ∧ (t46 - 1024) / 512 = 0 ∧
  ∀ q_47, q_47 = zp t46 (zcn G45 t46) → ∀ G48, G48 = znw G45 t46 (120 : Int32).toNatClampNeg → ∀ k49, k49 = k44 - ((120 : Int32).toNatClampNeg + 1) →
  zob G48 q0 13 ∧
  ∀ G50, G50 = zsr G48 q0 61 q_47 →
  ¬ (120 : Int32) < 0 ∧ (120 : Int32).toNatClampNeg ≤ 67108864 ∧ (120 : Int32).toNatClampNeg + 1 ≤ k49 ∧ ∃ t51, 1024 ≤ t51 ∧ t51 < 3584 ∧ (t51 - 1024) / 512 = 0 ∧
  ∀ q_52, q_52 = zp t51 (zcn G50 t51) → ∀ G53, G53 = znw G50 t51 (120 : Int32).toNatClampNeg → ∀ k54, k54 = k49 - ((120 : Int32).toNatClampNeg + 1) →
  zob G53 q0 13 ∧
  ∀ G55, G55 = zsr G53 q0 62 q_52 →
  ¬ (120 : Int32) < 0 ∧ (120 : Int32).toNatClampNeg ≤ 67108864 ∧ (120 : Int32).toNatClampNeg + 1 ≤ k54 ∧ ∃ t56, 1024 ≤ t56 ∧ t56 < 3584 ∧ (t56 - 1024) / 512 = 2 ∧
  ∀ q_57, q_57 = zp t56 (zcn G55 t56) → ∀ G58, G58 = znw G55 t56 (120 : Int32).toNatClampNeg → ∀ k59, k59 = k54 - ((120 : Int32).toNatClampNeg + 1) →
  zob G58 q0 13 ∧
  ∀ G60, G60 = zsr G58 q0 63 q_57 →
  zW E l mX12_init d b G0 Q k59 365 [some (.ref q0)] [] G60
theorem wpt_X12_init_269 {E : ZE} {l : Launch} {d b : Nat} {G0 : ZG} {Q : ZQ} {k : Nat} {q0 : Nat} {G : ZG} (h : wp_X12_init_269 E l d b G0 Q k q0 G) : zW E l mX12_init d b G0 Q k 269 [some (.ref q0)] [] G := by
  unfold wp_X12_init_269 at h
  refine z_aload_n (pc' := 270) dX12_init_269 rfl rfl ?_
  refine z_bipush (x := 20) (pc' := 272) dX12_init_270 (by decide) rfl ?_
  obtain ⟨h1, h2, h3, t1, h4, h5, h6, h⟩ := h
  obtain ⟨q_2, hq⟩ : ∃ z, z = zp t1 (zcn G t1) := ⟨_, rfl⟩
  obtain ⟨G3, hG⟩ : ∃ z, z = znw G t1 (20 : Int32).toNatClampNeg := ⟨_, rfl⟩
  have h := h _ hq _ hG _ rfl
  refine z_newa (t := t1) (kd := 0) (pc' := 274) dX12_init_272 rfl (by decide) a_int rfl h4 h5 h6 h1 rfl h2 h3 ?_
  refine z_mk hq hG ?_
  obtain ⟨h1, h⟩ := h
  obtain ⟨G5, hG⟩ : ∃ z, z = zsr G3 q0 51 q_2 := ⟨_, rfl⟩
  have h := h _ hG
  refine z_putR (ci := 13) (kf := 51) (pc' := 277) dX12_init_274 kX12_109 (Or.inl rfl) (by decide) (by decide) rfl (Or.inr ⟨rfl, rfl⟩) rfl h1 ?_
  refine z_st hG ?_
  refine z_aload_n (pc' := 278) dX12_init_277 rfl rfl ?_
  refine z_bipush (x := 120) (pc' := 280) dX12_init_278 (by decide) rfl ?_
  obtain ⟨h1, h2, h3, t6, h4, h5, h6, h⟩ := h
  obtain ⟨q_7, hq⟩ : ∃ z, z = zp t6 (zcn G5 t6) := ⟨_, rfl⟩
  obtain ⟨G8, hG⟩ : ∃ z, z = znw G5 t6 (120 : Int32).toNatClampNeg := ⟨_, rfl⟩
  have h := h _ hq _ hG _ rfl
  refine z_newa (t := t6) (kd := 0) (pc' := 282) dX12_init_280 rfl (by decide) a_int rfl h4 h5 h6 h1 rfl h2 h3 ?_
  refine z_mk hq hG ?_
  obtain ⟨h1, h⟩ := h
  obtain ⟨G10, hG⟩ : ∃ z, z = zsr G8 q0 53 q_7 := ⟨_, rfl⟩
  have h := h _ hG
  refine z_putR (ci := 13) (kf := 53) (pc' := 285) dX12_init_282 kX12_112 (Or.inl rfl) (by decide) (by decide) rfl (Or.inr ⟨rfl, rfl⟩) rfl h1 ?_
  refine z_st hG ?_
  refine z_aload_n (pc' := 286) dX12_init_285 rfl rfl ?_
  refine z_bipush (x := 120) (pc' := 288) dX12_init_286 (by decide) rfl ?_
  obtain ⟨h1, h2, h3, t11, h4, h5, h6, h⟩ := h
  obtain ⟨q_12, hq⟩ : ∃ z, z = zp t11 (zcn G10 t11) := ⟨_, rfl⟩
  obtain ⟨G13, hG⟩ : ∃ z, z = znw G10 t11 (120 : Int32).toNatClampNeg := ⟨_, rfl⟩
  have h := h _ hq _ hG _ rfl
  refine z_newa (t := t11) (kd := 0) (pc' := 290) dX12_init_288 rfl (by decide) a_int rfl h4 h5 h6 h1 rfl h2 h3 ?_
  refine z_mk hq hG ?_
  obtain ⟨h1, h⟩ := h
  obtain ⟨G15, hG⟩ : ∃ z, z = zsr G13 q0 54 q_12 := ⟨_, rfl⟩
  have h := h _ hG
  refine z_putR (ci := 13) (kf := 54) (pc' := 293) dX12_init_290 kX12_115 (Or.inl rfl) (by decide) (by decide) rfl (Or.inr ⟨rfl, rfl⟩) rfl h1 ?_
  refine z_st hG ?_
  refine z_aload_n (pc' := 294) dX12_init_293 rfl rfl ?_
  refine z_bipush (x := 120) (pc' := 296) dX12_init_294 (by decide) rfl ?_
  obtain ⟨h1, h2, h3, t16, h4, h5, h6, h⟩ := h
  obtain ⟨q_17, hq⟩ : ∃ z, z = zp t16 (zcn G15 t16) := ⟨_, rfl⟩
  obtain ⟨G18, hG⟩ : ∃ z, z = znw G15 t16 (120 : Int32).toNatClampNeg := ⟨_, rfl⟩
  have h := h _ hq _ hG _ rfl
  refine z_newa (t := t16) (kd := 0) (pc' := 298) dX12_init_296 rfl (by decide) a_int rfl h4 h5 h6 h1 rfl h2 h3 ?_
  refine z_mk hq hG ?_
  obtain ⟨h1, h⟩ := h
  obtain ⟨G20, hG⟩ : ∃ z, z = zsr G18 q0 55 q_17 := ⟨_, rfl⟩
  have h := h _ hG
  refine z_putR (ci := 13) (kf := 55) (pc' := 301) dX12_init_298 kX12_118 (Or.inl rfl) (by decide) (by decide) rfl (Or.inr ⟨rfl, rfl⟩) rfl h1 ?_
  refine z_st hG ?_
  refine z_aload_n (pc' := 302) dX12_init_301 rfl rfl ?_
  refine z_bipush (x := 120) (pc' := 304) dX12_init_302 (by decide) rfl ?_
  obtain ⟨h1, h2, h3, t21, h4, h5, h6, h⟩ := h
  obtain ⟨q_22, hq⟩ : ∃ z, z = zp t21 (zcn G20 t21) := ⟨_, rfl⟩
  obtain ⟨G23, hG⟩ : ∃ z, z = znw G20 t21 (120 : Int32).toNatClampNeg := ⟨_, rfl⟩
  have h := h _ hq _ hG _ rfl
  refine z_newa (t := t21) (kd := 0) (pc' := 306) dX12_init_304 rfl (by decide) a_int rfl h4 h5 h6 h1 rfl h2 h3 ?_
  refine z_mk hq hG ?_
  obtain ⟨h1, h⟩ := h
  obtain ⟨G25, hG⟩ : ∃ z, z = zsr G23 q0 56 q_22 := ⟨_, rfl⟩
  have h := h _ hG
  refine z_putR (ci := 13) (kf := 56) (pc' := 309) dX12_init_306 kX12_121 (Or.inl rfl) (by decide) (by decide) rfl (Or.inr ⟨rfl, rfl⟩) rfl h1 ?_
  refine z_st hG ?_
  refine z_aload_n (pc' := 310) dX12_init_309 rfl rfl ?_
  refine z_bipush (x := 120) (pc' := 312) dX12_init_310 (by decide) rfl ?_
  obtain ⟨h1, h2, h3, t26, h4, h5, h6, h⟩ := h
  obtain ⟨q_27, hq⟩ : ∃ z, z = zp t26 (zcn G25 t26) := ⟨_, rfl⟩
  obtain ⟨G28, hG⟩ : ∃ z, z = znw G25 t26 (120 : Int32).toNatClampNeg := ⟨_, rfl⟩
  have h := h _ hq _ hG _ rfl
  refine z_newa (t := t26) (kd := 0) (pc' := 314) dX12_init_312 rfl (by decide) a_int rfl h4 h5 h6 h1 rfl h2 h3 ?_
  refine z_mk hq hG ?_
  obtain ⟨h1, h⟩ := h
  obtain ⟨G30, hG⟩ : ∃ z, z = zsr G28 q0 57 q_27 := ⟨_, rfl⟩
  have h := h _ hG
  refine z_putR (ci := 13) (kf := 57) (pc' := 317) dX12_init_314 kX12_124 (Or.inl rfl) (by decide) (by decide) rfl (Or.inr ⟨rfl, rfl⟩) rfl h1 ?_
  refine z_st hG ?_
  refine z_aload_n (pc' := 318) dX12_init_317 rfl rfl ?_
  refine z_bipush (x := 120) (pc' := 320) dX12_init_318 (by decide) rfl ?_
  obtain ⟨h1, h2, h3, t31, h4, h5, h6, h⟩ := h
  obtain ⟨q_32, hq⟩ : ∃ z, z = zp t31 (zcn G30 t31) := ⟨_, rfl⟩
  obtain ⟨G33, hG⟩ : ∃ z, z = znw G30 t31 (120 : Int32).toNatClampNeg := ⟨_, rfl⟩
  have h := h _ hq _ hG _ rfl
  refine z_newa (t := t31) (kd := 2) (pc' := 322) dX12_init_320 rfl (by decide) a_boolean rfl h4 h5 h6 h1 rfl h2 h3 ?_
  refine z_mk hq hG ?_
  obtain ⟨h1, h⟩ := h
  obtain ⟨G35, hG⟩ : ∃ z, z = zsr G33 q0 58 q_32 := ⟨_, rfl⟩
  have h := h _ hG
  refine z_putR (ci := 13) (kf := 58) (pc' := 325) dX12_init_322 kX12_127 (Or.inl rfl) (by decide) (by decide) rfl (Or.inr ⟨rfl, rfl⟩) rfl h1 ?_
  refine z_st hG ?_
  refine z_aload_n (pc' := 326) dX12_init_325 rfl rfl ?_
  refine z_bipush (x := 120) (pc' := 328) dX12_init_326 (by decide) rfl ?_
  obtain ⟨h1, h2, h3, t36, h4, h5, h6, h⟩ := h
  obtain ⟨q_37, hq⟩ : ∃ z, z = zp t36 (zcn G35 t36) := ⟨_, rfl⟩
  obtain ⟨G38, hG⟩ : ∃ z, z = znw G35 t36 (120 : Int32).toNatClampNeg := ⟨_, rfl⟩
  have h := h _ hq _ hG _ rfl
  refine z_newa (t := t36) (kd := 0) (pc' := 330) dX12_init_328 rfl (by decide) a_int rfl h4 h5 h6 h1 rfl h2 h3 ?_
  refine z_mk hq hG ?_
  obtain ⟨h1, h⟩ := h
  obtain ⟨G40, hG⟩ : ∃ z, z = zsr G38 q0 59 q_37 := ⟨_, rfl⟩
  have h := h _ hG
  refine z_putR (ci := 13) (kf := 59) (pc' := 333) dX12_init_330 kX12_130 (Or.inl rfl) (by decide) (by decide) rfl (Or.inr ⟨rfl, rfl⟩) rfl h1 ?_
  refine z_st hG ?_
  refine z_aload_n (pc' := 334) dX12_init_333 rfl rfl ?_
  refine z_bipush (x := 120) (pc' := 336) dX12_init_334 (by decide) rfl ?_
  obtain ⟨h1, h2, h3, t41, h4, h5, h6, h⟩ := h
  obtain ⟨q_42, hq⟩ : ∃ z, z = zp t41 (zcn G40 t41) := ⟨_, rfl⟩
  obtain ⟨G43, hG⟩ : ∃ z, z = znw G40 t41 (120 : Int32).toNatClampNeg := ⟨_, rfl⟩
  have h := h _ hq _ hG _ rfl
  refine z_newa (t := t41) (kd := 0) (pc' := 338) dX12_init_336 rfl (by decide) a_int rfl h4 h5 h6 h1 rfl h2 h3 ?_
  refine z_mk hq hG ?_
  obtain ⟨h1, h⟩ := h
  obtain ⟨G45, hG⟩ : ∃ z, z = zsr G43 q0 60 q_42 := ⟨_, rfl⟩
  have h := h _ hG
  refine z_putR (ci := 13) (kf := 60) (pc' := 341) dX12_init_338 kX12_133 (Or.inl rfl) (by decide) (by decide) rfl (Or.inr ⟨rfl, rfl⟩) rfl h1 ?_
  refine z_st hG ?_
  refine z_aload_n (pc' := 342) dX12_init_341 rfl rfl ?_
  refine z_bipush (x := 120) (pc' := 344) dX12_init_342 (by decide) rfl ?_
  obtain ⟨h1, h2, h3, t46, h4, h5, h6, h⟩ := h
  obtain ⟨q_47, hq⟩ : ∃ z, z = zp t46 (zcn G45 t46) := ⟨_, rfl⟩
  obtain ⟨G48, hG⟩ : ∃ z, z = znw G45 t46 (120 : Int32).toNatClampNeg := ⟨_, rfl⟩
  have h := h _ hq _ hG _ rfl
  refine z_newa (t := t46) (kd := 0) (pc' := 346) dX12_init_344 rfl (by decide) a_int rfl h4 h5 h6 h1 rfl h2 h3 ?_
  refine z_mk hq hG ?_
  obtain ⟨h1, h⟩ := h
  obtain ⟨G50, hG⟩ : ∃ z, z = zsr G48 q0 61 q_47 := ⟨_, rfl⟩
  have h := h _ hG
  refine z_putR (ci := 13) (kf := 61) (pc' := 349) dX12_init_346 kX12_136 (Or.inl rfl) (by decide) (by decide) rfl (Or.inr ⟨rfl, rfl⟩) rfl h1 ?_
  refine z_st hG ?_
  refine z_aload_n (pc' := 350) dX12_init_349 rfl rfl ?_
  refine z_bipush (x := 120) (pc' := 352) dX12_init_350 (by decide) rfl ?_
  obtain ⟨h1, h2, h3, t51, h4, h5, h6, h⟩ := h
  obtain ⟨q_52, hq⟩ : ∃ z, z = zp t51 (zcn G50 t51) := ⟨_, rfl⟩
  obtain ⟨G53, hG⟩ : ∃ z, z = znw G50 t51 (120 : Int32).toNatClampNeg := ⟨_, rfl⟩
  have h := h _ hq _ hG _ rfl
  refine z_newa (t := t51) (kd := 0) (pc' := 354) dX12_init_352 rfl (by decide) a_int rfl h4 h5 h6 h1 rfl h2 h3 ?_
  refine z_mk hq hG ?_
  obtain ⟨h1, h⟩ := h
  obtain ⟨G55, hG⟩ : ∃ z, z = zsr G53 q0 62 q_52 := ⟨_, rfl⟩
  have h := h _ hG
  refine z_putR (ci := 13) (kf := 62) (pc' := 357) dX12_init_354 kX12_139 (Or.inl rfl) (by decide) (by decide) rfl (Or.inr ⟨rfl, rfl⟩) rfl h1 ?_
  refine z_st hG ?_
  refine z_aload_n (pc' := 358) dX12_init_357 rfl rfl ?_
  refine z_bipush (x := 120) (pc' := 360) dX12_init_358 (by decide) rfl ?_
  obtain ⟨h1, h2, h3, t56, h4, h5, h6, h⟩ := h
  obtain ⟨q_57, hq⟩ : ∃ z, z = zp t56 (zcn G55 t56) := ⟨_, rfl⟩
  obtain ⟨G58, hG⟩ : ∃ z, z = znw G55 t56 (120 : Int32).toNatClampNeg := ⟨_, rfl⟩
  have h := h _ hq _ hG _ rfl
  refine z_newa (t := t56) (kd := 2) (pc' := 362) dX12_init_360 rfl (by decide) a_boolean rfl h4 h5 h6 h1 rfl h2 h3 ?_
  refine z_mk hq hG ?_
  obtain ⟨h1, h⟩ := h
  obtain ⟨G60, hG⟩ : ∃ z, z = zsr G58 q0 63 q_57 := ⟨_, rfl⟩
  have h := h _ hG
  refine z_putR (ci := 13) (kf := 63) (pc' := 365) dX12_init_362 kX12_142 (Or.inl rfl) (by decide) (by decide) rfl (Or.inr ⟨rfl, rfl⟩) rfl h1 ?_
  refine z_st hG ?_
  exact z_dr (ls' := [some (.ref q0)]) ⟨rfl, trivial⟩ h
def wp_X12_init_365 (E : ZE) (l : Launch) (d b : Nat) (G0 : ZG) (Q : ZQ) (k : Nat) (q0 : Nat) (G : ZG) : Prop :=
  ¬ (120 : Int32) < 0 ∧ (120 : Int32).toNatClampNeg ≤ 67108864 ∧ (120 : Int32).toNatClampNeg + 1 ≤ k ∧ ∃ t1, 1024 ≤ t1 ∧ t1 < 3584 ∧ (t1 - 1024) / 512 = 0 ∧
  ∀ q_2, q_2 = zp t1 (zcn G t1) → ∀ G3, G3 = znw G t1 (120 : Int32).toNatClampNeg → ∀ k4, k4 = k - ((120 : Int32).toNatClampNeg + 1) →
  zob G3 q0 13 ∧
  ∀ G5, G5 = zsr G3 q0 64 q_2 →
  ¬ (840 : Int32) < 0 ∧ (840 : Int32).toNatClampNeg ≤ 67108864 ∧ (840 : Int32).toNatClampNeg + 1 ≤ k4 ∧ ∃ t6, 1024 ≤ t6 ∧ t6 < 3584 ∧ (t6 - 1024) / 512 = 0 ∧
  ∀ q_7, q_7 = zp t6 (zcn G5 t6) → ∀ G8, G8 = znw G5 t6 (840 : Int32).toNatClampNeg → ∀ k9, k9 = k4 - ((840 : Int32).toNatClampNeg + 1) →
  zob G8 q0 13 ∧
  ∀ G10, G10 = zsr G8 q0 65 q_7 →
  ¬ (150 : Int32) < 0 ∧ (150 : Int32).toNatClampNeg ≤ 67108864 ∧ (150 : Int32).toNatClampNeg + 1 ≤ k9 ∧ ∃ t11, 1024 ≤ t11 ∧ t11 < 3584 ∧ (t11 - 1024) / 512 = 0 ∧
  ∀ q_12, q_12 = zp t11 (zcn G10 t11) → ∀ G13, G13 = znw G10 t11 (150 : Int32).toNatClampNeg → ∀ k14, k14 = k9 - ((150 : Int32).toNatClampNeg + 1) →
  zob G13 q0 13 ∧
  ∀ G15, G15 = zsr G13 q0 67 q_12 →
  ¬ (150 : Int32) < 0 ∧ (150 : Int32).toNatClampNeg ≤ 67108864 ∧ (150 : Int32).toNatClampNeg + 1 ≤ k14 ∧ ∃ t16, 1024 ≤ t16 ∧ t16 < 3584 ∧ (t16 - 1024) / 512 = 0 ∧
  ∀ q_17, q_17 = zp t16 (zcn G15 t16) → ∀ G18, G18 = znw G15 t16 (150 : Int32).toNatClampNeg → ∀ k19, k19 = k14 - ((150 : Int32).toNatClampNeg + 1) →
  zob G18 q0 13 ∧
  ∀ G20, G20 = zsr G18 q0 68 q_17 →
  ¬ (150 : Int32) < 0 ∧ (150 : Int32).toNatClampNeg ≤ 67108864 ∧ (150 : Int32).toNatClampNeg + 1 ≤ k19 ∧ ∃ t21, 1024 ≤ t21 ∧ t21 < 3584 ∧ (t21 - 1024) / 512 = 0 ∧
  ∀ q_22, q_22 = zp t21 (zcn G20 t21) → ∀ G23, G23 = znw G20 t21 (150 : Int32).toNatClampNeg → ∀ k24, k24 = k19 - ((150 : Int32).toNatClampNeg + 1) →
  zob G23 q0 13 ∧
  ∀ G25, G25 = zsr G23 q0 69 q_22 →
  ¬ (150 : Int32) < 0 ∧ (150 : Int32).toNatClampNeg ≤ 67108864 ∧ (150 : Int32).toNatClampNeg + 1 ≤ k24 ∧ ∃ t26, 1024 ≤ t26 ∧ t26 < 3584 ∧ (t26 - 1024) / 512 = 0 ∧
  ∀ q_27, q_27 = zp t26 (zcn G25 t26) → ∀ G28, G28 = znw G25 t26 (150 : Int32).toNatClampNeg → ∀ k29, k29 = k24 - ((150 : Int32).toNatClampNeg + 1) →
  zob G28 q0 13 ∧
  ∀ G30, G30 = zsr G28 q0 70 q_27 →
  ¬ (120 : Int32) < 0 ∧ (120 : Int32).toNatClampNeg ≤ 67108864 ∧ (120 : Int32).toNatClampNeg + 1 ≤ k29 ∧ ∃ t31, 1024 ≤ t31 ∧ t31 < 3584 ∧ (t31 - 1024) / 512 = 0 ∧
  ∀ q_32, q_32 = zp t31 (zcn G30 t31) → ∀ G33, G33 = znw G30 t31 (120 : Int32).toNatClampNeg → ∀ k34, k34 = k29 - ((120 : Int32).toNatClampNeg + 1) →
  zob G33 q0 13 ∧
  ∀ G35, G35 = zsr G33 q0 77 q_32 →
  ¬ (840 : Int32) < 0 ∧ (840 : Int32).toNatClampNeg ≤ 67108864 ∧ (840 : Int32).toNatClampNeg + 1 ≤ k34 ∧ ∃ t36, 1024 ≤ t36 ∧ t36 < 3584 ∧ (t36 - 1024) / 512 = 0 ∧
  ∀ q_37, q_37 = zp t36 (zcn G35 t36) → ∀ G38, G38 = znw G35 t36 (840 : Int32).toNatClampNeg → ∀ k39, k39 = k34 - ((840 : Int32).toNatClampNeg + 1) →
  zob G38 q0 13 ∧
  ∀ G40, G40 = zsr G38 q0 79 q_37 →
  ¬ (150 : Int32) < 0 ∧ (150 : Int32).toNatClampNeg ≤ 67108864 ∧ (150 : Int32).toNatClampNeg + 1 ≤ k39 ∧ ∃ t41, 1024 ≤ t41 ∧ t41 < 3584 ∧ (t41 - 1024) / 512 = 0 ∧
  ∀ q_42, q_42 = zp t41 (zcn G40 t41) → ∀ G43, G43 = znw G40 t41 (150 : Int32).toNatClampNeg → ∀ k44, k44 = k39 - ((150 : Int32).toNatClampNeg + 1) →
  zob G43 q0 13 ∧
  ∀ G45, G45 = zsr G43 q0 80 q_42 →
  ¬ (120 : Int32) < 0 ∧ (120 : Int32).toNatClampNeg ≤ 67108864 ∧ (120 : Int32).toNatClampNeg + 1 ≤ k44 ∧ ∃ t46, 1024 ≤ t46 ∧ t46 < 3584 ∧ (t46 - 1024) / 512 = 0 ∧
  ∀ q_47, q_47 = zp t46 (zcn G45 t46) → ∀ G48, G48 = znw G45 t46 (120 : Int32).toNatClampNeg → ∀ k49, k49 = k44 - ((120 : Int32).toNatClampNeg + 1) →
  zob G48 q0 13 ∧
  ∀ G50, G50 = zsr G48 q0 81 q_47 →
  ¬ (120 : Int32) < 0 ∧ (120 : Int32).toNatClampNeg ≤ 67108864 ∧ (120 : Int32).toNatClampNeg + 1 ≤ k49 ∧ ∃ t51, 1024 ≤ t51 ∧ t51 < 3584 ∧ (t51 - 1024) / 512 = 0 ∧
  ∀ q_52, q_52 = zp t51 (zcn G50 t51) → ∀ G53, G53 = znw G50 t51 (120 : Int32).toNatClampNeg → ∀ k54, k54 = k49 - ((120 : Int32).toNatClampNeg + 1) →
  zob G53 q0 13 ∧
  ∀ G55, G55 = zsr G53 q0 82 q_52 →
  Q (.inl none) G55
theorem wpt_X12_init_365 {E : ZE} {l : Launch} {d b : Nat} {G0 : ZG} {Q : ZQ} {k : Nat} {q0 : Nat} {G : ZG} (h : wp_X12_init_365 E l d b G0 Q k q0 G) : zW E l mX12_init d b G0 Q k 365 [some (.ref q0)] [] G := by
  unfold wp_X12_init_365 at h
  refine z_aload_n (pc' := 366) dX12_init_365 rfl rfl ?_
  refine z_bipush (x := 120) (pc' := 368) dX12_init_366 (by decide) rfl ?_
  obtain ⟨h1, h2, h3, t1, h4, h5, h6, h⟩ := h
  obtain ⟨q_2, hq⟩ : ∃ z, z = zp t1 (zcn G t1) := ⟨_, rfl⟩
  obtain ⟨G3, hG⟩ : ∃ z, z = znw G t1 (120 : Int32).toNatClampNeg := ⟨_, rfl⟩
  have h := h _ hq _ hG _ rfl
  refine z_newa (t := t1) (kd := 0) (pc' := 370) dX12_init_368 rfl (by decide) a_int rfl h4 h5 h6 h1 rfl h2 h3 ?_
  refine z_mk hq hG ?_
  obtain ⟨h1, h⟩ := h
  obtain ⟨G5, hG⟩ : ∃ z, z = zsr G3 q0 64 q_2 := ⟨_, rfl⟩
  have h := h _ hG
  refine z_putR (ci := 13) (kf := 64) (pc' := 373) dX12_init_370 kX12_145 (Or.inl rfl) (by decide) (by decide) rfl (Or.inr ⟨rfl, rfl⟩) rfl h1 ?_
  refine z_st hG ?_
  refine z_aload_n (pc' := 374) dX12_init_373 rfl rfl ?_
  refine z_sipush (x := 840) (pc' := 377) dX12_init_374 (by decide) rfl ?_
  obtain ⟨h1, h2, h3, t6, h4, h5, h6, h⟩ := h
  obtain ⟨q_7, hq⟩ : ∃ z, z = zp t6 (zcn G5 t6) := ⟨_, rfl⟩
  obtain ⟨G8, hG⟩ : ∃ z, z = znw G5 t6 (840 : Int32).toNatClampNeg := ⟨_, rfl⟩
  have h := h _ hq _ hG _ rfl
  refine z_newa (t := t6) (kd := 0) (pc' := 379) dX12_init_377 rfl (by decide) a_int rfl h4 h5 h6 h1 rfl h2 h3 ?_
  refine z_mk hq hG ?_
  obtain ⟨h1, h⟩ := h
  obtain ⟨G10, hG⟩ : ∃ z, z = zsr G8 q0 65 q_7 := ⟨_, rfl⟩
  have h := h _ hG
  refine z_putR (ci := 13) (kf := 65) (pc' := 382) dX12_init_379 kX12_148 (Or.inl rfl) (by decide) (by decide) rfl (Or.inr ⟨rfl, rfl⟩) rfl h1 ?_
  refine z_st hG ?_
  refine z_aload_n (pc' := 383) dX12_init_382 rfl rfl ?_
  refine z_sipush (x := 150) (pc' := 386) dX12_init_383 (by decide) rfl ?_
  obtain ⟨h1, h2, h3, t11, h4, h5, h6, h⟩ := h
  obtain ⟨q_12, hq⟩ : ∃ z, z = zp t11 (zcn G10 t11) := ⟨_, rfl⟩
  obtain ⟨G13, hG⟩ : ∃ z, z = znw G10 t11 (150 : Int32).toNatClampNeg := ⟨_, rfl⟩
  have h := h _ hq _ hG _ rfl
  refine z_newa (t := t11) (kd := 0) (pc' := 388) dX12_init_386 rfl (by decide) a_int rfl h4 h5 h6 h1 rfl h2 h3 ?_
  refine z_mk hq hG ?_
  obtain ⟨h1, h⟩ := h
  obtain ⟨G15, hG⟩ : ∃ z, z = zsr G13 q0 67 q_12 := ⟨_, rfl⟩
  have h := h _ hG
  refine z_putR (ci := 13) (kf := 67) (pc' := 391) dX12_init_388 kX12_151 (Or.inl rfl) (by decide) (by decide) rfl (Or.inr ⟨rfl, rfl⟩) rfl h1 ?_
  refine z_st hG ?_
  refine z_aload_n (pc' := 392) dX12_init_391 rfl rfl ?_
  refine z_sipush (x := 150) (pc' := 395) dX12_init_392 (by decide) rfl ?_
  obtain ⟨h1, h2, h3, t16, h4, h5, h6, h⟩ := h
  obtain ⟨q_17, hq⟩ : ∃ z, z = zp t16 (zcn G15 t16) := ⟨_, rfl⟩
  obtain ⟨G18, hG⟩ : ∃ z, z = znw G15 t16 (150 : Int32).toNatClampNeg := ⟨_, rfl⟩
  have h := h _ hq _ hG _ rfl
  refine z_newa (t := t16) (kd := 0) (pc' := 397) dX12_init_395 rfl (by decide) a_int rfl h4 h5 h6 h1 rfl h2 h3 ?_
  refine z_mk hq hG ?_
  obtain ⟨h1, h⟩ := h
  obtain ⟨G20, hG⟩ : ∃ z, z = zsr G18 q0 68 q_17 := ⟨_, rfl⟩
  have h := h _ hG
  refine z_putR (ci := 13) (kf := 68) (pc' := 400) dX12_init_397 kX12_154 (Or.inl rfl) (by decide) (by decide) rfl (Or.inr ⟨rfl, rfl⟩) rfl h1 ?_
  refine z_st hG ?_
  refine z_aload_n (pc' := 401) dX12_init_400 rfl rfl ?_
  refine z_sipush (x := 150) (pc' := 404) dX12_init_401 (by decide) rfl ?_
  obtain ⟨h1, h2, h3, t21, h4, h5, h6, h⟩ := h
  obtain ⟨q_22, hq⟩ : ∃ z, z = zp t21 (zcn G20 t21) := ⟨_, rfl⟩
  obtain ⟨G23, hG⟩ : ∃ z, z = znw G20 t21 (150 : Int32).toNatClampNeg := ⟨_, rfl⟩
  have h := h _ hq _ hG _ rfl
  refine z_newa (t := t21) (kd := 0) (pc' := 406) dX12_init_404 rfl (by decide) a_int rfl h4 h5 h6 h1 rfl h2 h3 ?_
  refine z_mk hq hG ?_
  obtain ⟨h1, h⟩ := h
  obtain ⟨G25, hG⟩ : ∃ z, z = zsr G23 q0 69 q_22 := ⟨_, rfl⟩
  have h := h _ hG
  refine z_putR (ci := 13) (kf := 69) (pc' := 409) dX12_init_406 kX12_157 (Or.inl rfl) (by decide) (by decide) rfl (Or.inr ⟨rfl, rfl⟩) rfl h1 ?_
  refine z_st hG ?_
  refine z_aload_n (pc' := 410) dX12_init_409 rfl rfl ?_
  refine z_sipush (x := 150) (pc' := 413) dX12_init_410 (by decide) rfl ?_
  obtain ⟨h1, h2, h3, t26, h4, h5, h6, h⟩ := h
  obtain ⟨q_27, hq⟩ : ∃ z, z = zp t26 (zcn G25 t26) := ⟨_, rfl⟩
  obtain ⟨G28, hG⟩ : ∃ z, z = znw G25 t26 (150 : Int32).toNatClampNeg := ⟨_, rfl⟩
  have h := h _ hq _ hG _ rfl
  refine z_newa (t := t26) (kd := 0) (pc' := 415) dX12_init_413 rfl (by decide) a_int rfl h4 h5 h6 h1 rfl h2 h3 ?_
  refine z_mk hq hG ?_
  obtain ⟨h1, h⟩ := h
  obtain ⟨G30, hG⟩ : ∃ z, z = zsr G28 q0 70 q_27 := ⟨_, rfl⟩
  have h := h _ hG
  refine z_putR (ci := 13) (kf := 70) (pc' := 418) dX12_init_415 kX12_160 (Or.inl rfl) (by decide) (by decide) rfl (Or.inr ⟨rfl, rfl⟩) rfl h1 ?_
  refine z_st hG ?_
  refine z_aload_n (pc' := 419) dX12_init_418 rfl rfl ?_
  refine z_bipush (x := 120) (pc' := 421) dX12_init_419 (by decide) rfl ?_
  obtain ⟨h1, h2, h3, t31, h4, h5, h6, h⟩ := h
  obtain ⟨q_32, hq⟩ : ∃ z, z = zp t31 (zcn G30 t31) := ⟨_, rfl⟩
  obtain ⟨G33, hG⟩ : ∃ z, z = znw G30 t31 (120 : Int32).toNatClampNeg := ⟨_, rfl⟩
  have h := h _ hq _ hG _ rfl
  refine z_newa (t := t31) (kd := 0) (pc' := 423) dX12_init_421 rfl (by decide) a_int rfl h4 h5 h6 h1 rfl h2 h3 ?_
  refine z_mk hq hG ?_
  obtain ⟨h1, h⟩ := h
  obtain ⟨G35, hG⟩ : ∃ z, z = zsr G33 q0 77 q_32 := ⟨_, rfl⟩
  have h := h _ hG
  refine z_putR (ci := 13) (kf := 77) (pc' := 426) dX12_init_423 kX12_163 (Or.inl rfl) (by decide) (by decide) rfl (Or.inr ⟨rfl, rfl⟩) rfl h1 ?_
  refine z_st hG ?_
  refine z_aload_n (pc' := 427) dX12_init_426 rfl rfl ?_
  refine z_sipush (x := 840) (pc' := 430) dX12_init_427 (by decide) rfl ?_
  obtain ⟨h1, h2, h3, t36, h4, h5, h6, h⟩ := h
  obtain ⟨q_37, hq⟩ : ∃ z, z = zp t36 (zcn G35 t36) := ⟨_, rfl⟩
  obtain ⟨G38, hG⟩ : ∃ z, z = znw G35 t36 (840 : Int32).toNatClampNeg := ⟨_, rfl⟩
  have h := h _ hq _ hG _ rfl
  refine z_newa (t := t36) (kd := 0) (pc' := 432) dX12_init_430 rfl (by decide) a_int rfl h4 h5 h6 h1 rfl h2 h3 ?_
  refine z_mk hq hG ?_
  obtain ⟨h1, h⟩ := h
  obtain ⟨G40, hG⟩ : ∃ z, z = zsr G38 q0 79 q_37 := ⟨_, rfl⟩
  have h := h _ hG
  refine z_putR (ci := 13) (kf := 79) (pc' := 435) dX12_init_432 kX12_166 (Or.inl rfl) (by decide) (by decide) rfl (Or.inr ⟨rfl, rfl⟩) rfl h1 ?_
  refine z_st hG ?_
  refine z_aload_n (pc' := 436) dX12_init_435 rfl rfl ?_
  refine z_sipush (x := 150) (pc' := 439) dX12_init_436 (by decide) rfl ?_
  obtain ⟨h1, h2, h3, t41, h4, h5, h6, h⟩ := h
  obtain ⟨q_42, hq⟩ : ∃ z, z = zp t41 (zcn G40 t41) := ⟨_, rfl⟩
  obtain ⟨G43, hG⟩ : ∃ z, z = znw G40 t41 (150 : Int32).toNatClampNeg := ⟨_, rfl⟩
  have h := h _ hq _ hG _ rfl
  refine z_newa (t := t41) (kd := 0) (pc' := 441) dX12_init_439 rfl (by decide) a_int rfl h4 h5 h6 h1 rfl h2 h3 ?_
  refine z_mk hq hG ?_
  obtain ⟨h1, h⟩ := h
  obtain ⟨G45, hG⟩ : ∃ z, z = zsr G43 q0 80 q_42 := ⟨_, rfl⟩
  have h := h _ hG
  refine z_putR (ci := 13) (kf := 80) (pc' := 444) dX12_init_441 kX12_169 (Or.inl rfl) (by decide) (by decide) rfl (Or.inr ⟨rfl, rfl⟩) rfl h1 ?_
  refine z_st hG ?_
  refine z_aload_n (pc' := 445) dX12_init_444 rfl rfl ?_
  refine z_bipush (x := 120) (pc' := 447) dX12_init_445 (by decide) rfl ?_
  obtain ⟨h1, h2, h3, t46, h4, h5, h6, h⟩ := h
  obtain ⟨q_47, hq⟩ : ∃ z, z = zp t46 (zcn G45 t46) := ⟨_, rfl⟩
  obtain ⟨G48, hG⟩ : ∃ z, z = znw G45 t46 (120 : Int32).toNatClampNeg := ⟨_, rfl⟩
  have h := h _ hq _ hG _ rfl
  refine z_newa (t := t46) (kd := 0) (pc' := 449) dX12_init_447 rfl (by decide) a_int rfl h4 h5 h6 h1 rfl h2 h3 ?_
  refine z_mk hq hG ?_
  obtain ⟨h1, h⟩ := h
  obtain ⟨G50, hG⟩ : ∃ z, z = zsr G48 q0 81 q_47 := ⟨_, rfl⟩
  have h := h _ hG
  refine z_putR (ci := 13) (kf := 81) (pc' := 452) dX12_init_449 kX12_172 (Or.inl rfl) (by decide) (by decide) rfl (Or.inr ⟨rfl, rfl⟩) rfl h1 ?_
  refine z_st hG ?_
  refine z_aload_n (pc' := 453) dX12_init_452 rfl rfl ?_
  refine z_bipush (x := 120) (pc' := 455) dX12_init_453 (by decide) rfl ?_
  obtain ⟨h1, h2, h3, t51, h4, h5, h6, h⟩ := h
  obtain ⟨q_52, hq⟩ : ∃ z, z = zp t51 (zcn G50 t51) := ⟨_, rfl⟩
  obtain ⟨G53, hG⟩ : ∃ z, z = znw G50 t51 (120 : Int32).toNatClampNeg := ⟨_, rfl⟩
  have h := h _ hq _ hG _ rfl
  refine z_newa (t := t51) (kd := 0) (pc' := 457) dX12_init_455 rfl (by decide) a_int rfl h4 h5 h6 h1 rfl h2 h3 ?_
  refine z_mk hq hG ?_
  obtain ⟨h1, h⟩ := h
  obtain ⟨G55, hG⟩ : ∃ z, z = zsr G53 q0 82 q_52 := ⟨_, rfl⟩
  have h := h _ hG
  refine z_putR (ci := 13) (kf := 82) (pc' := 460) dX12_init_457 kX12_175 (Or.inl rfl) (by decide) (by decide) rfl (Or.inr ⟨rfl, rfl⟩) rfl h1 ?_
  refine z_st hG ?_
  exact z_vret dX12_init_460 rfl h
def wp_X12_isGap_0 (E : ZE) (l : Launch) (d b : Nat) (G0 : ZG) (Q : ZQ) (k : Nat) (x0 : Int32) (G : ZG) : Prop :=
  ((x0 = 32 →
    Q (.inl (some (.int 1))) G) ∧
  (¬ (x0 = 32) →
    ((¬ x0 = 45 →
      Q (.inl (some (.int 0))) G) ∧
    (¬ (¬ x0 = 45) →
      Q (.inl (some (.int 1))) G))))
theorem wpt_X12_isGap_0 {E : ZE} {l : Launch} {d b : Nat} {G0 : ZG} {Q : ZQ} {k : Nat} {x0 : Int32} {G : ZG} (h : wp_X12_isGap_0 E l d b G0 Q k x0 G) : zW E l mX12_isGap d b G0 Q k 0 [some (.int x0)] [] G := by
  unfold wp_X12_isGap_0 at h
  refine z_iload_n (pc' := 1) dX12_isGap_0 rfl rfl ?_
  refine z_bipush (x := 32) (pc' := 3) dX12_isGap_1 (by decide) rfl ?_
  refine z_icmp_eq (pt := 12) (pc' := 6) dX12_isGap_3 (by decide) rfl (fun hc => ?_) (fun hc => ?_)
  · have h := h.1 hc
    refine z_iconst (x := 1) (pc' := 13) dX12_isGap_12 (by decide) rfl ?_
    refine z_goto (pc' := 17) dX12_isGap_13 (by decide) ?_
    exact z_zret (ty := .boolean) dX12_isGap_17 rfl (by decide) h
  · have h := h.2 hc
    refine z_iload_n (pc' := 7) dX12_isGap_6 rfl rfl ?_
    refine z_bipush (x := 45) (pc' := 9) dX12_isGap_7 (by decide) rfl ?_
    refine z_icmp_ne (pt := 16) (pc' := 12) dX12_isGap_9 (by decide) rfl (fun hc => ?_) (fun hc => ?_)
    · have h := h.1 hc
      refine z_iconst (x := 0) (pc' := 17) dX12_isGap_16 (by decide) rfl ?_
      exact z_zret (ty := .boolean) dX12_isGap_17 rfl (by decide) h
    · have h := h.2 hc
      refine z_iconst (x := 1) (pc' := 13) dX12_isGap_12 (by decide) rfl ?_
      refine z_goto (pc' := 17) dX12_isGap_13 (by decide) ?_
      exact z_zret (ty := .boolean) dX12_isGap_17 rfl (by decide) h
def wp_X12_item_0 (E : ZE) (l : Launch) (d b : Nat) (G0 : ZG) (Q : ZQ) (k : Nat) (x0 : Int32) (G : ZG) : Prop :=
  ((x0 = 0 →
    Q (.inl (some (.ref (zp 1000 15)))) G) ∧
  ((x0 = 1 →
    Q (.inl (some (.ref (zp 1000 16)))) G) ∧
  ((x0 = 2 →
    Q (.inl (some (.ref (zp 1000 17)))) G) ∧
  ((x0 = 3 →
    Q (.inl (some (.ref (zp 1000 18)))) G) ∧
  ((x0 = 4 →
    Q (.inl (some (.ref (zp 1000 19)))) G) ∧
  ((x0 = 5 →
    Q (.inl (some (.ref (zp 1000 20)))) G) ∧
  ((x0 = 6 →
    Q (.inl (some (.ref (zp 1000 21)))) G) ∧
  (¬ x0 = 0 → ¬ x0 = 1 → ¬ x0 = 2 → ¬ x0 = 3 → ¬ x0 = 4 → ¬ x0 = 5 → ¬ x0 = 6 →
    Q (.inl (some (.ref (zp 1000 22)))) G))))))))
theorem wpt_X12_item_0 {E : ZE} {l : Launch} {d b : Nat} {G0 : ZG} {Q : ZQ} {k : Nat} {x0 : Int32} {G : ZG} (h : wp_X12_item_0 E l d b G0 Q k x0 G) : zW E l mX12_item d b G0 Q k 0 [some (.int x0)] [] G := by
  unfold wp_X12_item_0 at h
  refine z_iload_n (pc' := 1) dX12_item_0 rfl rfl ?_
  by_cases hc0 : x0 = 0
  · have h := h.1 hc0
    refine z_tableIn (off := 43) (pt := 44) dX12_item_1 (by rw [hc0]; decide) (by rw [hc0]; decide) (by rw [hc0]; decide) (by decide) ?_
    refine z_ldcS (n := 15) (pc' := 46) (own := RX12) (tx := "deed") rfl (by decide) dX12_item_44 rfl ?_
    exact z_aret dX12_item_46 rfl (Or.inl ⟨_, rfl⟩) h
  have h := h.2
  by_cases hc1 : x0 = 1
  · have h := h.1 hc1
    refine z_tableIn (off := 46) (pt := 47) dX12_item_1 (by rw [hc1]; decide) (by rw [hc1]; decide) (by rw [hc1]; decide) (by decide) ?_
    refine z_ldcS (n := 16) (pc' := 49) (own := RX12) (tx := "photo") rfl (by decide) dX12_item_47 rfl ?_
    exact z_aret dX12_item_49 rfl (Or.inl ⟨_, rfl⟩) h
  have h := h.2
  by_cases hc2 : x0 = 2
  · have h := h.1 hc2
    refine z_tableIn (off := 49) (pt := 50) dX12_item_1 (by rw [hc2]; decide) (by rw [hc2]; decide) (by rw [hc2]; decide) (by decide) ?_
    refine z_ldcS (n := 17) (pc' := 52) (own := RX12) (tx := "consent") rfl (by decide) dX12_item_50 rfl ?_
    exact z_aret dX12_item_52 rfl (Or.inl ⟨_, rfl⟩) h
  have h := h.2
  by_cases hc3 : x0 = 3
  · have h := h.1 hc3
    refine z_tableIn (off := 52) (pt := 53) dX12_item_1 (by rw [hc3]; decide) (by rw [hc3]; decide) (by rw [hc3]; decide) (by decide) ?_
    refine z_ldcS (n := 18) (pc' := 55) (own := RX12) (tx := "both") rfl (by decide) dX12_item_53 rfl ?_
    exact z_aret dX12_item_55 rfl (Or.inl ⟨_, rfl⟩) h
  have h := h.2
  by_cases hc4 : x0 = 4
  · have h := h.1 hc4
    refine z_tableIn (off := 55) (pt := 56) dX12_item_1 (by rw [hc4]; decide) (by rw [hc4]; decide) (by rw [hc4]; decide) (by decide) ?_
    refine z_ldcS (n := 19) (pc' := 58) (own := RX12) (tx := "oldbook") rfl (by decide) dX12_item_56 rfl ?_
    exact z_aret dX12_item_58 rfl (Or.inl ⟨_, rfl⟩) h
  have h := h.2
  by_cases hc5 : x0 = 5
  · have h := h.1 hc5
    refine z_tableIn (off := 58) (pt := 59) dX12_item_1 (by rw [hc5]; decide) (by rw [hc5]; decide) (by rw [hc5]; decide) (by decide) ?_
    refine z_ldcS (n := 20) (pc' := 61) (own := RX12) (tx := "report") rfl (by decide) dX12_item_59 rfl ?_
    exact z_aret dX12_item_61 rfl (Or.inl ⟨_, rfl⟩) h
  have h := h.2
  by_cases hc6 : x0 = 6
  · have h := h.1 hc6
    refine z_tableIn (off := 61) (pt := 62) dX12_item_1 (by rw [hc6]; decide) (by rw [hc6]; decide) (by rw [hc6]; decide) (by decide) ?_
    refine z_ldcS (n := 21) (pc' := 64) (own := RX12) (tx := "ticket") rfl (by decide) dX12_item_62 rfl ?_
    exact z_aret dX12_item_64 rfl (Or.inl ⟨_, rfl⟩) h
  have h := h.2
  have h := h hc0 hc1 hc2 hc3 hc4 hc5 hc6
  refine z_tableOut (pt := 65) dX12_item_1 (by have e0 := lv_neT (a := 0) hc0 (by decide); have e1 := lv_neT (a := 1) hc1 (by decide); have e2 := lv_neT (a := 2) hc2 (by decide); have e3 := lv_neT (a := 3) hc3 (by decide); have e4 := lv_neT (a := 4) hc4 (by decide); have e5 := lv_neT (a := 5) hc5 (by decide); have e6 := lv_neT (a := 6) hc6 (by decide); omega) (by decide) ?_
  refine z_ldcS (n := 22) (pc' := 67) (own := RX12) (tx := "change") rfl (by decide) dX12_item_65 rfl ?_
  exact z_aret dX12_item_67 rfl (Or.inl ⟨_, rfl⟩) h
def wp_X12_noDesk_0 (E : ZE) (l : Launch) (d b : Nat) (G0 : ZG) (Q : ZQ) (k : Nat) (x0 : Int32) (G : ZG) : Prop :=
  xcI E l mX12_in d [.int x0, .int 0, .int 3] G k (fun X G9 => Q (.inr X) G9) (fun y1 G2 k3 =>
  ((¬ y1 = 0 →
    Q (.inl (some (.int 0))) G2) ∧
  (¬ (¬ y1 = 0) →
    Q (.inl (some (.int 1))) G2)))
theorem wpt_X12_noDesk_0 {E : ZE} {l : Launch} {d b : Nat} {G0 : ZG} {Q : ZQ} {k : Nat} {x0 : Int32} {G : ZG} (h : wp_X12_noDesk_0 E l d b G0 Q k x0 G) : zW E l mX12_noDesk d b G0 Q k 0 [some (.int x0)] [] G := by
  unfold wp_X12_noDesk_0 at h
  refine z_iload_n (pc' := 1) dX12_noDesk_0 rfl rfl ?_
  refine z_iconst (x := 0) (pc' := 2) dX12_noDesk_1 (by decide) rfl ?_
  refine z_iconst (x := 3) (pc' := 3) dX12_noDesk_2 (by decide) rfl ?_
  obtain ⟨d1, b1, Qz, hm, hdd, hb, hkx, hk⟩ := h
  refine z_callS (Y := mX12_in) (n := 3) (as := [.int x0, .int 0, .int 3]) (st := []) (pc' := 6) hm dX12_noDesk_3 kX12_317 sX12_in rfl rfl hdd hb (Nat.le_of_ble_eq_true rfl) (fun r G2 hz => ?_) hkx
  obtain ⟨y1, rfl, h⟩ := hk r G2 hz
  refine z_if_ne (pt := 13) (pc' := 9) dX12_noDesk_6 (by decide) rfl (fun hc => ?_) (fun hc => ?_)
  · have h := h.1 hc
    refine z_iconst (x := 0) (pc' := 14) dX12_noDesk_13 (by decide) rfl ?_
    exact z_zret (ty := .boolean) dX12_noDesk_14 rfl (by decide) h
  · have h := h.2 hc
    refine z_iconst (x := 1) (pc' := 10) dX12_noDesk_9 (by decide) rfl ?_
    refine z_goto (pc' := 14) dX12_noDesk_10 (by decide) ?_
    exact z_zret (ty := .boolean) dX12_noDesk_14 rfl (by decide) h
def wp_X12_noFace_0 (E : ZE) (l : Launch) (d b : Nat) (G0 : ZG) (Q : ZQ) (k : Nat) (x0 : Int32) (G : ZG) : Prop :=
  xcI E l mX12_in d [.int x0, .int 0, .int 99] G k (fun X G9 => Q (.inr X) G9) (fun y1 G2 k3 =>
  ((¬ y1 = 0 →
    Q (.inl (some (.int 0))) G2) ∧
  (¬ (¬ y1 = 0) →
    Q (.inl (some (.int 1))) G2)))
theorem wpt_X12_noFace_0 {E : ZE} {l : Launch} {d b : Nat} {G0 : ZG} {Q : ZQ} {k : Nat} {x0 : Int32} {G : ZG} (h : wp_X12_noFace_0 E l d b G0 Q k x0 G) : zW E l mX12_noFace d b G0 Q k 0 [some (.int x0)] [] G := by
  unfold wp_X12_noFace_0 at h
  refine z_iload_n (pc' := 1) dX12_noFace_0 rfl rfl ?_
  refine z_iconst (x := 0) (pc' := 2) dX12_noFace_1 (by decide) rfl ?_
  refine z_bipush (x := 99) (pc' := 4) dX12_noFace_2 (by decide) rfl ?_
  obtain ⟨d1, b1, Qz, hm, hdd, hb, hkx, hk⟩ := h
  refine z_callS (Y := mX12_in) (n := 3) (as := [.int x0, .int 0, .int 99]) (st := []) (pc' := 7) hm dX12_noFace_4 kX12_317 sX12_in rfl rfl hdd hb (Nat.le_of_ble_eq_true rfl) (fun r G2 hz => ?_) hkx
  obtain ⟨y1, rfl, h⟩ := hk r G2 hz
  refine z_if_ne (pt := 14) (pc' := 10) dX12_noFace_7 (by decide) rfl (fun hc => ?_) (fun hc => ?_)
  · have h := h.1 hc
    refine z_iconst (x := 0) (pc' := 15) dX12_noFace_14 (by decide) rfl ?_
    exact z_zret (ty := .boolean) dX12_noFace_15 rfl (by decide) h
  · have h := h.2 hc
    refine z_iconst (x := 1) (pc' := 11) dX12_noFace_10 (by decide) rfl ?_
    refine z_goto (pc' := 15) dX12_noFace_11 (by decide) ?_
    exact z_zret (ty := .boolean) dX12_noFace_15 rfl (by decide) h
def wp_X12_stateAt_0 (E : ZE) (l : Launch) (d b : Nat) (G0 : ZG) (Q : ZQ) (k : Nat) (x0 : Int32) (G : ZG) : Prop :=
  ((¬ x0 = 0 →
    ((¬ x0 = 1 →
      ((¬ x0 = 2 →
        Q (.inl (some (.int 5))) G) ∧
      (¬ (¬ x0 = 2) →
        Q (.inl (some (.int 4))) G))) ∧
    (¬ (¬ x0 = 1) →
      Q (.inl (some (.int 2))) G))) ∧
  (¬ (¬ x0 = 0) →
    Q (.inl (some (.int 0))) G))
theorem wpt_X12_stateAt_0 {E : ZE} {l : Launch} {d b : Nat} {G0 : ZG} {Q : ZQ} {k : Nat} {x0 : Int32} {G : ZG} (h : wp_X12_stateAt_0 E l d b G0 Q k x0 G) : zW E l mX12_stateAt d b G0 Q k 0 [some (.int x0)] [] G := by
  unfold wp_X12_stateAt_0 at h
  refine z_iload_n (pc' := 1) dX12_stateAt_0 rfl rfl ?_
  refine z_if_ne (pt := 8) (pc' := 4) dX12_stateAt_1 (by decide) rfl (fun hc => ?_) (fun hc => ?_)
  · have h := h.1 hc
    refine z_iload_n (pc' := 9) dX12_stateAt_8 rfl rfl ?_
    refine z_iconst (x := 1) (pc' := 10) dX12_stateAt_9 (by decide) rfl ?_
    refine z_icmp_ne (pt := 17) (pc' := 13) dX12_stateAt_10 (by decide) rfl (fun hc => ?_) (fun hc => ?_)
    · have h := h.1 hc
      refine z_iload_n (pc' := 18) dX12_stateAt_17 rfl rfl ?_
      refine z_iconst (x := 2) (pc' := 19) dX12_stateAt_18 (by decide) rfl ?_
      refine z_icmp_ne (pt := 26) (pc' := 22) dX12_stateAt_19 (by decide) rfl (fun hc => ?_) (fun hc => ?_)
      · have h := h.1 hc
        refine z_iconst (x := 5) (pc' := 27) dX12_stateAt_26 (by decide) rfl ?_
        exact z_iret dX12_stateAt_27 rfl h
      · have h := h.2 hc
        refine z_iconst (x := 4) (pc' := 23) dX12_stateAt_22 (by decide) rfl ?_
        refine z_goto (pc' := 27) dX12_stateAt_23 (by decide) ?_
        exact z_iret dX12_stateAt_27 rfl h
    · have h := h.2 hc
      refine z_iconst (x := 2) (pc' := 14) dX12_stateAt_13 (by decide) rfl ?_
      refine z_goto (pc' := 27) dX12_stateAt_14 (by decide) ?_
      exact z_iret dX12_stateAt_27 rfl h
  · have h := h.2 hc
    refine z_iconst (x := 0) (pc' := 5) dX12_stateAt_4 (by decide) rfl ?_
    refine z_goto (pc' := 27) dX12_stateAt_5 (by decide) ?_
    exact z_iret dX12_stateAt_27 rfl h
def wp_X12_turnOf_0 (E : ZE) (l : Launch) (d b : Nat) (G0 : ZG) (Q : ZQ) (k : Nat) (x0 : Int32) (G : ZG) : Prop :=
  xcI E l mX12_in d [.int x0, .int 65, .int 90] G k (fun X G9 => Q (.inr X) G9) (fun y1 G2 k3 =>
  ((y1 = 0 →
    xcI E l mX12_in d [.int x0, .int 97, .int 122] G2 k3 (fun X G9 => Q (.inr X) G9) (fun y4 G5 k6 =>
    ((y4 = 0 →
      ((x0 = 32 ∨ x0 = 45 →
        Q (.inl (some (.int 60))) G5) ∧
      ((x0 = 196 ∨ x0 = 198 ∨ x0 = 228 ∨ x0 = 230 →
        Q (.inl (some (.int 17729))) G5) ∧
      ((x0 = 197 ∨ x0 = 229 →
        Q (.inl (some (.int 16705))) G5) ∧
      ((x0 = 199 ∨ x0 = 231 →
        Q (.inl (some (.int 67))) G5) ∧
      ((x0 = 200 ∨ x0 = 201 ∨ x0 = 232 ∨ x0 = 233 →
        Q (.inl (some (.int 69))) G5) ∧
      ((x0 = 209 ∨ x0 = 241 →
        Q (.inl (some (.int 78))) G5) ∧
      ((x0 = 214 ∨ x0 = 216 ∨ x0 = 246 ∨ x0 = 248 →
        Q (.inl (some (.int 17743))) G5) ∧
      ((x0 = 220 ∨ x0 = 252 →
        Q (.inl (some (.int 17749))) G5) ∧
      ((x0 = 223 →
        Q (.inl (some (.int 21331))) G5) ∧
      (¬ (x0 = 32 ∨ x0 = 45) → ¬ (x0 = 196 ∨ x0 = 198 ∨ x0 = 228 ∨ x0 = 230) → ¬ (x0 = 197 ∨ x0 = 229) → ¬ (x0 = 199 ∨ x0 = 231) → ¬ (x0 = 200 ∨ x0 = 201 ∨ x0 = 232 ∨ x0 = 233) → ¬ (x0 = 209 ∨ x0 = 241) → ¬ (x0 = 214 ∨ x0 = 216 ∨ x0 = 246 ∨ x0 = 248) → ¬ (x0 = 220 ∨ x0 = 252) → ¬ (x0 = 223) →
        Q (.inl (some (.int 0))) G5))))))))))) ∧
    (¬ (y4 = 0) →
      Q (.inl (some (.int (x0 - 32)))) G5)))) ∧
  (¬ (y1 = 0) →
    Q (.inl (some (.int x0))) G2)))
theorem wpt_X12_turnOf_0 {E : ZE} {l : Launch} {d b : Nat} {G0 : ZG} {Q : ZQ} {k : Nat} {x0 : Int32} {G : ZG} (h : wp_X12_turnOf_0 E l d b G0 Q k x0 G) : zW E l mX12_turnOf d b G0 Q k 0 [some (.int x0)] [] G := by
  unfold wp_X12_turnOf_0 at h
  refine z_iload_n (pc' := 1) dX12_turnOf_0 rfl rfl ?_
  refine z_bipush (x := 65) (pc' := 3) dX12_turnOf_1 (by decide) rfl ?_
  refine z_bipush (x := 90) (pc' := 5) dX12_turnOf_3 (by decide) rfl ?_
  obtain ⟨d1, b1, Qz, hm, hdd, hb, hkx, hk⟩ := h
  refine z_callS (Y := mX12_in) (n := 3) (as := [.int x0, .int 65, .int 90]) (st := []) (pc' := 8) hm dX12_turnOf_5 kX12_317 sX12_in rfl rfl hdd hb (Nat.le_of_ble_eq_true rfl) (fun r G2 hz => ?_) hkx
  obtain ⟨y1, rfl, h⟩ := hk r G2 hz
  refine z_if_eq (pt := 13) (pc' := 11) dX12_turnOf_8 (by decide) rfl (fun hc => ?_) (fun hc => ?_)
  · have h := h.1 hc
    refine z_iload_n (pc' := 14) dX12_turnOf_13 rfl rfl ?_
    refine z_bipush (x := 97) (pc' := 16) dX12_turnOf_14 (by decide) rfl ?_
    refine z_bipush (x := 122) (pc' := 18) dX12_turnOf_16 (by decide) rfl ?_
    obtain ⟨d1, b1, Qz, hm, hdd, hb, hkx, hk⟩ := h
    refine z_callS (Y := mX12_in) (n := 3) (as := [.int x0, .int 97, .int 122]) (st := []) (pc' := 21) hm dX12_turnOf_18 kX12_317 sX12_in rfl rfl hdd hb (Nat.le_of_ble_eq_true rfl) (fun r G5 hz => ?_) hkx
    obtain ⟨y4, rfl, h⟩ := hk r G5 hz
    refine z_if_eq (pt := 29) (pc' := 24) dX12_turnOf_21 (by decide) rfl (fun hc => ?_) (fun hc => ?_)
    · have h := h.1 hc
      refine z_iload_n (pc' := 30) dX12_turnOf_29 rfl rfl ?_
      by_cases hc0 : x0 = 32 ∨ x0 = 45
      · have h := h.1 hc0
        refine z_lookup (off := 194) (pt := 224) dX12_turnOf_30 (by decide) (by rcases hc0 with hc0 | hc0 <;> (rw [hc0]; decide)) (by decide) ?_
        refine z_bipush (x := 60) (pc' := 226) dX12_turnOf_224 (by decide) rfl ?_
        exact z_iret dX12_turnOf_226 rfl h
      have h := h.2
      by_cases hc1 : x0 = 196 ∨ x0 = 198 ∨ x0 = 228 ∨ x0 = 230
      · have h := h.1 hc1
        refine z_lookup (off := 197) (pt := 227) dX12_turnOf_30 (by decide) (by rcases hc1 with hc1 | hc1 | hc1 | hc1 <;> (rw [hc1]; decide)) (by decide) ?_
        refine z_sipush (x := 17729) (pc' := 230) dX12_turnOf_227 (by decide) rfl ?_
        exact z_iret dX12_turnOf_230 rfl h
      have h := h.2
      by_cases hc2 : x0 = 197 ∨ x0 = 229
      · have h := h.1 hc2
        refine z_lookup (off := 213) (pt := 243) dX12_turnOf_30 (by decide) (by rcases hc2 with hc2 | hc2 <;> (rw [hc2]; decide)) (by decide) ?_
        refine z_sipush (x := 16705) (pc' := 246) dX12_turnOf_243 (by decide) rfl ?_
        exact z_iret dX12_turnOf_246 rfl h
      have h := h.2
      by_cases hc3 : x0 = 199 ∨ x0 = 231
      · have h := h.1 hc3
        refine z_lookup (off := 223) (pt := 253) dX12_turnOf_30 (by decide) (by rcases hc3 with hc3 | hc3 <;> (rw [hc3]; decide)) (by decide) ?_
        refine z_bipush (x := 67) (pc' := 255) dX12_turnOf_253 (by decide) rfl ?_
        exact z_iret dX12_turnOf_255 rfl h
      have h := h.2
      by_cases hc4 : x0 = 200 ∨ x0 = 201 ∨ x0 = 232 ∨ x0 = 233
      · have h := h.1 hc4
        refine z_lookup (off := 220) (pt := 250) dX12_turnOf_30 (by decide) (by rcases hc4 with hc4 | hc4 | hc4 | hc4 <;> (rw [hc4]; decide)) (by decide) ?_
        refine z_bipush (x := 69) (pc' := 252) dX12_turnOf_250 (by decide) rfl ?_
        exact z_iret dX12_turnOf_252 rfl h
      have h := h.2
      by_cases hc5 : x0 = 209 ∨ x0 = 241
      · have h := h.1 hc5
        refine z_lookup (off := 217) (pt := 247) dX12_turnOf_30 (by decide) (by rcases hc5 with hc5 | hc5 <;> (rw [hc5]; decide)) (by decide) ?_
        refine z_bipush (x := 78) (pc' := 249) dX12_turnOf_247 (by decide) rfl ?_
        exact z_iret dX12_turnOf_249 rfl h
      have h := h.2
      by_cases hc6 : x0 = 214 ∨ x0 = 216 ∨ x0 = 246 ∨ x0 = 248
      · have h := h.1 hc6
        refine z_lookup (off := 201) (pt := 231) dX12_turnOf_30 (by decide) (by rcases hc6 with hc6 | hc6 | hc6 | hc6 <;> (rw [hc6]; decide)) (by decide) ?_
        refine z_sipush (x := 17743) (pc' := 234) dX12_turnOf_231 (by decide) rfl ?_
        exact z_iret dX12_turnOf_234 rfl h
      have h := h.2
      by_cases hc7 : x0 = 220 ∨ x0 = 252
      · have h := h.1 hc7
        refine z_lookup (off := 205) (pt := 235) dX12_turnOf_30 (by decide) (by rcases hc7 with hc7 | hc7 <;> (rw [hc7]; decide)) (by decide) ?_
        refine z_sipush (x := 17749) (pc' := 238) dX12_turnOf_235 (by decide) rfl ?_
        exact z_iret dX12_turnOf_238 rfl h
      have h := h.2
      by_cases hc8 : x0 = 223
      · have h := h.1 hc8
        refine z_lookup (off := 209) (pt := 239) dX12_turnOf_30 (by decide) (by rcases hc8 with hc8 <;> (rw [hc8]; decide)) (by decide) ?_
        refine z_sipush (x := 21331) (pc' := 242) dX12_turnOf_239 (by decide) rfl ?_
        exact z_iret dX12_turnOf_242 rfl h
      have h := h.2
      have h := h hc0 hc1 hc2 hc3 hc4 hc5 hc6 hc7 hc8
      simp only [not_or] at hc0 hc1 hc2 hc3 hc4 hc5 hc6 hc7 hc8
      refine z_lookup (off := 226) (pt := 256) dX12_turnOf_30 (by decide) (z_lkno (ps := [(32, 194), (45, 194), (196, 197), (197, 213), (198, 197), (199, 223), (200, 220), (201, 220), (209, 217), (214, 201), (216, 201), (220, 205), (223, 209), (228, 197), (229, 213), (230, 197), (231, 223), (232, 220), (233, 220), (241, 217), (246, 201), (248, 201), (252, 205)]) (by simp only [List.mem_cons, List.not_mem_nil, or_false, forall_eq_or_imp, forall_eq]; exact ⟨(lv_neT (a := 32) hc0.1 (by decide)), (lv_neT (a := 45) hc0.2 (by decide)), (lv_neT (a := 196) hc1.1 (by decide)), (lv_neT (a := 197) hc2.1 (by decide)), (lv_neT (a := 198) hc1.2.1 (by decide)), (lv_neT (a := 199) hc3.1 (by decide)), (lv_neT (a := 200) hc4.1 (by decide)), (lv_neT (a := 201) hc4.2.1 (by decide)), (lv_neT (a := 209) hc5.1 (by decide)), (lv_neT (a := 214) hc6.1 (by decide)), (lv_neT (a := 216) hc6.2.1 (by decide)), (lv_neT (a := 220) hc7.1 (by decide)), (lv_neT (a := 223) hc8 (by decide)), (lv_neT (a := 228) hc1.2.2.1 (by decide)), (lv_neT (a := 229) hc2.2 (by decide)), (lv_neT (a := 230) hc1.2.2.2 (by decide)), (lv_neT (a := 231) hc3.2 (by decide)), (lv_neT (a := 232) hc4.2.2.1 (by decide)), (lv_neT (a := 233) hc4.2.2.2 (by decide)), (lv_neT (a := 241) hc5.2 (by decide)), (lv_neT (a := 246) hc6.2.2.1 (by decide)), (lv_neT (a := 248) hc6.2.2.2 (by decide)), (lv_neT (a := 252) hc7.2 (by decide))⟩)) (by decide) ?_
      refine z_iconst (x := 0) (pc' := 257) dX12_turnOf_256 (by decide) rfl ?_
      exact z_iret dX12_turnOf_257 rfl h
    · have h := h.2 hc
      refine z_iload_n (pc' := 25) dX12_turnOf_24 rfl rfl ?_
      refine z_bipush (x := 32) (pc' := 27) dX12_turnOf_25 (by decide) rfl ?_
      refine z_isub (pc' := 28) dX12_turnOf_27 rfl rfl ?_
      exact z_iret dX12_turnOf_28 rfl h
  · have h := h.2 hc
    refine z_iload_n (pc' := 12) dX12_turnOf_11 rfl rfl ?_
    exact z_iret dX12_turnOf_12 rfl h
